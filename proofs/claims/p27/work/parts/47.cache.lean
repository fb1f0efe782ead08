/-! ===== the class's cache ===== -/
def zPm (p : Nat → Nat) : Prop := (∀ j, j < 48 → p j < 48) ∧ ∀ i j, i < 48 → j < 48 → p i = p j → i = j
def zcF (m : Nat → Nat → Int32) (p : Nat → Nat) (w j : Nat) : Int32 := m (53 + 2 * p j) w
def zcV (m : Nat → Nat → Int32) (p : Nat → Nat) (j k : Nat) : Int32 := m (54 + 2 * p j) k
/-- c: 1 uses, 2 size, 3 room, 4 hits, 5 misses, 6 dropped, 7 voided -/
def zCX (m : Nat → Nat → Int32) (p X Y c : Nat → Nat) (K : Nat → Nat → Nat) (W : Nat → Nat → Nat → Int32) (E : Nat → Nat → Nat) : Prop :=
  zPm p ∧ (∀ i, 1 ≤ i → i < 8 → m 51 i = nI (c i)) ∧ c 2 ≤ 48 ∧ zP X Y (c 2) (zcF m p) (zcV m p) p K W E
theorem zPic {n q : Nat} {p : Nat → Nat} (h : q < 48) : 53 + 2 * q + 1 < 149 ∧ zs_sh n (53 + 2 * q) = (3, 4) ∧ zs_sh n (54 + 2 * q) = (9, 96) ∧ zR p (53 + 2 * q) 3 = some (54 + 2 * q) := by
  refine ⟨by omega, ?_, ?_, ?_⟩
  · unfold zs_sh
    simp only [show ¬ 53 + 2 * q < 3 by omega, show ¬ 53 + 2 * q < 6 by omega, show ¬ 53 + 2 * q = 6 by omega, show ¬ 53 + 2 * q = 7 by omega, show ¬ 53 + 2 * q = 8 by omega, show ¬ 53 + 2 * q = 9 by omega, show ¬ 53 + 2 * q < 51 by omega, show ¬ 53 + 2 * q = 51 by omega, show ¬ 53 + 2 * q = 52 by omega, show 53 + 2 * q < 149 by omega, show (53 + 2 * q - 53) % 2 = 0 by omega, if_true, if_false]
  · unfold zs_sh
    simp only [show ¬ 54 + 2 * q < 3 by omega, show ¬ 54 + 2 * q < 6 by omega, show ¬ 54 + 2 * q = 6 by omega, show ¬ 54 + 2 * q = 7 by omega, show ¬ 54 + 2 * q = 8 by omega, show ¬ 54 + 2 * q = 9 by omega, show ¬ 54 + 2 * q < 51 by omega, show ¬ 54 + 2 * q = 51 by omega, show ¬ 54 + 2 * q = 52 by omega, show 54 + 2 * q < 149 by omega, show ¬ (54 + 2 * q - 53) % 2 = 0 by omega, if_true, if_false]
  · unfold zR
    simp only [show ¬ 53 + 2 * q < 9 by omega, show ¬ 53 + 2 * q = 9 by omega, show ¬ 53 + 2 * q < 51 by omega, show ¬ 53 + 2 * q = 51 by omega, show ¬ 53 + 2 * q = 52 by omega, show 53 + 2 * q < 149 by omega, show (53 + 2 * q - 53) % 2 = 0 by omega, if_true, if_false, and_self]
    congr 1
    omega
section CACHE
variable {n x y j : Nat} {m : Nat → Nat → Int32} {p X Y c : Nat → Nat} {K E : Nat → Nat → Nat} {W : Nat → Nat → Nat → Int32}
theorem z_c1 {k : Nat} : ax_gi (zC n m p) 0 k (some 51) = some (m 51 k) := z_gi (by omega) rfl
theorem z_c2 {k : Nat} {v : Int32} : ax_pi (zC n m p) 0 k (some 51) v = some (zC n (ax_u2 m 51 k v) p) := z_pi (by omega) rfl
theorem z_cs : ax_sh (zC n m p) 0 (some 51) = some (51, 8) := z_sh (by omega) rfl
theorem z_c0 : ax_gr (zC n m p) 0 0 (some 51) = some (some 52) := by
  rw [z_gr (t := 0) (a := 51) (by omega) rfl]
  rfl
theorem z_pic (hj : j < 48) : ax_ar (zC n m p) 13 (some 52) (nI j) = some (some (53 + 2 * p j)) := by
  rw [z_ar (t := 13) (a := 52) (by omega) rfl (by exact hj) (by omega)]
  show some (if j < 48 then some (53 + 2 * p j) else none) = _
  rw [if_pos hj]
theorem z_p1 {k q : Nat} (hq : q < 48) : ax_gi (zC n m p) 3 k (some (53 + 2 * q)) = some (m (53 + 2 * q) k) := by
  obtain ⟨h1, h2, h3, h4⟩ := zPic (n := n) (p := p) hq
  exact z_gi (by omega) (by rw [h2])
theorem z_p2 {k q : Nat} {v : Int32} (hq : q < 48) : ax_pi (zC n m p) 3 k (some (53 + 2 * q)) v = some (zC n (ax_u2 m (53 + 2 * q) k v) p) := by
  obtain ⟨h1, h2, h3, h4⟩ := zPic (n := n) (p := p) hq
  exact z_pi (by omega) (by rw [h2])
theorem z_p3 {q : Nat} (hq : q < 48) : ax_gr (zC n m p) 3 3 (some (53 + 2 * q)) = some (some (54 + 2 * q)) := by
  obtain ⟨h1, h2, h3, h4⟩ := zPic (n := n) (p := p) hq
  rw [z_gr (by omega) (by rw [h2]), h4]
theorem f_find_lp (h : zCX m p X Y c K W E) : ∀ (d j f : Nat), j + d = c 2 → d < f → (∀ i, j ≤ i → i < c 2 → ¬ (X i = x ∧ Y i = y)) → x < 2 ^ 31 → y < 2 ^ 31 → fb_X0_find_2 f (some 51) (nI x) (nI y) (nI j) (zC n m p) = some (none, zC n m p) := by
  obtain ⟨hp, hc, h48, hP⟩ := h
  intro d
  induction d with
  | zero =>
    intro j f hj hf hn hx hy
    obtain ⟨f, rfl⟩ : ∃ k, f = k + 1 := ⟨f - 1, by omega⟩
    unfold fb_X0_find_2
    rw [z_c1, hc 2 (by omega) (by omega)]
    simp only [Option.bind_some]
    rw [if_pos (nI_le (by omega) (by omega))]
  | succ d ih =>
    intro j f hj hf hn hx hy
    obtain ⟨f, rfl⟩ : ∃ k, f = k + 1 := ⟨f - 1, by omega⟩
    obtain ⟨a1, a2, a3, a4, a5, a6, a7, a8⟩ := hP.1 j (by omega)
    have ih1 := ih (j + 1) f (by omega) (by omega) (fun i h1 h2 => hn i (by omega) h2) hx hy
    have hpj := hp.1 j (by omega)
    have hn1 := hn j (Nat.le_refl _) (by omega)
    unfold fb_X0_find_2
    rw [z_c1, hc 2 (by omega) (by omega)]
    simp only [Option.bind_some]
    rw [if_neg (nI_ge (by omega) (by omega)), z_c0]
    simp only [Option.bind_some]
    rw [z_pic (by omega)]
    simp only [Option.bind_some]
    rw [z_p1 hpj, show m (53 + 2 * p j) 0 = nI (X j) from a3, z_p1 hpj, show m (53 + 2 * p j) 1 = nI (Y j) from a4]
    simp only [Option.bind_some]
    rw [show nI j + 1 = nI (j + 1) from nI_1 j]
    by_cases h1 : X j = x
    · rw [if_pos (by rw [h1]), if_neg (fun q => hn1 ⟨h1, nI_inj (by omega) hy q⟩)]
      exact ih1
    · rw [if_neg (fun q => h1 (nI_inj (by omega) hx q))]
      exact ih1
theorem f_find_yes (h : zCX m p X Y c K W E) {t : Nat} (ht : t < c 2) : ∀ (d j f : Nat), j + d = t → d < f → fb_X0_find_2 f (some 51) (nI (X t)) (nI (Y t)) (nI j) (zC n m p) = some (some (53 + 2 * p t), zC n m p) := by
  obtain ⟨hp, hc, h48, hP⟩ := h
  obtain ⟨b1, b2, b3, b4, b5, b6, b7, b8⟩ := hP.1 t (by omega)
  intro d
  induction d with
  | zero =>
    intro j f hj hf
    obtain ⟨f, rfl⟩ : ∃ k, f = k + 1 := ⟨f - 1, by omega⟩
    obtain rfl : j = t := by omega
    have hpj := hp.1 j (by omega)
    unfold fb_X0_find_2
    rw [z_c1, hc 2 (by omega) (by omega)]
    simp only [Option.bind_some]
    rw [if_neg (nI_ge (by omega) (by omega)), z_c0]
    simp only [Option.bind_some]
    rw [z_pic (by omega)]
    simp only [Option.bind_some]
    rw [z_p1 hpj, show m (53 + 2 * p j) 0 = nI (X j) from b3, z_p1 hpj, show m (53 + 2 * p j) 1 = nI (Y j) from b4]
    simp only [Option.bind_some, if_true]
  | succ d ih =>
    intro j f hj hf
    obtain ⟨f, rfl⟩ : ∃ k, f = k + 1 := ⟨f - 1, by omega⟩
    obtain ⟨a1, a2, a3, a4, a5, a6, a7, a8⟩ := hP.1 j (by omega)
    have ih1 := ih (j + 1) f (by omega) (by omega)
    have hpj := hp.1 j (by omega)
    have hn1 : ¬ (X j = X t ∧ Y j = Y t) := fun q => by
      have := hP.2.1 j t (by omega) ht q.1 q.2
      omega
    unfold fb_X0_find_2
    rw [z_c1, hc 2 (by omega) (by omega)]
    simp only [Option.bind_some]
    rw [if_neg (nI_ge (by omega) (by omega)), z_c0]
    simp only [Option.bind_some]
    rw [z_pic (by omega)]
    simp only [Option.bind_some]
    rw [z_p1 hpj, show m (53 + 2 * p j) 0 = nI (X j) from a3, z_p1 hpj, show m (53 + 2 * p j) 1 = nI (Y j) from a4]
    simp only [Option.bind_some]
    rw [show nI j + 1 = nI (j + 1) from nI_1 j]
    by_cases h1 : X j = X t
    · rw [if_pos (by rw [h1]), if_neg (fun q => hn1 ⟨h1, nI_inj (by omega) (by omega) q⟩)]
      exact ih1
    · rw [if_neg (fun q => h1 (nI_inj (by omega) (by omega) q))]
      exact ih1
theorem f_find0 (h : zCX m p X Y c K W E) (hx : x < 2 ^ 31) (hy : y < 2 ^ 31) (hk : K x y = 0) : fn_X0_find (some 51) (nI x) (nI y) (zC n m p) = some (none, zC n m p) := by
  have h48 := h.2.2.1
  have := f_find_lp (n := n) (x := x) (y := y) h (c 2) 0 10000 (by omega) (by omega) (fun i _ hi q => (h.2.2.2.1 i hi).2.2.2.2.1 (by rw [q.1, q.2]; exact hk)) hx hy
  rw [nI_0] at this
  exact this
theorem f_find1 (h : zCX m p X Y c K W E) (hk : K x y ≠ 0) : fn_X0_find (some 51) (nI x) (nI y) (zC n m p) = some (some (53 + 2 * E x y), zC n m p) := by
  have h48 := h.2.2.1
  obtain ⟨j, hj, rfl, rfl⟩ := h.2.2.2.2.2 x y hk
  have := f_find_yes (n := n) h hj j 0 10000 (by omega) (by omega)
  rw [nI_0, (h.2.2.2.1 j hj).2.2.2.2.2.2.1] at this
  exact this
/-- two objects change places -/
def zsw (p : Nat → Nat) (j s : Nat) : Nat → Nat := va_up (va_up p j (p s)) s (p j)
theorem zsw_pm (hp : zPm p) {s : Nat} (hj : j < 48) (hs : s < 48) : zPm (zsw p j s) := by
  have e : ∀ i, zsw p j s i = p (if i = s then j else if i = j then s else i) := fun i => by
    unfold zsw va_up
    by_cases h1 : i = s
    · simp only [h1, if_true]
    · by_cases h2 : i = j
      · simp only [h1, h2, if_true, if_false]
        split <;> simp_all
      · simp only [h1, h2, if_false]
  have hb : ∀ i, i < 48 → (if i = s then j else if i = j then s else i) < 48 := fun i hi => by
    split
    · exact hj
    · split
      · exact hs
      · exact hi
  refine ⟨fun i hi => by rw [e]; exact hp.1 _ (hb i hi), fun a b ha hb2 q => ?_⟩
  rw [e, e] at q
  have q2 := hp.2 _ _ (hb a ha) (hb b hb2) q
  split at q2 <;> split at q2 <;> (try split at q2) <;> (try split at q2) <;> omega
theorem f_remove (h : zCX m p X Y c K W E) (hj : j < c 2) : ∃ m' p' X' Y', fn_X0_remove (some 51) (nI j) (zC n m p) = some (zC n m' p') ∧ zCX m' p' X' Y' (va_up c 2 (c 2 - 1)) (ax_u2 K (X j) (Y j) 0) W E ∧ (∀ a, a ≠ 51 → m' a = m a) ∧ (∀ i, X' i = X (if i = j then c 2 - 1 else i) ∧ Y' i = Y (if i = j then c 2 - 1 else i)) := by
  obtain ⟨hp, hc, h48, hP⟩ := h
  obtain ⟨S, hS⟩ : ∃ S, c 2 = S + 1 := ⟨c 2 - 1, by omega⟩
  rw [hS] at hP hj h48
  have e1 : c 2 - 1 = S := by omega
  have hjr : j ≠ S → j < S := fun q => by omega
  generalize hm1 : ax_u2 m 51 2 (nI S) = m1
  have e2 : ∀ a, a ≠ 51 → m1 a = m a := fun a ha => by rw [← hm1]; exact zu2_row ha
  refine ⟨m1, zsw p j S, fun i => X (if i = j then S else i), fun i => Y (if i = j then S else i), ?_, ⟨zsw_pm hp (by omega) (by omega), fun i h1 h2 => ?_, ?_, ?_⟩, e2, fun i => ?_⟩
  · unfold fn_X0_remove
    rw [z_c1, hc 2 (by omega) (by omega), hS]
    simp only [Option.bind_some]
    rw [f_isIn, zB_t ⟨z_pos (by omega), z_le_pred (by omega) hj⟩]
    simp only [Option.bind_some]
    rw [if_neg (by decide), z_c1, hc 2 (by omega) (by omega), hS]
    simp only [Option.bind_some]
    rw [nI_pred, z_c2, hm1]
    simp only [Option.bind_some]
    rw [z_c0]
    simp only [Option.bind_some]
    rw [z_pic (by omega), z_c1, ← hm1, ax_u2_self, hm1]
    simp only [Option.bind_some]
    rw [z_pic (by omega)]
    simp only [Option.bind_some]
    rw [z_aw (by omega) (hp.1 S (by omega))]
    simp only [Option.bind_some]
    rw [z_c0, z_c1, ← hm1, ax_u2_self, hm1]
    simp only [Option.bind_some]
    rw [z_aw (by omega) (hp.1 j (by omega))]
    rfl
  · by_cases hi : i = 2
    · subst hi
      rw [← hm1, ax_u2_self, va_up_self, e1]
    · rw [← hm1, ax_u2_nk hi, va_up_ne _ _ hi]
      exact hc i h1 h2
  · rw [va_up_self]; omega
  · rw [va_up_self, e1]
    have ez : ∀ i, i < S → zsw p j S i = p (if i = j then S else i) := fun i hi => by
      unfold zsw
      rw [va_up_ne _ _ (by omega)]
      by_cases hij : i = j
      · subst hij
        rw [va_up_self, if_pos rfl]
      · rw [va_up_ne _ _ hij, if_neg hij]
    refine zP_rm hP hj (fun w i hw hi => ?_) (fun i k hi hk => ?_) ez
    · show m1 (53 + 2 * zsw p j S i) w = m (53 + 2 * p _) w
      rw [ez i hi, e2 _ (by omega)]
    · show m1 (54 + 2 * zsw p j S i) k = m (54 + 2 * p _) k
      rw [ez i hi, e2 _ (by omega)]
  · rw [e1]
    exact ⟨rfl, rfl⟩
def zdrC (c : Nat → Nat) : Nat → Nat := va_up (va_up c 2 (c 2 - 1)) 6 (c 6 + 1)
noncomputable def zdrK (K : Nat → Nat → Nat) : Nat → Nat → Nat := ax_u2 K (zmk K).1 (zmk K).2 0
theorem zCX_c {i v : Nat} (h : zCX m p X Y c K W E) (h1 : i ≠ 2) : zCX (ax_u2 m 51 i (nI v)) p X Y (va_up c i v) K W E := by
  obtain ⟨hp, hc, h48, hP⟩ := h
  have e2 : va_up c i v 2 = c 2 := va_up_ne _ _ (fun q => h1 q.symm)
  refine ⟨hp, fun a ha hb => ?_, by rw [e2]; exact h48, ?_⟩
  · by_cases hai : a = i
    · subst hai
      rw [ax_u2_self, va_up_self]
    · rw [ax_u2_nk hai, va_up_ne _ _ hai]
      exact hc a ha hb
  · rw [e2]
    refine zP_congr hP (fun w j hw hj => ?_) (fun j k hj hk => ?_) (fun j hj => rfl)
    · exact ax_u2_ne (by omega) _
    · exact ax_u2_ne (by omega) _
theorem f_dropOldest_lp (h : zCX m p X Y c K W E) (hU : zU K (c 1)) (hb : c 1 < 2 ^ 31) : ∀ (d i o f : Nat), i + d = c 2 → d < f → o < c 2 → (∀ t, t < i → K (X o) (Y o) ≤ K (X t) (Y t)) → ∃ m' p' X' Y', fb_X0_dropOldest_4 f (some 51) (nI o) (nI i) (zC n m p) = some (zC n m' p') ∧ zCX m' p' X' Y' (zdrC c) (zdrK K) W E ∧ ∀ a, a ≠ 51 → m' a = m a := by
  have h48 := h.2.2.1
  have hc := h.2.1
  have hP := h.2.2.2
  have hp := h.1
  intro d
  induction d with
  | zero =>
    intro i o f hi hf ho hmin
    obtain ⟨f, rfl⟩ : ∃ k, f = k + 1 := ⟨f - 1, by omega⟩
    obtain ⟨m1, p1, X1, Y1, a1, a2, a3, -⟩ := f_remove (n := n) h ho
    have hz : zmk K = (X o, Y o) := zmk_is hU (hP.1 o ho).2.2.2.2.1 (fun a b hab => by
      obtain ⟨t, ht, rfl, rfl⟩ := hP.2.2 a b hab
      exact hmin t (by omega))
    refine ⟨ax_u2 m1 51 6 (nI (c 6 + 1)), p1, X1, Y1, ?_, ?_, fun a ha => by rw [zu2_row ha, a3 a ha]⟩
    · unfold fb_X0_dropOldest_4
      rw [z_c1, hc 2 (by omega) (by omega)]
      simp only [Option.bind_some]
      rw [if_pos (nI_le (by omega) (by omega)), z_cs]
      simp only [Option.bind_some]
      rw [a1]
      simp only [Option.bind_some]
      rw [z_c1, a2.2.1 6 (by omega) (by omega), va_up_ne _ _ (by omega)]
      simp only [Option.bind_some]
      rw [nI_1, z_c2]
      rfl
    · have e : zdrK K = ax_u2 K (X o) (Y o) 0 := by
        unfold zdrK
        rw [hz]
      rw [e]
      exact zCX_c a2 (by omega)
  | succ d ih =>
    intro i o f hi hf ho hmin
    obtain ⟨f, rfl⟩ : ∃ k, f = k + 1 := ⟨f - 1, by omega⟩
    obtain ⟨a1, a2, a3, a4, a5, a6, a7, a8⟩ := hP.1 i (by omega)
    obtain ⟨b1, b2, b3, b4, b5, b6, b7, b8⟩ := hP.1 o (by omega)
    have k1 := hU.1 (X i) (Y i)
    have k2 := hU.1 (X o) (Y o)
    unfold fb_X0_dropOldest_4
    rw [z_c1, hc 2 (by omega) (by omega)]
    simp only [Option.bind_some]
    rw [if_neg (nI_ge (by omega) (by omega)), z_c0]
    simp only [Option.bind_some]
    rw [z_pic (by omega)]
    simp only [Option.bind_some]
    rw [z_p1 (hp.1 i (by omega)), show m (53 + 2 * p i) 2 = nI (K (X i) (Y i)) from a6]
    simp only [Option.bind_some]
    rw [z_pic (by omega)]
    simp only [Option.bind_some]
    rw [z_p1 (hp.1 o (by omega)), show m (53 + 2 * p o) 2 = nI (K (X o) (Y o)) from b6]
    simp only [Option.bind_some]
    rw [show nI i + 1 = nI (i + 1) from nI_1 i]
    by_cases hle : K (X o) (Y o) ≤ K (X i) (Y i)
    · rw [if_pos (nI_le hle (by omega))]
      exact ih (i + 1) o f (by omega) (by omega) ho (fun t ht => by
        by_cases hti : t = i
        · rw [hti]; exact hle
        · exact hmin t (by omega))
    · rw [if_neg (nI_ge (by omega) (by omega))]
      exact ih (i + 1) i f (by omega) (by omega) (by omega) (fun t ht => by
        by_cases hti : t = i
        · rw [hti]; exact Nat.le_refl _
        · have := hmin t (by omega)
          omega)
theorem f_dropOldest (h : zCX m p X Y c K W E) (hU : zU K (c 1)) (hb : c 1 < 2 ^ 31) (h0 : 0 < c 2) : ∃ m' p' X' Y', fn_X0_dropOldest (some 51) (zC n m p) = some (zC n m' p') ∧ zCX m' p' X' Y' (zdrC c) (zdrK K) W E ∧ ∀ a, a ≠ 51 → m' a = m a := by
  have h48 := h.2.2.1
  have := f_dropOldest_lp (n := n) h hU hb (c 2 - 1) 1 0 10000 (by omega) (by omega) h0 (fun t ht => by
    obtain rfl : t = 0 := by omega
    exact Nat.le_refl _)
  rw [nI_0] at this
  exact this
theorem f_touch (h : zCX m p X Y c K W E) (hj : j < c 2) : ∃ m', fn_X0_touch (some 51) (some (53 + 2 * p j)) (zC n m p) = some (zC n m' p) ∧ zCX m' p X Y (va_up c 1 (c 1 + 1)) (ax_u2 K (X j) (Y j) (c 1 + 1)) W E ∧ ∀ a, a ≠ 51 → a ≠ 53 + 2 * p j → m' a = m a := by
  have h48 := h.2.2.1
  have hc := h.2.1
  have hp := h.1
  have h2 := zCX_c (i := 1) (v := c 1 + 1) h (by omega)
  generalize hm1 : ax_u2 m 51 1 (nI (c 1 + 1)) = m1 at h2
  obtain ⟨-, hc1, -, hP⟩ := h2
  rw [va_up_ne (j := 2) _ _ (by omega)] at hP
  have hpj := hp.1 j (by omega)
  refine ⟨ax_u2 m1 (53 + 2 * p j) 2 (nI (c 1 + 1)), ?_, ⟨hp, fun a ha hb => ?_, by rw [va_up_ne _ _ (by omega)]; exact h48, ?_⟩, fun a ha hb => by rw [zu2_row hb, ← hm1, zu2_row ha]⟩
  · unfold fn_X0_touch
    rw [z_c1, hc 1 (by omega) (by omega)]
    simp only [Option.bind_some]
    rw [nI_1, z_c2, hm1]
    simp only [Option.bind_some]
    rw [z_c1, hc1 1 (by omega) (by omega), va_up_self]
    simp only [Option.bind_some]
    rw [z_p2 hpj]
    rfl
  · rw [ax_u2_ne (by omega)]
    exact hc1 a ha hb
  · rw [va_up_ne (j := 2) _ _ (by omega)]
    refine zP_touch hP hj (by omega) (fun w i hw hi hne => ?_) (fun i k hi hk => ?_) (fun i hi => rfl) ?_
    · show ax_u2 m1 (53 + 2 * p j) 2 _ (53 + 2 * p i) w = _
      refine if_neg (fun q => hne ⟨q.2, hp.2 i j (by omega) (by omega) (by omega)⟩)
    · show ax_u2 m1 (53 + 2 * p j) 2 _ (54 + 2 * p i) k = _
      exact ax_u2_ne (by omega) _
    · show ax_u2 m1 (53 + 2 * p j) 2 _ (53 + 2 * p j) 2 = _
      exact ax_u2_self
def zhtC (c : Nat → Nat) : Nat → Nat := va_up (va_up c 4 (c 4 + 1)) 1 (c 1 + 1)
theorem f_hit (h : zCX m p X Y c K W E) (hk : K x y ≠ 0) : ∃ m', fn_X0_hit (some 51) (some (53 + 2 * E x y)) (zC n m p) = some (zC n m' p) ∧ zCX m' p X Y (zhtC c) (ax_u2 K x y (c 1 + 1)) W E ∧ ∀ a, a < 51 ∨ 149 ≤ a → m' a = m a := by
  have h48 := h.2.2.1
  have hc := h.2.1
  have hp := h.1
  obtain ⟨j, hj, rfl, rfl⟩ := h.2.2.2.2.2 x y hk
  have hpj := hp.1 j (by omega)
  rw [← (h.2.2.2.1 j hj).2.2.2.2.2.2.1]
  have h2 := zCX_c (i := 4) (v := c 4 + 1) h (by omega)
  generalize hm1 : ax_u2 m 51 4 (nI (c 4 + 1)) = m1 at h2
  obtain ⟨m', a1, a2, a3⟩ := f_touch (n := n) (j := j) h2 (by rw [va_up_ne _ _ (by omega)]; exact hj)
  rw [va_up_ne (j := 1) _ _ (by omega)] at a2
  refine ⟨m', ?_, a2, fun a ha => by rw [a3 a (by omega) (by omega), ← hm1, zu2_row (by omega)]⟩
  unfold fn_X0_hit
  rw [z_c1, hc 4 (by omega) (by omega)]
  simp only [Option.bind_some]
  rw [nI_1, z_c2, hm1]
  simp only [Option.bind_some]
  rw [z_cs]
  simp only [Option.bind_some]
  rw [a1]
  rfl
def zadC (c : Nat → Nat) : Nat → Nat := va_up (va_up (va_up c 5 (c 5 + 1)) 2 (c 2 + 1)) 1 (c 1 + 1)
/-- a picture is let in; there is room -/
theorem f_admit25 (h : zCX m p X Y c K W E) (hk : K x y = 0) (hx : x < 12) (hy : y < 100) (h47 : c 2 < 48) : ∃ m' X' Y' q, q < 48 ∧ fb_X0_admit_25 (some 51) (nI x) (nI y) (zC n m p) = some (some (53 + 2 * q), zC n m' p) ∧ zCX m' p X' Y' (va_up (va_up c 2 (c 2 + 1)) 1 (c 1 + 1)) (ax_u2 K x y (c 1 + 1)) (ax_u2 W x y (fun k => m' (54 + 2 * q) k)) (ax_u2 E x y q) ∧ (∀ a, a < 51 ∨ 149 ≤ a → m' a = m a) ∧ ∀ a b, K a b ≠ 0 → E a b ≠ q := by
  obtain ⟨hp, hc, h48, hP⟩ := h
  have hpS := hp.1 (c 2) h47
  generalize hm1 : ax_u2 m 51 2 (nI (c 2 + 1)) = m1
  generalize hm2 : ax_u2 (ax_u2 m1 (53 + 2 * p (c 2)) 0 (nI x)) (53 + 2 * p (c 2)) 1 (nI y) = m2
  generalize hm3 : ax_u2 m2 51 1 (nI (c 1 + 1)) = m3
  generalize hm4 : ax_u2 m3 (53 + 2 * p (c 2)) 2 (nI (c 1 + 1)) = m4
  have e1 : ∀ a, a ≠ 51 → m1 a = m a := fun a ha => by rw [← hm1]; exact zu2_row ha
  have e2 : ∀ a, a ≠ 53 + 2 * p (c 2) → m2 a = m1 a := fun a ha => by rw [← hm2, zu2_row ha, zu2_row ha]
  have e3 : ∀ a, a ≠ 51 → m3 a = m2 a := fun a ha => by rw [← hm3]; exact zu2_row ha
  have e4 : ∀ a, a ≠ 53 + 2 * p (c 2) → m4 a = m3 a := fun a ha => by rw [← hm4]; exact zu2_row ha
  have eo : ∀ a, a ≠ 51 → a ≠ 53 + 2 * p (c 2) → m4 a = m a := fun a ha hb => by rw [e4 a hb, e3 a ha, e2 a hb, e1 a ha]
  have hEq : ∀ a b, K a b ≠ 0 → E a b ≠ p (c 2) := fun a b hab q => by
    obtain ⟨j, hj, rfl, rfl⟩ := hP.2.2 a b hab
    have := hp.2 j (c 2) (by omega) h47 ((hP.1 j hj).2.2.2.2.2.2.1.trans q)
    omega
  refine ⟨m4, va_up X (c 2) x, va_up Y (c 2) y, p (c 2), hpS, ?_, ⟨hp, fun a ha hb => ?_, ?_, ?_⟩, fun a ha => eo a (by omega) (by omega), hEq⟩
  · unfold fb_X0_admit_25
    rw [z_c0, z_c1, hc 2 (by omega) (by omega)]
    simp only [Option.bind_some]
    rw [z_pic h47]
    simp only [Option.bind_some]
    rw [nI_1, z_c2, hm1]
    simp only [Option.bind_some]
    rw [z_p2 hpS]
    simp only [Option.bind_some]
    rw [z_p2 hpS, hm2]
    simp only [Option.bind_some]
    rw [z_cs]
    simp only [Option.bind_some]
    unfold fn_X0_touch
    have h51 : m2 51 1 = nI (c 1) := by rw [e2 _ (by omega), ← hm1, ax_u2_nk (by omega)]; exact hc 1 (by omega) (by omega)
    rw [z_c1, h51]
    simp only [Option.bind_some]
    rw [nI_1, z_c2, hm3]
    simp only [Option.bind_some]
    rw [z_c1, ← hm3, ax_u2_self, hm3]
    simp only [Option.bind_some]
    rw [z_p2 hpS, hm4]
    rfl
  · rw [e4 _ (by omega)]
    by_cases h1 : a = 1
    · subst h1
      rw [← hm3, ax_u2_self, va_up_self]
    · rw [← hm3, ax_u2_nk h1, va_up_ne _ _ h1, e2 _ (by omega)]
      by_cases h2 : a = 2
      · subst h2
        rw [← hm1, ax_u2_self, va_up_self]
      · rw [← hm1, ax_u2_nk h2, va_up_ne _ _ h2]
        exact hc a ha hb
  · rw [va_up_ne _ _ (by omega), va_up_self]; omega
  · rw [va_up_ne (j := 2) _ _ (by omega), va_up_self]
    have hpn : ∀ j, j < c 2 → p j ≠ p (c 2) := fun j hj q => by
      have := hp.2 j (c 2) (by omega) h47 q
      omega
    refine zP_add hP hk hx hy (by omega) (fun w j hw hj => ?_) (fun j k hj hk => ?_) (fun j hj => rfl) ?_ ?_ ?_ rfl (fun k hk => rfl)
    · have := hpn j hj
      show m4 (53 + 2 * p j) w = m (53 + 2 * p j) w
      rw [eo _ (by omega) (by omega)]
    · show m4 (54 + 2 * p j) k = m (54 + 2 * p j) k
      rw [eo _ (by omega) (by omega)]
    · show m4 (53 + 2 * p (c 2)) 0 = nI x
      rw [← hm4, ax_u2_nk (by omega), e3 _ (by omega), ← hm2, ax_u2_nk (by omega), ax_u2_self]
    · show m4 (53 + 2 * p (c 2)) 1 = nI y
      rw [← hm4, ax_u2_nk (by omega), e3 _ (by omega), ← hm2, ax_u2_self]
    · show m4 (53 + 2 * p (c 2)) 2 = nI (c 1 + 1)
      rw [← hm4, ax_u2_self]
/-- the values of one picture are written -/
theorem zCX_w {m' : Nat → Nat → Int32} (h : zCX m p X Y c K W E) (hk : K x y ≠ 0) {w : Nat → Int32} (hf : ∀ a, a ≠ 54 + 2 * E x y → m' a = m a) (hw : ∀ k, k < 96 → m' (54 + 2 * E x y) k = w k) : zCX m' p X Y c K (ax_u2 W x y w) E := by
  obtain ⟨hp, hc, h48, hP⟩ := h
  obtain ⟨j0, hj0, rfl, rfl⟩ := hP.2.2 x y hk
  have e0 := (hP.1 j0 hj0).2.2.2.2.2.2.1
  rw [← e0] at hf hw
  refine ⟨hp, fun a ha hb => by rw [hf _ (by omega)]; exact hc a ha hb, h48, fun j hj => ?_, hP.2⟩
  obtain ⟨a1, a2, a3, a4, a5, a6, a7, a8⟩ := hP.1 j hj
  have hr : ∀ w, zcF m' p w j = zcF m p w j := fun w => by
    show m' (53 + 2 * p j) w = _
    rw [hf _ (by omega)]
    rfl
  refine ⟨a1, a2, by rw [hr]; exact a3, by rw [hr]; exact a4, a5, by rw [hr]; exact a6, a7, fun k hk' => ?_⟩
  by_cases hjj : j = j0
  · subst hjj
    rw [ax_u2_self]
    exact hw k hk'
  · rw [show ax_u2 W (X j0) (Y j0) w (X j) (Y j) = W (X j) (Y j) from if_neg (fun q => hjj (hP.2.1 j j0 hj hj0 q.1 q.2))]
    show m' (54 + 2 * p j) k = _
    have hne : p j ≠ p j0 := fun q => hjj (hp.2 j j0 (by omega) (by omega) q)
    rw [hf _ (by omega)]
    exact a8 k hk'
end CACHE
