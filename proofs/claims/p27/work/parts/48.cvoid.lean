/-! ===== the class's cache: taking in, voiding, room ===== -/
/-- without the keys that are told -/
def zKf (K : Nat → Nat → Nat) (b : Nat → Nat → Bool) : Nat → Nat → Nat := fun x y => if b x y = true then 0 else K x y
section CVOID
variable {n x y j : Nat} {m : Nat → Nat → Int32} {p X Y c : Nat → Nat} {K E : Nat → Nat → Nat} {W : Nat → Nat → Nat → Int32}
/-- behind dropOldest where there is no room -/
def zroC (c : Nat → Nat) : Nat → Nat := if c 3 ≤ c 2 then zdrC c else c
noncomputable def zroK (c : Nat → Nat) (K : Nat → Nat → Nat) : Nat → Nat → Nat := if c 3 ≤ c 2 then zdrK K else K
theorem zdrK_0 {a b : Nat} (h : K a b = 0) : zdrK K a b = 0 := by
  unfold zdrK ax_u2
  split
  · rfl
  · exact h
theorem zdrK_ne {a b : Nat} (h : zdrK K a b ≠ 0) : zdrK K a b = K a b := by
  unfold zdrK ax_u2 at h ⊢
  split
  · rename_i q
    rw [if_pos q] at h
    exact absurd rfl h
  · rfl
theorem f_admit_un (h : zCX m p X Y c K W E) : fn_X0_admit (some 51) (nI x) (nI y) (zC n m p) = if nI (c 2) < nI (c 3) then fb_X0_admit_25 (some 51) (nI x) (nI y) (zC n (ax_u2 m 51 5 (nI (c 5 + 1))) p) else (fn_X0_dropOldest (some 51) (zC n (ax_u2 m 51 5 (nI (c 5 + 1))) p)).bind fun q16 => fb_X0_admit_25 (some 51) (nI x) (nI y) q16 := by
  have hc := h.2.1
  have h2 := zCX_c (i := 5) (v := c 5 + 1) h (by omega)
  unfold fn_X0_admit
  rw [z_c1, hc 5 (by omega) (by omega), Option.bind_some, nI_1, z_c2, Option.bind_some, z_c1, z_c1, h2.2.1 2 (by omega) (by omega), h2.2.1 3 (by omega) (by omega), va_up_ne _ _ (by omega), va_up_ne _ _ (by omega), Option.bind_some, Option.bind_some, z_cs, Option.bind_some]
theorem zadC_dr : va_up (va_up (zdrC (va_up c 5 (c 5 + 1))) 2 (zdrC (va_up c 5 (c 5 + 1)) 2 + 1)) 1 (c 1 + 1) = zadC (zdrC c) := by
  funext j
  unfold zadC zdrC
  simp only [va_up]
  by_cases h1 : j = 1
  · simp [h1]
  · by_cases h7 : j = 2
    · simp [h7]
    · by_cases h5 : j = 5
      · simp [h5]
      · simp [h1, h7, h5]
theorem zadC_5 : zdrC (va_up c 5 (c 5 + 1)) 2 = c 2 - 1 ∧ zdrC (va_up c 5 (c 5 + 1)) 1 = c 1 := by simp [zdrC, va_up]
theorem f_admit (h : zCX m p X Y c K W E) (hU : zU K (c 1)) (hb : c 1 < 2 ^ 31) (hk : K x y = 0) (hx : x < 12) (hy : y < 100) (h3 : 0 < c 3) (h4 : c 3 ≤ 48) : ∃ m' p' X' Y' q, q < 48 ∧ fn_X0_admit (some 51) (nI x) (nI y) (zC n m p) = some (some (53 + 2 * q), zC n m' p') ∧ zCX m' p' X' Y' (zadC (zroC c)) (ax_u2 (zroK c K) x y (c 1 + 1)) (ax_u2 W x y (fun k => m' (54 + 2 * q) k)) (ax_u2 E x y q) ∧ (∀ a, a < 51 ∨ 149 ≤ a → m' a = m a) ∧ ∀ a b, zroK c K a b ≠ 0 → E a b ≠ q := by
  have hs := f_admit_un (n := n) (x := x) (y := y) h
  have h48 := h.2.2.1
  have h2 := zCX_c (i := 5) (v := c 5 + 1) h (by omega)
  have f1 : va_up c 5 (c 5 + 1) 1 = c 1 := va_up_ne _ _ (by omega)
  have f2 : va_up c 5 (c 5 + 1) 2 = c 2 := va_up_ne _ _ (by omega)
  generalize hm1 : ax_u2 m 51 5 (nI (c 5 + 1)) = m1 at h2 hs
  have e1 : ∀ a, a ≠ 51 → m1 a = m a := fun a ha => by rw [← hm1]; exact zu2_row ha
  by_cases hr : c 3 ≤ c 2
  · obtain ⟨m2, p2, X2, Y2, a1, a2, a3⟩ := f_dropOldest (n := n) h2 (by rw [f1]; exact hU) (by rw [f1]; exact hb) (by rw [f2]; omega)
    obtain ⟨es2, es1⟩ := zadC_5 (c := c)
    obtain ⟨m3, X3, Y3, q, b0, b1, b2, b3, b4⟩ := f_admit25 (n := n) (x := x) (y := y) a2 (zdrK_0 hk) hx hy (by rw [es2]; omega)
    have eK : zroK c K = zdrK K := if_pos hr
    have eC : zroC c = zdrC c := if_pos hr
    rw [es1, zadC_dr] at b2
    rw [eK, eC]
    refine ⟨m3, p2, X3, Y3, q, b0, ?_, b2, fun a ha => by rw [b3 a ha, a3 a (by omega), e1 a (by omega)], b4⟩
    rw [hs, if_neg (nI_nlt hr (by omega)), a1]
    simp only [Option.bind_some]
    exact b1
  · obtain ⟨m3, X3, Y3, q, b0, b1, b2, b3, b4⟩ := f_admit25 (n := n) (x := x) (y := y) h2 hk hx hy (by rw [f2]; omega)
    have eK : zroK c K = K := if_neg hr
    have eC : zroC c = c := if_neg hr
    rw [f1, f2] at b2
    rw [eK, eC]
    refine ⟨m3, p, X3, Y3, q, b0, ?_, b2, fun a ha => by rw [b3 a ha, e1 a (by omega)], b4⟩
    rw [hs, if_pos (nI_lt (by omega) (by omega))]
    exact b1
/-- which keys go -/
def zvb (s a0 a1 b0 b1 : Int32) (x y : Nat) : Bool := decide ((s >>> (nI x &&& 31)) &&& 1 = 1) && (decide (a0 ≤ nI y ∧ nI y ≤ a1) != decide (b0 ≤ nI y ∧ nI y ≤ b1))
theorem nI_sub {a b : Nat} (h : b ≤ a) : nI a - nI b = nI (a - b) := by
  have e : nI a = nI (a - b) + nI b := by rw [nI_add, Nat.sub_add_cancel h]
  rw [e, Int32.add_sub_cancel]
theorem zB_eq {P Q : Prop} [Decidable P] [Decidable Q] : (zB P = zB Q) ↔ (decide P != decide Q) = false := by
  unfold zB
  by_cases h1 : P <;> by_cases h2 : Q <;> simp [h1, h2]
theorem f_void_lp {s a0 a1 b0 b1 : Int32} {K0 : Nat → Nat → Nat} {B : Nat} (hB : B < 2 ^ 31) : ∀ (j f : Nat) (m : Nat → Nat → Int32) (p X Y c : Nat → Nat) (K : Nat → Nat → Nat), j < f → j ≤ c 2 → c 2 ≤ B → zCX m p X Y c K W E → (∀ x y, K x y = K0 x y ∨ (K x y = 0 ∧ zvb s a0 a1 b0 b1 x y = true)) → (∀ i, j ≤ i → i < c 2 → zvb s a0 a1 b0 b1 (X i) (Y i) = false) →
    ∃ m' p' X' Y' k, k ≤ c 2 ∧ fb_X0_makeVoidInOne_14 f (some 51) s a0 a1 b0 b1 (nI B) (nI j - 1) (zC n m p) = some (nI (B - k), zC n m' p') ∧ zCX m' p' X' Y' (va_up (va_up c 2 k) 7 (c 7 + (B - k))) (zKf K0 (zvb s a0 a1 b0 b1)) W E ∧ ∀ a, a ≠ 51 → m' a = m a := by
  intro j
  induction j with
  | zero =>
    intro f m p X Y c K hf hj hBc h hK hz
    obtain ⟨f, rfl⟩ : ∃ k, f = k + 1 := ⟨f - 1, by omega⟩
    have hc := h.2.1
    have h48 := h.2.2.1
    have hKe : K = zKf K0 (zvb s a0 a1 b0 b1) := by
      funext x y
      unfold zKf
      split
      · rename_i ht
        by_cases hk : K x y = 0
        · exact hk
        · obtain ⟨i, hi, rfl, rfl⟩ := h.2.2.2.2.2 x y hk
          rw [hz i (by omega) hi] at ht
          exact absurd ht (by decide)
      · rename_i ht
        rcases hK x y with q | q
        · exact q
        · exact absurd q.2 ht
    have h2 := zCX_c (i := 7) (v := c 7 + (B - c 2)) h (by omega)
    generalize hm1 : ax_u2 m 51 7 (nI (c 7 + (B - c 2))) = m1 at h2
    refine ⟨m1, p, X, Y, c 2, Nat.le_refl _, ?_, ?_, fun a ha => by rw [← hm1]; exact zu2_row ha⟩
    · unfold fb_X0_makeVoidInOne_14
      rw [if_pos (by decide), z_c1, z_c1, hc 7 (by omega) (by omega), hc 2 (by omega) (by omega)]
      simp only [Option.bind_some]
      rw [nI_sub hBc, nI_add, z_c2, hm1]
      simp only [Option.bind_some]
      rw [z_c1, h2.2.1 2 (by omega) (by omega), va_up_ne _ _ (by omega)]
      simp only [Option.bind_some]
      rw [nI_sub hBc]
    · have e : va_up c 2 (c 2) = c := by
        funext i
        unfold va_up
        split
        · rename_i q
          rw [q]
        · rfl
      rw [e, ← hKe]
      exact h2
  | succ j ih =>
    intro f m p X Y c K hf hj hBc h hK hz
    obtain ⟨f, rfl⟩ : ∃ k, f = k + 1 := ⟨f - 1, by omega⟩
    have hc := h.2.1
    have h48 := h.2.2.1
    have hp := h.1
    obtain ⟨d1, d2, d3, d4, d5, d6, d7, d8⟩ := h.2.2.2.1 j (by omega)
    have hpj := hp.1 j (by omega)
    have estep : nI j + -1 = nI j - 1 := (Int32.sub_eq_add_neg _ _).symm
    have hin : (0 : Int32) ≤ nI (X j) ∧ nI (X j) ≤ 11 := ⟨z_pos (by omega), nI_le (b := 11) (by omega) (by omega)⟩
    have hcont : zvb s a0 a1 b0 b1 (X j) (Y j) = false → ∃ m' p' X' Y' k, k ≤ c 2 ∧ fb_X0_makeVoidInOne_14 f (some 51) s a0 a1 b0 b1 (nI B) (nI j - 1) (zC n m p) = some (nI (B - k), zC n m' p') ∧ zCX m' p' X' Y' (va_up (va_up c 2 k) 7 (c 7 + (B - k))) (zKf K0 (zvb s a0 a1 b0 b1)) W E ∧ ∀ a, a ≠ 51 → m' a = m a := fun hf0 =>
      ih f m p X Y c K (by omega) (by omega) hBc h hK (fun i h1 h2 => by
        by_cases hij : i = j
        · rw [hij]; exact hf0
        · exact hz i (by omega) h2)
    have hun : fb_X0_makeVoidInOne_14 (f + 1) (some 51) s a0 a1 b0 b1 (nI B) (nI (j + 1) - 1) (zC n m p) = if zvb s a0 a1 b0 b1 (X j) (Y j) = true then (fn_X0_remove (some 51) (nI j) (zC n m p)).bind fun q17 => fb_X0_makeVoidInOne_14 f (some 51) s a0 a1 b0 b1 (nI B) (nI j - 1) q17 else fb_X0_makeVoidInOne_14 f (some 51) s a0 a1 b0 b1 (nI B) (nI j - 1) (zC n m p) := by
      rw [nI_pred]
      conv => lhs; unfold fb_X0_makeVoidInOne_14
      rw [if_neg (nI_pos (by omega)), z_c0]
      simp only [Option.bind_some]
      rw [z_pic (by omega)]
      simp only [Option.bind_some]
      rw [z_p1 hpj, show m (53 + 2 * p j) 1 = nI (Y j) from d4]
      simp only [Option.bind_some]
      rw [f_isIn]
      simp only [Option.bind_some]
      rw [z_p1 hpj, show m (53 + 2 * p j) 1 = nI (Y j) from d4]
      simp only [Option.bind_some]
      rw [f_isIn]
      simp only [Option.bind_some]
      rw [z_p1 hpj, show m (53 + 2 * p j) 0 = nI (X j) from d3]
      simp only [Option.bind_some]
      rw [f_contains]
      simp only [Option.bind_some]
      rw [estep, z_cs]
      simp only [Option.bind_some]
      unfold zvb
      by_cases h1 : zB (a0 ≤ nI (Y j) ∧ nI (Y j) ≤ a1) = zB (b0 ≤ nI (Y j) ∧ nI (Y j) ≤ b1)
      · rw [if_pos h1, zB_eq.mp h1, Bool.and_false, if_neg (by decide)]
      · have h2 : (decide (a0 ≤ nI (Y j) ∧ nI (Y j) ≤ a1) != decide (b0 ≤ nI (Y j) ∧ nI (Y j) ≤ b1)) = true := by
          cases hq : (decide (a0 ≤ nI (Y j) ∧ nI (Y j) ≤ a1) != decide (b0 ≤ nI (Y j) ∧ nI (Y j) ≤ b1))
          · exact absurd (zB_eq.mpr hq) h1
          · rfl
        rw [if_neg h1, h2, Bool.and_true]
        by_cases h3 : (s >>> (nI (X j) &&& 31)) &&& 1 = 1
        · rw [zB_t ⟨hin, h3⟩, if_neg (by decide), if_pos (by simp [h3])]
        · rw [zB_f (fun q => h3 q.2), if_pos rfl, if_neg (by simp [h3])]
    rw [hun]
    cases hv : zvb s a0 a1 b0 b1 (X j) (Y j)
    · rw [if_neg (by decide)]
      exact hcont hv
    · rw [if_pos rfl]
      obtain ⟨m1, p1, X1, Y1, r1, r2, r3, r4⟩ := f_remove (n := n) h (show j < c 2 by omega)
      have e2 : va_up c 2 (c 2 - 1) 2 = c 2 - 1 := va_up_self _ _ _
      obtain ⟨m2, p2, X2, Y2, k, k0, k1, k2, k3⟩ := ih f m1 p1 X1 Y1 (va_up c 2 (c 2 - 1)) (ax_u2 K (X j) (Y j) 0) (by omega) (by rw [e2]; omega) (by rw [e2]; omega) r2 (fun x y => by
        by_cases hxy : x = X j ∧ y = Y j
        · refine Or.inr ⟨if_pos hxy, ?_⟩
          rw [hxy.1, hxy.2]
          exact hv
        · rw [show ax_u2 K (X j) (Y j) 0 x y = K x y from if_neg hxy]
          exact hK x y) (fun i h1 h2 => by
        rw [e2] at h2
        rw [(r4 i).1, (r4 i).2]
        split
        · exact hz (c 2 - 1) (by omega) (by omega)
        · exact hz i (by omega) (by omega))
      rw [e2] at k0
      refine ⟨m2, p2, X2, Y2, k, by omega, ?_, ?_, fun a ha => by rw [k3 a ha, r3 a ha]⟩
      · rw [r1]
        exact k1
      · have e3 : va_up (va_up (va_up c 2 (c 2 - 1)) 2 k) 7 (va_up c 2 (c 2 - 1) 7 + (B - k)) = va_up (va_up c 2 k) 7 (c 7 + (B - k)) := by
          funext i
          simp only [va_up]
          by_cases h7 : i = 7
          · simp [h7]
          · by_cases h2 : i = 2
            · simp [h2]
            · simp [h7, h2]
        rw [e3] at k2
        exact k2
theorem f_void (h : zCX m p X Y c K W E) (s a0 a1 b0 b1 : Int32) : ∃ m' p' X' Y' k, k ≤ c 2 ∧ fn_X0_makeVoidInOne (some 51) s a0 a1 b0 b1 (zC n m p) = some (nI (c 2 - k), zC n m' p') ∧ zCX m' p' X' Y' (va_up (va_up c 2 k) 7 (c 7 + (c 2 - k))) (zKf K (zvb s a0 a1 b0 b1)) W E ∧ ∀ a, a ≠ 51 → m' a = m a := by
  have hc := h.2.1
  have h48 := h.2.2.1
  obtain ⟨m2, p2, X2, Y2, k, k0, k1, k2, k3⟩ := f_void_lp (n := n) (K0 := K) (s := s) (a0 := a0) (a1 := a1) (b0 := b0) (b1 := b1) (B := c 2) (by omega) (c 2) 10000 m p X Y c K (by omega) (Nat.le_refl _) (Nat.le_refl _) h (fun x y => Or.inl rfl) (fun i h1 h2 => by omega)
  refine ⟨m2, p2, X2, Y2, k, k0, ?_, k2, k3⟩
  unfold fn_X0_makeVoidInOne
  rw [z_c1, hc 2 (by omega) (by omega)]
  simp only [Option.bind_some, ax_bd]
  exact k1
/-- the oldest go until there is room -/
def zrmC : Nat → (Nat → Nat) → (Nat → Nat)
  | 0, c => c
  | d + 1, c => zrmC d (zdrC c)
noncomputable def zrmK : Nat → (Nat → Nat → Nat) → (Nat → Nat → Nat)
  | 0, K => K
  | d + 1, K => zrmK d (zdrK K)
theorem zdrC_1 (c : Nat → Nat) : zdrC c 1 = c 1 ∧ zdrC c 2 = c 2 - 1 ∧ zdrC c 3 = c 3 := by simp [zdrC, va_up]
theorem f_room_lp : ∀ (d f : Nat) (m : Nat → Nat → Int32) (p X Y c : Nat → Nat) (K : Nat → Nat → Nat), d < f → d ≤ c 2 → c 1 < 2 ^ 31 → zU K (c 1) → zCX m p X Y c K W E → ∃ m' p' X' Y', fb_X0_changeRoom_12 f (some 51) (nI d) (zC n m p) = some (zC n m' p') ∧ zCX m' p' X' Y' (zrmC d c) (zrmK d K) W E ∧ ∀ a, a ≠ 51 → m' a = m a := by
  intro d
  induction d with
  | zero =>
    intro f m p X Y c K hf hd hb hU h
    obtain ⟨f, rfl⟩ : ∃ k, f = k + 1 := ⟨f - 1, by omega⟩
    refine ⟨m, p, X, Y, ?_, h, fun _ _ => rfl⟩
    unfold fb_X0_changeRoom_12
    rw [if_pos (by decide)]
  | succ d ih =>
    intro f m p X Y c K hf hd hb hU h
    obtain ⟨f, rfl⟩ : ∃ k, f = k + 1 := ⟨f - 1, by omega⟩
    have h48 := h.2.2.1
    obtain ⟨m1, p1, X1, Y1, a1, a2, a3⟩ := f_dropOldest (n := n) h hU hb (by omega)
    obtain ⟨e1, e2, e3⟩ := zdrC_1 c
    obtain ⟨m2, p2, X2, Y2, b1, b2, b3⟩ := ih f m1 p1 X1 Y1 (zdrC c) (zdrK K) (by omega) (by omega) (by omega) (by rw [e1]; exact zU_rm hU) a2
    refine ⟨m2, p2, X2, Y2, ?_, b2, fun a ha => by rw [b3 a ha, a3 a ha]⟩
    unfold fb_X0_changeRoom_12
    rw [if_neg (nI_nle (by omega) (by omega)), z_cs]
    simp only [Option.bind_some]
    rw [a1]
    simp only [Option.bind_some]
    rw [show nI (d + 1) + -1 = nI d by rw [← Int32.sub_eq_add_neg, nI_pred]]
    exact b1
theorem f_changeRoom {r : Nat} (h : zCX m p X Y c K W E) (hU : zU K (c 1)) (hb : c 1 < 2 ^ 31) (hr : r ≤ 48) : ∃ m' p' X' Y', fn_X0_changeRoom (some 51) (nI r) (zC n m p) = some (zC n m' p') ∧ zCX m' p' X' Y' (zrmC (c 2 - r) (va_up c 3 r)) (zrmK (c 2 - r) K) W E ∧ ∀ a, a ≠ 51 → m' a = m a := by
  have h48 := h.2.2.1
  have h2 := zCX_c (i := 3) (v := r) h (by omega)
  have e1 : va_up c 3 r 1 = c 1 := va_up_ne _ _ (by omega)
  have e2 : va_up c 3 r 2 = c 2 := va_up_ne _ _ (by omega)
  generalize hm1 : ax_u2 m 51 3 (nI r) = m1 at h2
  have eo : ∀ a, a ≠ 51 → m1 a = m a := fun a ha => by rw [← hm1]; exact zu2_row ha
  obtain ⟨m2, p2, X2, Y2, b1, b2, b3⟩ := f_room_lp (n := n) (c 2 - r) 10000 m1 p X Y (va_up c 3 r) K (by omega) (by omega) (by omega) (by rw [e1]; exact hU) h2
  have hun : fn_X0_changeRoom (some 51) (nI r) (zC n m p) = fb_X0_changeRoom_12 10000 (some 51) (nI (c 2) - nI r) (zC n m1 p) := by
    unfold fn_X0_changeRoom
    rw [z_c2, hm1]
    simp only [Option.bind_some]
    rw [z_c1, h2.2.1 2 (by omega) (by omega), e2]
    simp only [Option.bind_some, ax_bd]
  by_cases hle : r ≤ c 2
  · exact ⟨m2, p2, X2, Y2, by rw [hun, nI_sub hle]; exact b1, b2, fun a ha => by rw [b3 a ha, eo a ha]⟩
  · have e0 : c 2 - r = 0 := by omega
    rw [e0]
    refine ⟨m1, p, X, Y, ?_, h2, eo⟩
    rw [hun]
    unfold fb_X0_changeRoom_12
    rw [if_pos]
    have : nI (c 2) - nI r = -nI (r - c 2) := by
      rw [← nI_sub (show c 2 ≤ r by omega), Int32.neg_sub]
    rw [this]
    have hall : ∀ i, i ≤ 48 → -nI i ≤ 0 := by decide +kernel
    exact hall _ (by omega)
end CVOID
