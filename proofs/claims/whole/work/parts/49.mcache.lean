/-! ===== the model's cache ===== -/
def zmF (m : Nat → Nat → Int32) (w j : Nat) : Int32 := m (279 + w) j
def zmV (m : Nat → Nat → Int32) (j k : Nat) : Int32 := m 282 (96 * j + k)
def zMX (m : Nat → Nat → Int32) (X Y c : Nat → Nat) (K : Nat → Nat → Nat) (W : Nat → Nat → Nat → Int32) : Prop :=
  (m 275 9 = nI (c 1) ∧ m 275 4 = nI (c 2) ∧ m 275 3 = nI (c 3)) ∧ (m 283 1 = nI (c 4) ∧ m 283 2 = nI (c 5) ∧ m 283 3 = nI (c 6) ∧ m 283 4 = nI (c 7)) ∧ c 2 ≤ 48 ∧ zP X Y (c 2) (zmF m) (zmV m) (fun _ => 0) K W (fun _ _ => 0)
/-- what the model's cache leaves alone -/
def zFm (m m' : Nat → Nat → Int32) : Prop := (∀ a, a < 275 ∨ (275 < a ∧ a < 279) ∨ 283 < a → m' a = m a) ∧ ∀ k, k ≠ 3 → k ≠ 4 → k ≠ 9 → m' 275 k = m 275 k
theorem zFm_rf {m : Nat → Nat → Int32} : zFm m m := ⟨fun _ _ => rfl, fun _ _ _ _ => rfl⟩
theorem zFm_tr {m1 m2 m3 : Nat → Nat → Int32} (h1 : zFm m1 m2) (h2 : zFm m2 m3) : zFm m1 m3 := ⟨fun a ha => (h2.1 a ha).trans (h1.1 a ha), fun k a b c => (h2.2 k a b c).trans (h1.2 k a b c)⟩
section MCACHE
variable {n x y j : Nat} {m : Nat → Nat → Int32} {p X Y c : Nat → Nat} {K : Nat → Nat → Nat} {W : Nat → Nat → Nat → Int32}
theorem z_m1 {k : Nat} : ax_gi (zC n m p) 7 k (some 275) = some (m 275 k) := z_gi (by omega) rfl
theorem z_m2 {k : Nat} {v : Int32} : ax_pi (zC n m p) 7 k (some 275) v = some (zC n (ax_u2 m 275 k v) p) := z_pi (by omega) rfl
theorem z_m5 : ax_gr (zC n m p) 7 5 (some 275) = some (some 279) := z_gr (by omega) rfl
theorem z_m6 : ax_gr (zC n m p) 7 6 (some 275) = some (some 280) := z_gr (by omega) rfl
theorem z_m7 : ax_gr (zC n m p) 7 7 (some 275) = some (some 281) := z_gr (by omega) rfl
theorem z_m8 : ax_gr (zC n m p) 7 8 (some 275) = some (some 282) := z_gr (by omega) rfl
theorem z_m10 : ax_gr (zC n m p) 7 10 (some 275) = some (some 283) := z_gr (by omega) rfl
theorem z_a9 (hj : j < 48) : ax_al (zC n m p) 9 (some 279) (nI j) = some (m 279 j) := z_al (by omega) rfl (by exact hj) (by omega)
theorem z_a0 (hj : j < 48) : ax_al (zC n m p) 9 (some 280) (nI j) = some (m 280 j) := z_al (by omega) rfl (by exact hj) (by omega)
theorem z_a1 (hj : j < 48) : ax_al (zC n m p) 9 (some 281) (nI j) = some (m 281 j) := z_al (by omega) rfl (by exact hj) (by omega)
theorem z_a2 (hj : j < 4608) : ax_al (zC n m p) 9 (some 282) (nI j) = some (m 282 j) := z_al (by omega) rfl (by exact hj) (by omega)
theorem z_a3 (hj : j < 5) : ax_al (zC n m p) 9 (some 283) (nI j) = some (m 283 j) := z_al (by omega) rfl (by exact hj) (by omega)
theorem z_s9 {v : Int32} (hj : j < 48) : ax_as (zC n m p) 9 (some 279) (nI j) v = some (zC n (ax_u2 m 279 j v) p) := z_as (by omega) (by omega) rfl (by exact hj) (by omega)
theorem z_s0 {v : Int32} (hj : j < 48) : ax_as (zC n m p) 9 (some 280) (nI j) v = some (zC n (ax_u2 m 280 j v) p) := z_as (by omega) (by omega) rfl (by exact hj) (by omega)
theorem z_s1 {v : Int32} (hj : j < 48) : ax_as (zC n m p) 9 (some 281) (nI j) v = some (zC n (ax_u2 m 281 j v) p) := z_as (by omega) (by omega) rfl (by exact hj) (by omega)
theorem z_s2 {v : Int32} (hj : j < 4608) : ax_as (zC n m p) 9 (some 282) (nI j) v = some (zC n (ax_u2 m 282 j v) p) := z_as (by omega) (by omega) rfl (by exact hj) (by omega)
theorem z_s3 {v : Int32} (hj : j < 5) : ax_as (zC n m p) 9 (some 283) (nI j) v = some (zC n (ax_u2 m 283 j v) p) := z_as (by omega) (by omega) rfl (by exact hj) (by omega)
theorem f_mfind_lp (h4 : m 275 4 = nI (c 2)) (h48 : c 2 ≤ 48) (hP : ∀ j, j < c 2 → m 279 j = nI (X j) ∧ m 280 j = nI (Y j) ∧ X j < 12 ∧ Y j < 100) : ∀ (d j f : Nat), j + d = c 2 → d < f → (∀ i, j ≤ i → i < c 2 → ¬ (X i = x ∧ Y i = y)) → x < 2 ^ 31 → y < 2 ^ 31 → fb_X10_find_2 f (some 275) (nI x) (nI y) (nI j) (zC n m p) = some (-1, zC n m p) := by
  intro d
  induction d with
  | zero =>
    intro j f hj hf hn hx hy
    obtain ⟨f, rfl⟩ : ∃ k, f = k + 1 := ⟨f - 1, by omega⟩
    unfold fb_X10_find_2
    rw [z_m1, h4, Option.bind_some, if_pos (nI_le (by omega) (by omega))]
  | succ d ih =>
    intro j f hj hf hn hx hy
    obtain ⟨f, rfl⟩ : ∃ k, f = k + 1 := ⟨f - 1, by omega⟩
    obtain ⟨a3, a4, a1, a2⟩ := hP j (by omega)
    have ih1 := ih (j + 1) f (by omega) (by omega) (fun i h1 h2 => hn i (by omega) h2) hx hy
    have hn1 := hn j (Nat.le_refl _) (by omega)
    unfold fb_X10_find_2
    rw [z_m1, h4, Option.bind_some, if_neg (nI_ge (by omega) (by omega)), z_m5, Option.bind_some, z_a9 (by omega), a3, Option.bind_some, z_m6, Option.bind_some, z_a0 (by omega), a4, Option.bind_some]
    rw [show nI j + 1 = nI (j + 1) from nI_1 j]
    by_cases h1 : X j = x
    · rw [if_pos (by rw [h1]), if_neg (fun q => hn1 ⟨h1, nI_inj (by omega) hy q⟩)]
      exact ih1
    · rw [if_neg (fun q => h1 (nI_inj (by omega) hx q))]
      exact ih1
theorem f_mfind_yes (h4 : m 275 4 = nI (c 2)) (h48 : c 2 ≤ 48) (hP : ∀ j, j < c 2 → m 279 j = nI (X j) ∧ m 280 j = nI (Y j) ∧ X j < 12 ∧ Y j < 100) {t : Nat} (ht : t < c 2) (hq : ∀ i, i < t → ¬ (X i = X t ∧ Y i = Y t)) : ∀ (d j f : Nat), j + d = t → d < f → fb_X10_find_2 f (some 275) (nI (X t)) (nI (Y t)) (nI j) (zC n m p) = some (nI t, zC n m p) := by
  obtain ⟨b3, b4, b1, b2⟩ := hP t (by omega)
  intro d
  induction d with
  | zero =>
    intro j f hj hf
    obtain ⟨f, rfl⟩ : ∃ k, f = k + 1 := ⟨f - 1, by omega⟩
    obtain rfl : j = t := by omega
    unfold fb_X10_find_2
    rw [z_m1, h4, Option.bind_some, if_neg (nI_ge (by omega) (by omega)), z_m5, Option.bind_some, z_a9 (by omega), b3, Option.bind_some, z_m6, Option.bind_some, z_a0 (by omega), b4, Option.bind_some, if_pos rfl, if_pos rfl]
  | succ d ih =>
    intro j f hj hf
    obtain ⟨f, rfl⟩ : ∃ k, f = k + 1 := ⟨f - 1, by omega⟩
    obtain ⟨a3, a4, a1, a2⟩ := hP j (by omega)
    have ih1 := ih (j + 1) f (by omega) (by omega)
    have hn1 := hq j (by omega)
    unfold fb_X10_find_2
    rw [z_m1, h4, Option.bind_some, if_neg (nI_ge (by omega) (by omega)), z_m5, Option.bind_some, z_a9 (by omega), a3, Option.bind_some, z_m6, Option.bind_some, z_a0 (by omega), a4, Option.bind_some]
    rw [show nI j + 1 = nI (j + 1) from nI_1 j]
    by_cases h1 : X j = X t
    · rw [if_pos (by rw [h1]), if_neg (fun q => hn1 ⟨h1, nI_inj (by omega) (by omega) q⟩)]
      exact ih1
    · rw [if_neg (fun q => h1 (nI_inj (by omega) (by omega) q))]
      exact ih1
theorem zMX_rows (h : zMX m X Y c K W) : ∀ j, j < c 2 → m 279 j = nI (X j) ∧ m 280 j = nI (Y j) ∧ X j < 12 ∧ Y j < 100 := fun j hj => by
  obtain ⟨a1, a2, a3, a4, -⟩ := h.2.2.2.1 j hj
  exact ⟨a3, a4, a1, a2⟩
theorem f_mfind0 (h : zMX m X Y c K W) (hx : x < 2 ^ 31) (hy : y < 2 ^ 31) (hk : K x y = 0) : fn_X10_find (some 275) (nI x) (nI y) (zC n m p) = some (-1, zC n m p) := by
  have h48 := h.2.2.1
  have := f_mfind_lp (n := n) (p := p) (x := x) (y := y) h.1.2.1 h48 (zMX_rows h) (c 2) 0 10000 (by omega) (by omega) (fun i _ hi q => (h.2.2.2.1 i hi).2.2.2.2.1 (by rw [q.1, q.2]; exact hk)) hx hy
  rw [nI_0] at this
  exact this
theorem f_mfind1 (h : zMX m X Y c K W) (hj : j < c 2) : fn_X10_find (some 275) (nI (X j)) (nI (Y j)) (zC n m p) = some (nI j, zC n m p) := by
  have h48 := h.2.2.1
  have := f_mfind_yes (n := n) (p := p) h.1.2.1 h48 (zMX_rows h) hj (fun i hi q => by
    have := h.2.2.2.2.1 i j (by omega) hj q.1 q.2
    omega) j 0 10000 (by omega) (by omega)
  rw [nI_0] at this
  exact this
theorem z_96 (a b : Nat) : (96 : Int32) * nI a + nI b = nI (96 * a + b) := by
  rw [show (96 : Int32) = nI 96 from rfl, pk_mul, nI_add]
theorem f_drops_lp {S : Nat} (hj : j < 48) (hS : S < 48) : ∀ (d i f : Nat) (m : Nat → Nat → Int32), i + d = 96 → d < f → m 275 4 = nI S → ∃ m', fb_X10_drops_57 f (some 275) (nI j) (nI i) (zC n m p) = some (zC n m' p) ∧ (∀ a, a ≠ 282 → m' a = m a) ∧ ∀ q, m' 282 q = if 96 * j + i ≤ q ∧ q < 96 * j + 96 then m 282 (96 * S + (q - 96 * j)) else m 282 q := by
  intro d
  induction d with
  | zero =>
    intro i f m hi hf h4
    obtain ⟨f, rfl⟩ : ∃ k, f = k + 1 := ⟨f - 1, by omega⟩
    obtain rfl : i = 96 := by omega
    refine ⟨m, ?_, fun _ _ => rfl, fun q => by rw [if_neg (by omega)]⟩
    unfold fb_X10_drops_57
    rw [if_pos (by decide)]
  | succ d ih =>
    intro i f m hi hf h4
    obtain ⟨f, rfl⟩ : ∃ k, f = k + 1 := ⟨f - 1, by omega⟩
    obtain ⟨m', a1, a2, a3⟩ := ih (i + 1) f (ax_u2 m 282 (96 * j + i) (m 282 (96 * S + i))) (by omega) (by omega) (by rw [ax_u2_ne (by omega)]; exact h4)
    refine ⟨m', ?_, fun a ha => by rw [a2 a ha, zu2_row ha], fun q => ?_⟩
    · unfold fb_X10_drops_57
      rw [if_neg (show ¬ (96 : Int32) ≤ nI i from nI_ge (b := 96) (by omega) (by omega)), z_m8, Option.bind_some, Option.bind_some, z_m1, h4, Option.bind_some, z_96, z_a2 (by omega), Option.bind_some, z_96, z_s2 (by omega), Option.bind_some]
      rw [show nI i + 1 = nI (i + 1) from nI_1 i]
      exact a1
    · rw [a3 q]
      by_cases hq : q = 96 * j + i
      · subst hq
        rw [if_neg (by omega), if_pos (by omega), ax_u2_self, show 96 * j + i - 96 * j = i by omega]
      · by_cases h1 : 96 * j + i ≤ q ∧ q < 96 * j + 96
        · rw [if_pos (by omega), if_pos h1, ax_u2_nk (by omega)]
        · rw [if_neg (by omega), if_neg h1, ax_u2_nk hq]
theorem f_mdrops (h : zMX m X Y c K W) (hj : j < c 2) : ∃ m' X' Y', fn_X10_drops (some 275) (nI j) (zC n m p) = some (zC n m' p) ∧ zMX m' X' Y' (va_up c 2 (c 2 - 1)) (ax_u2 K (X j) (Y j) 0) W ∧ zFm m m' ∧ (∀ i, X' i = X (if i = j then c 2 - 1 else i) ∧ Y' i = Y (if i = j then c 2 - 1 else i)) := by
  obtain ⟨⟨c1, c2, c3⟩, ⟨d1, d2, d3, d4⟩, h48, hP⟩ := h
  obtain ⟨S, hS⟩ : ∃ S, c 2 = S + 1 := ⟨c 2 - 1, by omega⟩
  rw [hS] at hP hj h48 c2
  have e1 : c 2 - 1 = S := by omega
  generalize hm1 : ax_u2 m 275 4 (nI S) = m1
  generalize hm2 : ax_u2 m1 279 j (m1 279 S) = m2
  generalize hm3 : ax_u2 m2 280 j (m2 280 S) = m3
  generalize hm4 : ax_u2 m3 281 j (m3 281 S) = m4
  have e4 : ∀ a, a ≠ 281 → m4 a = m3 a := fun a ha => by rw [← hm4]; exact zu2_row ha
  have e3 : ∀ a, a ≠ 280 → m3 a = m2 a := fun a ha => by rw [← hm3]; exact zu2_row ha
  have e2 : ∀ a, a ≠ 279 → m2 a = m1 a := fun a ha => by rw [← hm2]; exact zu2_row ha
  have e5 : ∀ a, a ≠ 275 → m1 a = m a := fun a ha => by rw [← hm1]; exact zu2_row ha
  have h14 : m1 275 4 = nI S := by rw [← hm1, ax_u2_self]
  obtain ⟨m5, a1, a2, a3⟩ := f_drops_lp (n := n) (p := p) (S := S) (j := j) (by omega) (by omega) 96 0 10000 m4 rfl (by omega) (by rw [e4 _ (by omega), e3 _ (by omega), e2 _ (by omega)]; exact h14)
  have er : ∀ a, a ≠ 275 → a ≠ 279 → a ≠ 280 → a ≠ 281 → a ≠ 282 → m5 a = m a := fun a h1 h2 h3 h4 h5 => by rw [a2 a h5, e4 a h4, e3 a h3, e2 a h2, e5 a h1]
  have e275 : m5 275 = m1 275 := by rw [a2 _ (by omega), e4 _ (by omega), e3 _ (by omega), e2 _ (by omega)]
  have e75 : ∀ k, k ≠ 4 → m5 275 k = m 275 k := fun k hk => by rw [e275, ← hm1, ax_u2_nk hk]
  have r0 : ∀ i, m5 279 i = m 279 (if i = j then S else i) := fun i => by
    rw [a2 _ (by omega), e4 _ (by omega), e3 _ (by omega), ← hm2]
    by_cases hij : i = j
    · subst hij; rw [ax_u2_self, if_pos rfl, e5 _ (by omega)]
    · rw [ax_u2_nk hij, if_neg hij, e5 _ (by omega)]
  have r1 : ∀ i, m5 280 i = m 280 (if i = j then S else i) := fun i => by
    rw [a2 _ (by omega), e4 _ (by omega), ← hm3]
    by_cases hij : i = j
    · subst hij; rw [ax_u2_self, if_pos rfl, e2 _ (by omega), e5 _ (by omega)]
    · rw [ax_u2_nk hij, if_neg hij, e2 _ (by omega), e5 _ (by omega)]
  have r2 : ∀ i, m5 281 i = m 281 (if i = j then S else i) := fun i => by
    rw [a2 _ (by omega), ← hm4]
    by_cases hij : i = j
    · subst hij; rw [ax_u2_self, if_pos rfl, e3 _ (by omega), e2 _ (by omega), e5 _ (by omega)]
    · rw [ax_u2_nk hij, if_neg hij, e3 _ (by omega), e2 _ (by omega), e5 _ (by omega)]
  have u : ∀ i, i ≠ 2 → va_up c 2 (c 2 - 1) i = c i := fun i hi => va_up_ne _ _ hi
  refine ⟨m5, fun i => X (if i = j then S else i), fun i => Y (if i = j then S else i), ?_, ⟨⟨?_, ?_, ?_⟩, ⟨?_, ?_, ?_, ?_⟩, ?_, ?_⟩, ⟨fun a ha => er a (by omega) (by omega) (by omega) (by omega) (by omega), fun k k1 k2 k3 => e75 k k2⟩, fun i => by rw [e1]; exact ⟨rfl, rfl⟩⟩
  · unfold fn_X10_drops
    rw [nI_0] at a1
    rw [z_m1, c2, Option.bind_some, nI_pred, z_m2, hm1, Option.bind_some, z_m5, Option.bind_some, Option.bind_some, z_m1, h14, Option.bind_some, z_a9 (by omega), Option.bind_some, z_s9 (by omega), hm2, Option.bind_some]
    rw [z_m6, Option.bind_some, Option.bind_some, z_m1, e2 _ (by omega), h14, Option.bind_some, z_a0 (by omega), Option.bind_some, z_s0 (by omega), hm3, Option.bind_some]
    rw [z_m7, Option.bind_some, Option.bind_some, z_m1, e3 _ (by omega), e2 _ (by omega), h14, Option.bind_some, z_a1 (by omega), Option.bind_some, z_s1 (by omega), hm4, Option.bind_some]
    exact a1
  · rw [e75 _ (by omega), u _ (by omega)]; exact c1
  · rw [e275, h14, va_up_self, e1]
  · rw [e75 _ (by omega), u _ (by omega)]; exact c3
  · rw [er _ (by omega) (by omega) (by omega) (by omega) (by omega), u _ (by omega)]; exact d1
  · rw [er _ (by omega) (by omega) (by omega) (by omega) (by omega), u _ (by omega)]; exact d2
  · rw [er _ (by omega) (by omega) (by omega) (by omega) (by omega), u _ (by omega)]; exact d3
  · rw [er _ (by omega) (by omega) (by omega) (by omega) (by omega), u _ (by omega)]; exact d4
  · rw [va_up_self]; omega
  · rw [va_up_self, e1]
    refine zP_rm hP hj (fun w i hw hi => ?_) (fun i k hi hk => ?_) (fun i hi => rfl)
    · have hw3 : w = 0 ∨ w = 1 ∨ w = 2 := by omega
      rcases hw3 with rfl | rfl | rfl
      · exact r0 i
      · exact r1 i
      · exact r2 i
    · show m5 282 (96 * i + k) = m 282 (96 * (if i = j then S else i) + k)
      rw [a3, e4 _ (by omega), e3 _ (by omega), e2 _ (by omega), e5 _ (by omega)]
      by_cases hij : i = j
      · subst hij
        rw [if_pos (by omega), if_pos rfl, show 96 * i + k - 96 * i = k by omega]
      · rw [if_neg (by omega), if_neg hij]
theorem f_oldest_lp (h : zMX m X Y c K W) (hU : zU K (c 1)) (hb : c 1 < 2 ^ 31) : ∀ (d i o f : Nat), i + d = c 2 → d < f → o < c 2 → (∀ t, t < i → K (X o) (Y o) ≤ K (X t) (Y t)) → ∃ o', o' < c 2 ∧ fb_X10_oldest_4 f (some 275) (nI o) (nI i) (zC n m p) = some (nI o', zC n m p) ∧ zmk K = (X o', Y o') := by
  obtain ⟨⟨c1, c2, c3⟩, ⟨d1, d2, d3, d4⟩, h48, hP⟩ := h
  intro d
  induction d with
  | zero =>
    intro i o f hi hf ho hmin
    obtain ⟨f, rfl⟩ : ∃ k, f = k + 1 := ⟨f - 1, by omega⟩
    have hz : zmk K = (X o, Y o) := zmk_is hU (hP.1 o ho).2.2.2.2.1 (fun a b hab => by
      obtain ⟨t, ht, rfl, rfl⟩ := hP.2.2 a b hab
      exact hmin t (by omega))
    refine ⟨o, ho, ?_, hz⟩
    unfold fb_X10_oldest_4
    rw [z_m1, c2, Option.bind_some, if_pos (nI_le (by omega) (by omega))]
  | succ d ih =>
    intro i o f hi hf ho hmin
    obtain ⟨f, rfl⟩ : ∃ k, f = k + 1 := ⟨f - 1, by omega⟩
    obtain ⟨a1, a2, a3, a4, a5, a6, a7, a8⟩ := hP.1 i (by omega)
    obtain ⟨b1, b2, b3, b4, b5, b6, b7, b8⟩ := hP.1 o (by omega)
    have k1 := hU.1 (X i) (Y i)
    have k2 := hU.1 (X o) (Y o)
    unfold fb_X10_oldest_4
    rw [z_m1, c2, Option.bind_some, if_neg (nI_ge (by omega) (by omega)), z_m7, Option.bind_some, z_a1 (by omega), show m 281 i = nI (K (X i) (Y i)) from a6, Option.bind_some, Option.bind_some, z_a1 (by omega), show m 281 o = nI (K (X o) (Y o)) from b6, Option.bind_some]
    rw [show nI i + 1 = nI (i + 1) from nI_1 i]
    by_cases hle : K (X o) (Y o) ≤ K (X i) (Y i)
    · rw [if_pos (nI_le hle (by omega))]
      exact ih (i + 1) o f (by omega) (by omega) ho (fun t ht => by
        by_cases hti : t = i
        · rw [hti]; exact hle
        · exact hmin t (by omega))
    · rw [if_neg (nI_ge (by omega) (by omega))]
      exact ih (i + 1) i f (by omega) (by omega) (by omega) (fun t ht => by
        by_cases hti : t = i
        · rw [hti]; exact Nat.le_refl _
        · have := hmin t (by omega)
          omega)
theorem f_oldest (h : zMX m X Y c K W) (hU : zU K (c 1)) (hb : c 1 < 2 ^ 31) (h0 : 0 < c 2) : ∃ o', o' < c 2 ∧ fn_X10_oldest (some 275) (zC n m p) = some (nI o', zC n m p) ∧ zmk K = (X o', Y o') := by
  have h48 := h.2.2.1
  have := f_oldest_lp (n := n) (p := p) h hU hb (c 2 - 1) 1 0 10000 (by omega) (by omega) h0 (fun t ht => by
    obtain rfl : t = 0 := by omega
    exact Nat.le_refl _)
  rw [nI_0] at this
  exact this
theorem zMX_r {i v : Nat} (h : zMX m X Y c K W) (h1 : 4 ≤ i) (h2 : i < 8) : zMX (ax_u2 m 283 (i - 3) (nI v)) X Y (va_up c i v) K W := by
  obtain ⟨⟨c1, c2, c3⟩, ⟨d1, d2, d3, d4⟩, h48, hP⟩ := h
  have e : ∀ a, a ≠ 283 → ax_u2 m 283 (i - 3) (nI v) a = m a := fun a ha => zu2_row ha
  have u : ∀ k, k ≠ i → va_up c i v k = c k := fun k hk => va_up_ne _ _ hk
  have hd : ∀ k, 4 ≤ k → m 283 (k - 3) = nI (c k) → ax_u2 m 283 (i - 3) (nI v) 283 (k - 3) = nI (va_up c i v k) := fun k hk hm => by
    by_cases hki : k = i
    · subst hki
      rw [ax_u2_self, va_up_self]
    · rw [ax_u2_nk (by omega), u k hki]
      exact hm
  refine ⟨⟨by rw [e _ (by omega), u _ (by omega)]; exact c1, by rw [e _ (by omega), u _ (by omega)]; exact c2, by rw [e _ (by omega), u _ (by omega)]; exact c3⟩, ⟨hd 4 (by omega) d1, hd 5 (by omega) d2, hd 6 (by omega) d3, hd 7 (by omega) d4⟩, by rw [u _ (by omega)]; exact h48, ?_⟩
  rw [u _ (by omega)]
  exact zP_congr hP (fun w j hw hj => by show ax_u2 m 283 _ _ (279 + w) j = _; rw [e _ (by omega)]; rfl) (fun j k hj hk => by show ax_u2 m 283 _ _ 282 _ = _; rw [e _ (by omega)]; rfl) (fun j hj => rfl)
theorem f_mroom_lp {r : Nat} (hr : r ≤ 48) : ∀ (d f : Nat) (m : Nat → Nat → Int32) (X Y c : Nat → Nat) (K : Nat → Nat → Nat), d < f → c 2 - r = d → c 1 < 2 ^ 31 → zU K (c 1) → zMX m X Y c K W → ∃ m' X' Y', fb_X10_makesRoom_0 f (some 275) (nI r) (zC n m p) = some (zC n m' p) ∧ zMX m' X' Y' (zrmC d c) (zrmK d K) W ∧ zFm m m' := by
  intro d
  induction d with
  | zero =>
    intro f m X Y c K hf hd hb hU h
    obtain ⟨f, rfl⟩ : ∃ k, f = k + 1 := ⟨f - 1, by omega⟩
    refine ⟨m, X, Y, ?_, h, zFm_rf⟩
    unfold fb_X10_makesRoom_0
    rw [z_m1, h.1.2.1, Option.bind_some, if_pos (nI_le (by omega) (by omega))]
  | succ d ih =>
    intro f m X Y c K hf hd hb hU h
    obtain ⟨f, rfl⟩ : ∃ k, f = k + 1 := ⟨f - 1, by omega⟩
    have h48 := h.2.2.1
    obtain ⟨o, ho, o1, o2⟩ := f_oldest (n := n) (p := p) h hU hb (by omega)
    obtain ⟨m1, X1, Y1, a1, a2, a3, -⟩ := f_mdrops (n := n) (p := p) h ho
    have a4 := zMX_r (i := 6) (v := c 6 + 1) a2 (by omega) (by omega)
    obtain ⟨e1, e2, e3⟩ := zdrC_1 c
    have eK : ax_u2 K (X o) (Y o) 0 = zdrK K := by
      unfold zdrK
      rw [o2]
    rw [eK] at a4
    obtain ⟨m2, X2, Y2, b1, b2, b3⟩ := ih f (ax_u2 m1 283 3 (nI (c 6 + 1))) X1 Y1 (zdrC c) (zdrK K) (by omega) (by rw [e2]; omega) (by omega) (by rw [e1]; exact zU_rm hU) a4
    have hF : zFm m1 (ax_u2 m1 283 3 (nI (c 6 + 1))) := ⟨fun a ha => zu2_row (by omega), fun k _ _ _ => ax_u2_ne (by omega) _⟩
    refine ⟨m2, X2, Y2, ?_, b2, zFm_tr a3 (zFm_tr hF b3)⟩
    unfold fb_X10_makesRoom_0
    rw [z_m1, h.1.2.1, Option.bind_some, if_neg (nI_ge (by omega) (by omega)), z_mo 0, Option.bind_some, o1, Option.bind_some, z_mo 0, Option.bind_some, a1, Option.bind_some, z_m10, Option.bind_some, show (3 : Int32) = nI 3 from rfl, z_a3 (by omega), Option.bind_some]
    have e6 : m1 283 3 = nI (c 6) := by
      have := a2.2.1.2.2.1
      rw [va_up_ne _ _ (by omega)] at this
      exact this
    rw [e6, nI_1, z_s3 (by omega), Option.bind_some]
    exact b1
theorem f_makesRoom {r : Nat} (hr : r ≤ 48) (h : zMX m X Y c K W) (hb : c 1 < 2 ^ 31) (hU : zU K (c 1)) : ∃ m' X' Y', fn_X10_makesRoom (some 275) (nI r) (zC n m p) = some (zC n m' p) ∧ zMX m' X' Y' (zrmC (c 2 - r) c) (zrmK (c 2 - r) K) W ∧ zFm m m' :=
  f_mroom_lp hr (c 2 - r) 10000 m X Y c K (by have := h.2.2.1; omega) rfl hb hU h
/-- a place of the model's is used -/
theorem f_muses (h : zMX m X Y c K W) (hj : j < c 2) : ∃ m', fn_X10_uses (some 275) (nI j) (zC n m p) = some (zC n m' p) ∧ zMX m' X Y (va_up c 1 (c 1 + 1)) (ax_u2 K (X j) (Y j) (c 1 + 1)) W ∧ zFm m m' := by
  obtain ⟨⟨c1, c2, c3⟩, ⟨d1, d2, d3, d4⟩, h48, hP⟩ := h
  have u : ∀ k, k ≠ 1 → va_up c 1 (c 1 + 1) k = c k := fun k hk => va_up_ne _ _ hk
  generalize hm1 : ax_u2 m 275 9 (nI (c 1 + 1)) = m1
  have e1 : ∀ a, a ≠ 275 → m1 a = m a := fun a ha => by rw [← hm1]; exact zu2_row ha
  have e2 : ∀ k, k ≠ 9 → m1 275 k = m 275 k := fun k hk => by rw [← hm1]; exact ax_u2_nk hk
  have e3 : ∀ a, a ≠ 281 → ax_u2 m1 281 j (nI (c 1 + 1)) a = m1 a := fun a ha => zu2_row ha
  refine ⟨ax_u2 m1 281 j (nI (c 1 + 1)), ?_, ⟨⟨?_, ?_, ?_⟩, ⟨?_, ?_, ?_, ?_⟩, ?_, ?_⟩, ⟨fun a ha => by rw [e3 a (by omega), e1 a (by omega)], fun k k1 k2 k3 => by rw [e3 _ (by omega), e2 k k3]⟩⟩
  · unfold fn_X10_uses
    rw [z_m1, c1, Option.bind_some, nI_1, z_m2, hm1, Option.bind_some, z_m7, Option.bind_some, z_m1, ← hm1, ax_u2_self, hm1, Option.bind_some, z_s1 (by omega), Option.bind_some]
  · rw [e3 _ (by omega), ← hm1, ax_u2_self, va_up_self]
  · rw [e3 _ (by omega), e2 _ (by omega), u _ (by omega)]; exact c2
  · rw [e3 _ (by omega), e2 _ (by omega), u _ (by omega)]; exact c3
  · rw [e3 _ (by omega), e1 _ (by omega), u _ (by omega)]; exact d1
  · rw [e3 _ (by omega), e1 _ (by omega), u _ (by omega)]; exact d2
  · rw [e3 _ (by omega), e1 _ (by omega), u _ (by omega)]; exact d3
  · rw [e3 _ (by omega), e1 _ (by omega), u _ (by omega)]; exact d4
  · rw [u _ (by omega)]; exact h48
  · rw [u _ (by omega)]
    refine zP_touch hP hj (by omega) (fun w i hw hi hne => ?_) (fun i k hi hk => ?_) (fun i hi => rfl) ?_
    · show ax_u2 m1 281 j _ (279 + w) i = m (279 + w) i
      by_cases hw2 : w = 2
      · subst hw2
        rw [ax_u2_nk (by omega), e1 _ (by omega)]
      · rw [e3 _ (by omega), e1 _ (by omega)]
    · show ax_u2 m1 281 j _ 282 _ = m 282 _
      rw [e3 _ (by omega), e1 _ (by omega)]
    · show ax_u2 m1 281 j _ 281 j = _
      exact ax_u2_self
/-- which keys go, as the model tells it -/
def zvm (s a0 a1 b0 b1 : Int32) (x y : Nat) : Bool := decide ((s >>> (nI x &&& 31)) &&& 1 = 1) && (decide (a0 ≤ nI y ∧ nI y ≤ a1) && !decide (b0 ≤ nI y ∧ nI y ≤ b1))
theorem f_mvoid_lp {s a0 a1 b0 b1 : Int32} {K0 : Nat → Nat → Nat} {B : Nat} (hB : B < 2 ^ 31) : ∀ (j f : Nat) (m : Nat → Nat → Int32) (X Y c : Nat → Nat) (K : Nat → Nat → Nat), j < f → j ≤ c 2 → c 2 ≤ B → zMX m X Y c K W → (∀ x y, K x y = K0 x y ∨ (K x y = 0 ∧ zvm s a0 a1 b0 b1 x y = true)) → (∀ i, j ≤ i → i < c 2 → zvm s a0 a1 b0 b1 (X i) (Y i) = false) →
    ∃ m' X' Y' k, k ≤ c 2 ∧ fb_X10_voids_18 f (some 275) a0 a1 b0 b1 s (nI (B - c 2)) (nI j - 1) (zC n m p) = some (nI (B - k), zC n m' p) ∧ zMX m' X' Y' (va_up (va_up c 2 k) 7 (c 7 + (B - k))) (zKf K0 (zvm s a0 a1 b0 b1)) W ∧ zFm m m' := by
  intro j
  induction j with
  | zero =>
    intro f m X Y c K hf hj hBc h hK hz
    obtain ⟨f, rfl⟩ : ∃ k, f = k + 1 := ⟨f - 1, by omega⟩
    have h48 := h.2.2.1
    have hKe : K = zKf K0 (zvm s a0 a1 b0 b1) := by
      funext x y
      unfold zKf
      split
      · rename_i ht
        by_cases hk : K x y = 0
        · exact hk
        · obtain ⟨i, hi, rfl, rfl⟩ := h.2.2.2.2.2 x y hk
          rw [hz i (by omega) hi] at ht
          exact absurd ht (by decide)
      · rename_i ht
        rcases hK x y with q | q
        · exact q
        · exact absurd q.2 ht
    have h2 := zMX_r (i := 7) (v := c 7 + (B - c 2)) h (by omega) (by omega)
    refine ⟨ax_u2 m 283 4 (nI (c 7 + (B - c 2))), X, Y, c 2, Nat.le_refl _, ?_, ?_, ⟨fun a ha => zu2_row (by omega), fun k _ _ _ => ax_u2_ne (by omega) _⟩⟩
    · unfold fb_X10_voids_18
      rw [if_pos (by decide), z_m10, Option.bind_some, show (4 : Int32) = nI 4 from rfl, z_a3 (by omega), h.2.1.2.2.2, Option.bind_some, nI_add, z_s3 (by omega), Option.bind_some]
    · have e : va_up c 2 (c 2) = c := by
        funext i
        unfold va_up
        split
        · rename_i q
          rw [q]
        · rfl
      rw [e, ← hKe]
      exact h2
  | succ j ih =>
    intro f m X Y c K hf hj hBc h hK hz
    obtain ⟨f, rfl⟩ : ∃ k, f = k + 1 := ⟨f - 1, by omega⟩
    have h48 := h.2.2.1
    obtain ⟨d1, d2, d3, d4, d5, d6, d7, d8⟩ := h.2.2.2.1 j (by omega)
    have estep : nI j + -1 = nI j - 1 := (Int32.sub_eq_add_neg _ _).symm
    have hun : fb_X10_voids_18 (f + 1) (some 275) a0 a1 b0 b1 s (nI (B - c 2)) (nI (j + 1) - 1) (zC n m p) = if zvm s a0 a1 b0 b1 (X j) (Y j) = true then (fn_X10_drops (some 275) (nI j) (zC n m p)).bind fun q15 => fb_X10_voids_18 f (some 275) a0 a1 b0 b1 s (nI (B - (c 2 - 1))) (nI j - 1) q15 else fb_X10_voids_18 f (some 275) a0 a1 b0 b1 s (nI (B - c 2)) (nI j - 1) (zC n m p) := by
      rw [nI_pred]
      conv => lhs; unfold fb_X10_voids_18
      rw [if_neg (nI_pos (by omega)), z_m6, Option.bind_some, z_a0 (by omega), show m 280 j = nI (Y j) from d4, Option.bind_some, z_m5, Option.bind_some, z_a9 (by omega), show m 279 j = nI (X j) from d3, Option.bind_some, f_in, Option.bind_some, f_in, Option.bind_some, estep, z_mo 0, Option.bind_some, nI_1, show B - c 2 + 1 = B - (c 2 - 1) by omega]
      unfold zvm
      by_cases h3 : (s >>> (nI (X j) &&& 31)) &&& 1 = 1
      · rw [if_pos h3]
        by_cases h4 : a0 ≤ nI (Y j) ∧ nI (Y j) ≤ a1
        · rw [zB_t h4, if_neg (show ¬ (1 : Int32) = 0 by decide)]
          by_cases h5 : b0 ≤ nI (Y j) ∧ nI (Y j) ≤ b1
          · rw [zB_t h5, if_neg (show ¬ (1 : Int32) = 0 by decide), if_neg (by simp [h5])]
          · rw [zB_f h5, if_pos rfl, if_pos (by simp [h3, h4, h5])]
        · rw [zB_f h4, if_pos rfl, if_neg (by simp [h4])]
      · rw [if_neg h3, if_neg (by simp [h3])]
    rw [hun]
    cases hv : zvm s a0 a1 b0 b1 (X j) (Y j)
    · rw [if_neg (by decide)]
      exact ih f m X Y c K (by omega) (by omega) hBc h hK (fun i h1 h2 => by
        by_cases hij : i = j
        · rw [hij]; exact hv
        · exact hz i (by omega) h2)
    · rw [if_pos rfl]
      obtain ⟨m1, X1, Y1, r1, r2, r3, r4⟩ := f_mdrops (n := n) (p := p) h (show j < c 2 by omega)
      have e2 : va_up c 2 (c 2 - 1) 2 = c 2 - 1 := va_up_self _ _ _
      obtain ⟨m2, X2, Y2, k, k0, k1, k2, k3⟩ := ih f m1 X1 Y1 (va_up c 2 (c 2 - 1)) (ax_u2 K (X j) (Y j) 0) (by omega) (by rw [e2]; omega) (by rw [e2]; omega) r2 (fun x y => by
        by_cases hxy : x = X j ∧ y = Y j
        · refine Or.inr ⟨if_pos hxy, ?_⟩
          rw [hxy.1, hxy.2]
          exact hv
        · rw [show ax_u2 K (X j) (Y j) 0 x y = K x y from if_neg hxy]
          exact hK x y) (fun i h1 h2 => by
        rw [e2] at h2
        rw [(r4 i).1, (r4 i).2]
        split
        · exact hz (c 2 - 1) (by omega) (by omega)
        · exact hz i (by omega) (by omega))
      rw [e2] at k0 k1
      refine ⟨m2, X2, Y2, k, by omega, ?_, ?_, zFm_tr r3 k3⟩
      · rw [r1]
        exact k1
      · have e3 : va_up (va_up (va_up c 2 (c 2 - 1)) 2 k) 7 (va_up c 2 (c 2 - 1) 7 + (B - k)) = va_up (va_up c 2 k) 7 (c 7 + (B - k)) := by
          funext i
          simp only [va_up]
          by_cases h7 : i = 7
          · simp [h7]
          · by_cases h2 : i = 2
            · simp [h2]
            · simp [h7, h2]
        rw [e3] at k2
        exact k2
theorem f_mvoid {N a : Nat} {V : Nat → Nat → Int32} (hG : zGM m N V) (hV : zOK N V) (ha : a < N) (h : zMX m X Y c K W) (a0 a1 b0 b1 : Int32) : ∃ m' X' Y' k, k ≤ c 2 ∧ fn_X10_voids (some 275) (nI a) a0 a1 b0 b1 (zC n m p) = some (nI (c 2 - k), zC n m' p) ∧ zMX m' X' Y' (va_up (va_up c 2 k) 7 (c 7 + (c 2 - k))) (zKf K (zvm (zfd N V a N) a0 a1 b0 b1)) W ∧ zFm m m' := by
  have h48 := h.2.2.1
  obtain ⟨m2, X2, Y2, k, k0, k1, k2, k3⟩ := f_mvoid_lp (n := n) (p := p) (K0 := K) (s := zfd N V a N) (a0 := a0) (a1 := a1) (b0 := b0) (b1 := b1) (B := c 2) (by omega) (c 2) 10000 m X Y c K (by omega) (Nat.le_refl _) (Nat.le_refl _) h (fun x y => Or.inl rfl) (fun i h1 h2 => by omega)
  refine ⟨m2, X2, Y2, k, k0, ?_, k2, k3⟩
  unfold fn_X10_voids
  rw [Nat.sub_self, nI_0] at k1
  rw [z_mo 0, Option.bind_some, f_mdep hG hV ha, Option.bind_some]
  dsimp only
  rw [z_m1, h.1.2.1, Option.bind_some]
  unfold ax_bd
  dsimp only
  rw [k1]
end MCACHE
