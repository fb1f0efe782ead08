/-! ===== the model reads: a node is told ===== -/
section MTELLS
variable {n L N P F D k i e g : Nat} {m m' : Nat → Nat → Int32} {p T : Nat → Nat} {c hi x : Int32} {us : Nat → Nat} {W : Nat → Nat → Int32}
theorem z_8F (a : Nat) : (8 : Int32) * nI a = nI (8 * a) := by
  rw [show (8 : Int32) = nI 8 from rfl, pk_mul]
/-- the inputs of the row, and the pile of what is done -/
theorem m_t79 (hF : F < 30) (hz : zin k ≤ 3) (hzD : zin k ≤ D) (hD : D < 40) : ∀ (d j f : Nat) (m : Nat → Nat → Int32), j + d = zin k → d < f → m 275 25 = nI F → m 275 27 = nI D → ∃ m', fb_X10_tells_79 f (some 275) (nI (8 * F)) (nI (zin k)) (nI j) (zC n m p) = some (zC n m' p) ∧ m' 275 25 = nI (F + 1) ∧ m' 275 27 = nI (D - zin k + 1) ∧ m' 293 (D - zin k) = nI (100 + F) ∧ (∀ i, i ≠ D - zin k → m' 293 i = m 293 i) ∧ (∀ t, m' 292 t = if 8 * F + 1 + j ≤ t ∧ t < 8 * F + 1 + zin k then m 293 (D - zin k + (t - (8 * F + 1))) else m 292 t) ∧ (∀ a, a ≠ 275 → a ≠ 292 → a ≠ 293 → m' a = m a) ∧ ∀ j, j ≠ 25 → j ≠ 27 → m' 275 j = m 275 j := by
  intro d
  induction d with
  | zero =>
    intro j f m hj hf h25 h27
    obtain ⟨f, rfl⟩ : ∃ k, f = k + 1 := ⟨f - 1, by omega⟩
    obtain rfl : j = zin k := by omega
    generalize hm1 : ax_u2 m 275 27 (nI (D - zin k)) = m1
    generalize hm2 : ax_u2 m1 293 (D - zin k) (nI (100 + F)) = m2
    generalize hm3 : ax_u2 m2 275 27 (nI (D - zin k + 1)) = m3
    generalize hm4 : ax_u2 m3 275 25 (nI (F + 1)) = m4
    have e1 : ∀ a, a ≠ 275 → m1 a = m a := fun a ha => by rw [← hm1]; exact zu2_row ha
    have e2 : ∀ a, a ≠ 293 → m2 a = m1 a := fun a ha => by rw [← hm2]; exact zu2_row ha
    have e3 : ∀ a, a ≠ 275 → m3 a = m2 a := fun a ha => by rw [← hm3]; exact zu2_row ha
    have e4 : ∀ a, a ≠ 275 → m4 a = m3 a := fun a ha => by rw [← hm4]; exact zu2_row ha
    have k1 : m1 275 25 = nI F := by rw [← hm1, ax_u2_nk (by omega)]; exact h25
    have k3 : m3 275 25 = nI F := by rw [← hm3, ax_u2_nk (by omega), e2 _ (by omega)]; exact k1
    have j1 : m1 275 27 = nI (D - zin k) := by rw [← hm1]; exact ax_u2_self
    have j2 : m2 275 27 = nI (D - zin k) := by rw [e2 _ (by omega)]; exact j1
    refine ⟨m4, ?_, by rw [← hm4, ax_u2_self], by rw [← hm4, ax_u2_nk (by omega), ← hm3, ax_u2_self], by rw [e4 _ (by omega), e3 _ (by omega), ← hm2, ax_u2_self], fun i hi => by rw [e4 _ (by omega), e3 _ (by omega), ← hm2, ax_u2_nk hi, e1 _ (by omega)], fun t => ?_, fun a h1 h2 h3 => by rw [e4 a h1, e3 a h1, e2 a h3, e1 a h1], fun j h1 h2 => by rw [← hm4, ax_u2_nk h1, ← hm3, ax_u2_nk h2, e2 _ (by omega), ← hm1, ax_u2_nk h2]⟩
    · unfold fb_X10_tells_79
      rw [if_pos (nI_le (Nat.le_refl _) (by omega)), z_m1, h27, Option.bind_some, nI_sub hzD, z_m2, hm1, Option.bind_some, z_m26, Option.bind_some, z_m1, j1, Option.bind_some, z_m1, k1, Option.bind_some, show (100 : Int32) + nI F = nI (100 + F) from nI_add 100 F, z_o3s (by omega), hm2, Option.bind_some, z_m1, j2, Option.bind_some, nI_1, z_m2, hm3, Option.bind_some, z_m1, k3, Option.bind_some, nI_1, z_m2, hm4, Option.bind_some]
    · rw [if_neg (by omega), e4 _ (by omega), e3 _ (by omega), e2 _ (by omega), e1 _ (by omega)]
  | succ d ih =>
    intro j f m hj hf h25 h27
    obtain ⟨f, rfl⟩ : ∃ k, f = k + 1 := ⟨f - 1, by omega⟩
    have e1 : ∀ a, a ≠ 292 → ax_u2 m 292 (8 * F + 1 + j) (m 293 (D - zin k + j)) a = m a := fun a ha => zu2_row ha
    obtain ⟨m', a1, a2, a3, a4, a5, a6, a7, a8⟩ := ih (j + 1) f (ax_u2 m 292 (8 * F + 1 + j) (m 293 (D - zin k + j))) (by omega) (by omega) (by rw [e1 _ (by omega)]; exact h25) (by rw [e1 _ (by omega)]; exact h27)
    refine ⟨m', ?_, a2, a3, a4, fun i hi => by rw [a5 i hi, e1 _ (by omega)], fun t => ?_, fun a h1 h2 h3 => by rw [a7 a h1 h2 h3, e1 a h2], fun j h1 h2 => by rw [a8 j h1 h2, e1 _ (by omega)]⟩
    · unfold fb_X10_tells_79
      rw [if_neg (nI_ge (by omega) (by omega)), z_m24, Option.bind_some, z_m26, Option.bind_some, z_m1, h27, Option.bind_some, nI_sub hzD, nI_add, z_o3 (by omega), Option.bind_some, nI_1, nI_add, z_o2s (by omega), Option.bind_some, nI_1]
      exact a1
    · rw [a6 t]
      by_cases ht : t = 8 * F + 1 + j
      · subst ht
        rw [if_neg (show ¬ (8 * F + 1 + (j + 1) ≤ 8 * F + 1 + j ∧ 8 * F + 1 + j < 8 * F + 1 + zin k) by omega), ax_u2_self, if_pos (show 8 * F + 1 + j ≤ 8 * F + 1 + j ∧ 8 * F + 1 + j < 8 * F + 1 + zin k by omega), show 8 * F + 1 + j - (8 * F + 1) = j by omega]
      · rw [ax_u2_nk ht, e1 _ (by omega)]
        by_cases h1 : 8 * F + 1 + j ≤ t ∧ t < 8 * F + 1 + zin k
        · rw [if_pos h1, if_pos (by omega)]
        · rw [if_neg h1, if_neg (by omega)]
theorem m_t43 (hk : k < 7) (hM : zMT m) (hF : F < 30) : ∀ (d j f : Nat) (m1 : Nat → Nat → Int32), j + d = 4 → d < f → (∀ a, a ≠ 292 → m1 a = m a) → ∃ m', fb_X10_tells_43 f (some 275) (nI k) (nI (8 * F)) (nI j) (zC n m1 p) = fb_X10_tells_79 10000 (some 275) (nI (8 * F)) (nI (zin k)) 0 (zC n m' p) ∧ (∀ a, a ≠ 292 → m' a = m a) ∧ ∀ t, m' 292 t = if 8 * F + 4 + j ≤ t ∧ t < 8 * F + 8 then zfi k (t - (8 * F + 4)) else m1 292 t := by
  intro d
  induction d with
  | zero =>
    intro j f m1 hj hf he
    obtain ⟨f, rfl⟩ : ∃ k, f = k + 1 := ⟨f - 1, by omega⟩
    obtain rfl : j = 4 := by omega
    refine ⟨m1, ?_, he, fun t => by rw [if_neg (by omega)]⟩
    unfold fb_X10_tells_43
    rw [if_pos (by decide), z_m13, Option.bind_some, z_al (t := 9) (a := 285) (by omega) rfl (by exact hk) (by omega), he 285 (by omega), (hM k hk).1, Option.bind_some]
  | succ d ih =>
    intro j f m1 hj hf he
    obtain ⟨f, rfl⟩ : ∃ k, f = k + 1 := ⟨f - 1, by omega⟩
    obtain ⟨m', a1, a2, a3⟩ := ih (j + 1) f (ax_u2 m1 292 (8 * F + 4 + j) (zfi k j)) (by omega) (by omega) (fun a ha => by rw [zu2_row ha]; exact he a ha)
    refine ⟨m', ?_, a2, fun t => ?_⟩
    · unfold fb_X10_tells_43
      rw [if_neg (show ¬ (4 : Int32) ≤ nI j from nI_ge (b := 4) (by omega) (by omega)), z_m24, Option.bind_some, f_first, Option.bind_some]
      dsimp only
      rw [show nI (8 * F) + 4 = nI (8 * F + 4) from nI_add _ 4, nI_add, z_o2s (by omega), Option.bind_some, nI_1]
      exact a1
    · rw [a3 t]
      by_cases ht : t = 8 * F + 4 + j
      · subst ht
        rw [if_neg (show ¬ (8 * F + 4 + (j + 1) ≤ 8 * F + 4 + j ∧ 8 * F + 4 + j < 8 * F + 8) by omega), ax_u2_self, if_pos (show 8 * F + 4 + j ≤ 8 * F + 4 + j ∧ 8 * F + 4 + j < 8 * F + 8 by omega), show 8 * F + 4 + j - (8 * F + 4) = j by omega]
      · rw [ax_u2_nk ht]
        by_cases h1 : 8 * F + 4 + j ≤ t ∧ t < 8 * F + 8
        · rw [if_pos h1, if_pos (by omega)]
        · rw [if_neg h1, if_neg (by omega)]
theorem m_t17 (hF : F < 30) : ∀ (d j f : Nat) (m : Nat → Nat → Int32), j + d = 3 → d < f → ∃ m', fb_X10_tells_17 f (some 275) (nI k) (nI (8 * F)) (nI j) (zC n m p) = fb_X10_tells_43 10000 (some 275) (nI k) (nI (8 * F)) 0 (zC n m' p) ∧ (∀ a, a ≠ 292 → m' a = m a) ∧ ∀ t, m' 292 t = if 8 * F + 1 + j ≤ t ∧ t < 8 * F + 4 then -1005 else m 292 t := by
  intro d
  induction d with
  | zero =>
    intro j f m hj hf
    obtain ⟨f, rfl⟩ : ∃ k, f = k + 1 := ⟨f - 1, by omega⟩
    obtain rfl : j = 3 := by omega
    refine ⟨m, ?_, fun _ _ => rfl, fun t => by rw [if_neg (by omega)]⟩
    unfold fb_X10_tells_17
    rw [if_pos (by decide)]
  | succ d ih =>
    intro j f m hj hf
    obtain ⟨f, rfl⟩ : ∃ k, f = k + 1 := ⟨f - 1, by omega⟩
    obtain ⟨m', a1, a2, a3⟩ := ih (j + 1) f (ax_u2 m 292 (8 * F + 1 + j) (-1005)) (by omega) (by omega)
    refine ⟨m', ?_, fun a ha => by rw [a2 a ha, zu2_row ha], fun t => ?_⟩
    · unfold fb_X10_tells_17
      rw [if_neg (show ¬ (3 : Int32) ≤ nI j from nI_ge (b := 3) (by omega) (by omega)), z_m24, Option.bind_some, nI_1, nI_add, z_o2s (by omega), Option.bind_some, nI_1]
      exact a1
    · rw [a3 t]
      by_cases ht : t = 8 * F + 1 + j
      · subst ht
        rw [if_neg (show ¬ (8 * F + 1 + (j + 1) ≤ 8 * F + 1 + j ∧ 8 * F + 1 + j < 8 * F + 4) by omega), ax_u2_self, if_pos (show 8 * F + 1 + j ≤ 8 * F + 1 + j ∧ 8 * F + 1 + j < 8 * F + 4 by omega)]
      · rw [ax_u2_nk ht]
        by_cases h1 : 8 * F + 1 + j ≤ t ∧ t < 8 * F + 4
        · rw [if_pos h1, if_pos (by omega)]
        · rw [if_neg h1, if_neg (by omega)]
theorem m_tells (hk : k < 7) (hM : zMT m) (hF : F < 30) (hzD : zin k ≤ D) (hD : D < 40) (h25 : m 275 25 = nI F) (h27 : m 275 27 = nI D) : ∃ m', fn_X10_tells (some 275) (nI k) (zC n m p) = some (zC n m' p) ∧ m' 275 25 = nI (F + 1) ∧ m' 275 27 = nI (D - zin k + 1) ∧ m' 293 (D - zin k) = nI (100 + F) ∧ (∀ i, i ≠ D - zin k → m' 293 i = m 293 i) ∧ m' 292 (8 * F) = nI k ∧ (∀ j, j < 3 → m' 292 (8 * F + 1 + j) = if j < zin k then m 293 (D - zin k + j) else -1005) ∧ (∀ q, q < 4 → m' 292 (8 * F + 4 + q) = zfi k q) ∧ (∀ t, t < 8 * F → m' 292 t = m 292 t) ∧ (∀ a, a ≠ 275 → a ≠ 292 → a ≠ 293 → m' a = m a) ∧ ∀ j, j ≠ 25 → j ≠ 27 → m' 275 j = m 275 j := by
  have hz := (zin_lt k hk).1
  have e0 : ∀ a, a ≠ 292 → ax_u2 m 292 (8 * F) (nI k) a = m a := fun a ha => zu2_row ha
  obtain ⟨m1, a1, a2, a3⟩ := m_t17 (n := n) (p := p) (k := k) hF 3 0 10000 (ax_u2 m 292 (8 * F) (nI k)) rfl (by omega)
  obtain ⟨m2, b1, b2, b3⟩ := m_t43 (n := n) (p := p) (m := m) hk hM hF 4 0 10000 m1 rfl (by omega) (fun a ha => by rw [a2 a ha, e0 a ha])
  obtain ⟨m3, c1, c2, c3, c4, c5, c6, c7, c8⟩ := m_t79 (n := n) (p := p) (k := k) hF hz hzD hD (zin k) 0 10000 m2 (by omega) (by omega) (by rw [b2 _ (by omega)]; exact h25) (by rw [b2 _ (by omega)]; exact h27)
  rw [nI_0] at a1 b1 c1
  refine ⟨m3, ?_, c2, c3, c4, fun i hi => by rw [c5 i hi, b2 _ (by omega)], ?_, fun j hj => ?_, fun q hq => ?_, fun t ht => ?_, fun a h1 h2 h3 => by rw [c7 a h1 h2 h3, b2 a h2], fun j h1 h2 => by rw [c8 j h1 h2, b2 _ (by omega)]⟩
  · unfold fn_X10_tells ax_bd
    rw [z_m1, h25, Option.bind_some]
    dsimp only
    rw [z_8F, z_m24, Option.bind_some, z_o2s (by omega), Option.bind_some, a1, b1, c1]
  · rw [c6, if_neg (by omega), b3, if_neg (by omega), a3, if_neg (by omega), ax_u2_self]
  · rw [c6]
    by_cases hjz : j < zin k
    · rw [if_pos (by omega), if_pos hjz, b2 _ (by omega), show 8 * F + 1 + j - (8 * F + 1) = j by omega]
    · rw [if_neg (by omega), if_neg hjz, b3, if_neg (by omega), a3, if_pos (by omega)]
  · rw [c6, if_neg (by omega), b3, if_pos (by omega), show 8 * F + 4 + q - (8 * F + 4) = q by omega]
  · rw [c6, if_neg (by omega), b3, if_neg (by omega), a3, if_neg (by omega), ax_u2_nk (by omega)]
/-- the numbers come into the row -/
def zpar (o : Nat → Int32) (ns : Nat → Int32) (many : Nat) (all : Bool) (q : Nat) : Int32 := if q = 0 then (if many = 0 then o 0 else ns 0) else if q < 3 then (if all = true then ns 0 else if many ≤ 1 then o q else ns q) else (if many ≤ 1 then o 3 else ns 3)
theorem m_288 {a many : Nat} {all : Bool} {ns : Nat → Int32} (ha : a + 3 < 240) (hm : many ≤ 4) : ∃ m', fb_X10_ends_288 (some 275) (ns 0) (ns 1) (ns 2) (ns 3) (nI many) (nI a) (zq all) (zC n m p) = some (1, zC n m' p) ∧ (∀ b, b ≠ 292 → m' b = m b) ∧ (∀ q, q < 4 → m' 292 (a + q) = zpar (fun q => m 292 (a + q)) ns many all q) ∧ ∀ t, t < a → m' 292 t = m 292 t := by
  have s1 : nI a + 1 = nI (a + 1) := nI_add a 1
  have s2 : nI a + 2 = nI (a + 2) := nI_add a 2
  have s3 : nI a + 3 = nI (a + 3) := nI_add a 3
  have c0 : (nI many ≤ 0) ↔ many = 0 := ⟨fun q => by
    have := (nI_leI (a := many) (b := 0) (by omega) (by omega)).mp q
    omega, fun q => by rw [q]; decide⟩
  have c1 : (nI many ≤ 1) ↔ many ≤ 1 := nI_leI (a := many) (b := 1) (by omega) (by omega)
  have hall : zq all = 0 ↔ all = false := by cases all <;> decide
  generalize hv0 : zpar (fun q => m 292 (a + q)) ns many all 0 = v0
  generalize hv1 : zpar (fun q => m 292 (a + q)) ns many all 1 = v1
  generalize hv2 : zpar (fun q => m 292 (a + q)) ns many all 2 = v2
  generalize hv3 : zpar (fun q => m 292 (a + q)) ns many all 3 = v3
  generalize hm0 : ax_u2 m 292 a v0 = m0
  generalize hm1 : ax_u2 m0 292 (a + 1) v1 = m1
  generalize hm2 : ax_u2 m1 292 (a + 2) v2 = m2
  generalize hm3 : ax_u2 m2 292 (a + 3) v3 = m3
  have e : ∀ b, b ≠ 292 → m3 b = m b := fun b hb => by rw [← hm3, zu2_row hb, ← hm2, zu2_row hb, ← hm1, zu2_row hb, ← hm0, zu2_row hb]
  have h387 : ∀ v : Int32, fb_X10_ends_387 (some 275) (ns 3) (nI many) (nI a) (some 292) (nI (a + 2)) v (zC n m1 p) = if v = v2 then some (1, zC n m3 p) else fb_X10_ends_387 (some 275) (ns 3) (nI many) (nI a) (some 292) (nI (a + 2)) v (zC n m1 p) := by
    intro v
    by_cases hv : v = v2
    · rw [if_pos hv, hv]
      unfold fb_X10_ends_387
      rw [z_o2s (by omega), hm2, Option.bind_some, z_m24, Option.bind_some, s3]
      by_cases h : many ≤ 1
      · have : v3 = m2 292 (a + 3) := by
          rw [← hm2, ax_u2_nk (by omega), ← hm1, ax_u2_nk (by omega), ← hm0, ax_u2_nk (by omega), ← hv3]
          unfold zpar
          rw [if_neg (by omega), if_neg (by omega), if_pos h]
        rw [if_pos (c1.mpr h), Option.bind_some, z_o2 (by omega), Option.bind_some, z_o2s (by omega), ← this, hm3, Option.bind_some]
      · have : v3 = ns 3 := by
          rw [← hv3]
          unfold zpar
          rw [if_neg (by omega), if_neg (by omega), if_neg h]
        rw [if_neg (fun q => h (c1.mp q)), z_o2s (by omega), ← this, hm3, Option.bind_some]
    · rw [if_neg hv]
  have h349 : fb_X10_ends_349 (some 275) (ns 0) (ns 2) (ns 3) (nI many) (nI a) (zq all) (some 292) (nI (a + 1)) v1 (zC n m0 p) = some (1, zC n m3 p) := by
    unfold fb_X10_ends_349
    rw [z_o2s (by omega), hm1, Option.bind_some, z_m24, Option.bind_some, s2]
    by_cases hq : all = true
    · have : ns 0 = v2 := by
        rw [← hv2]
        unfold zpar
        rw [if_neg (by omega), if_pos (by omega), if_pos hq]
      rw [if_neg (fun q => absurd (hall.mp q) (by rw [hq]; decide)), h387, if_pos this]
    · have hq' : all = false := by cases all <;> simp_all
      rw [if_pos (hall.mpr hq')]
      by_cases h : many ≤ 1
      · have : m1 292 (a + 2) = v2 := by
          rw [← hm1, ax_u2_nk (by omega), ← hm0, ax_u2_nk (by omega), ← hv2]
          unfold zpar
          rw [if_neg (by omega), if_pos (by omega), if_neg hq, if_pos h]
        rw [if_pos (c1.mpr h), Option.bind_some, z_o2 (by omega), Option.bind_some, h387, if_pos this]
      · have : ns 2 = v2 := by
          rw [← hv2]
          unfold zpar
          rw [if_neg (by omega), if_pos (by omega), if_neg hq, if_neg h]
        rw [if_neg (fun q => h (c1.mp q)), h387, if_pos this]
  have h312 : fb_X10_ends_312 (some 275) (ns 0) (ns 1) (ns 2) (ns 3) (nI many) (nI a) (zq all) (some 292) (nI a) v0 (zC n m p) = some (1, zC n m3 p) := by
    unfold fb_X10_ends_312
    rw [z_o2s (by omega), hm0, Option.bind_some, z_m24, Option.bind_some, s1]
    by_cases hq : all = true
    · have : ns 0 = v1 := by
        rw [← hv1]
        unfold zpar
        rw [if_neg (by omega), if_pos (by omega), if_pos hq]
      rw [if_neg (fun q => absurd (hall.mp q) (by rw [hq]; decide))]
      rw [this] at h349 ⊢
      exact h349
    · have hq' : all = false := by cases all <;> simp_all
      rw [if_pos (hall.mpr hq')]
      by_cases h : many ≤ 1
      · have : m0 292 (a + 1) = v1 := by
          rw [← hm0, ax_u2_nk (by omega), ← hv1]
          unfold zpar
          rw [if_neg (by omega), if_pos (by omega), if_neg hq, if_pos h]
        rw [if_pos (c1.mpr h), Option.bind_some, z_o2 (by omega), Option.bind_some, this]
        exact h349
      · have : ns 1 = v1 := by
          rw [← hv1]
          unfold zpar
          rw [if_neg (by omega), if_pos (by omega), if_neg hq, if_neg h]
        rw [if_neg (fun q => h (c1.mp q)), this]
        exact h349
  refine ⟨m3, ?_, e, fun q hq => ?_, fun t ht => by rw [← hm3, ax_u2_nk (by omega), ← hm2, ax_u2_nk (by omega), ← hm1, ax_u2_nk (by omega), ← hm0, ax_u2_nk (by omega)]⟩
  · unfold fb_X10_ends_288
    rw [z_m24, Option.bind_some]
    by_cases h : many = 0
    · have : m 292 a = v0 := by
        rw [← hv0]
        unfold zpar
        rw [if_pos rfl, if_pos h]
        rfl
      rw [if_pos (c0.mpr h), Option.bind_some, z_o2 (by omega), Option.bind_some, this]
      exact h312
    · have : ns 0 = v0 := by
        rw [← hv0]
        unfold zpar
        rw [if_pos rfl, if_neg h]
      rw [if_neg (fun q => h (c0.mp q))]
      rw [this] at h312 ⊢
      exact h312
  · have hc : q = 0 ∨ q = 1 ∨ q = 2 ∨ q = 3 := by omega
    rcases hc with rfl | rfl | rfl | rfl
    · rw [hv0, ← hm3, ax_u2_nk (by omega), ← hm2, ax_u2_nk (by omega), ← hm1, ax_u2_nk (by omega), ← hm0]
      exact ax_u2_self
    · rw [hv1, ← hm3, ax_u2_nk (by omega), ← hm2, ax_u2_nk (by omega), ← hm1, ax_u2_self]
    · rw [hv2, ← hm3, ax_u2_nk (by omega), ← hm2, ax_u2_self]
    · rw [hv3, ← hm3, ax_u2_self]
theorem zpar_ok {o ns : Nat → Int32} : ∀ k, k < 7 → ∀ q, q < zpn k → zpar o ns (znn k) (decide (k = 1 ∨ k = 2)) q = ns (if q < znn k then q else 0) := by
  intro k hk q hq
  have hc : k = 0 ∨ k = 1 ∨ k = 2 ∨ k = 3 ∨ k = 4 ∨ k = 5 ∨ k = 6 := by omega
  have hz : zpn k ≤ 4 := (zin_lt k hk).2
  have hq4 : q = 0 ∨ q = 1 ∨ q = 2 ∨ q = 3 := by omega
  rcases hc with rfl | rfl | rfl | rfl | rfl | rfl | rfl <;> rcases hq4 with rfl | rfl | rfl | rfl <;> first | rfl | (exfalso; revert hq; decide)
end MTELLS
