/-! ===== the law: a node is added ===== -/
/-- what holds between the law's steps -/
def zLw (m : Nat → Nat → Int32) (p : Nat → Nat) (B N : Nat) (V : Nat → Nat → Int32) (C : zSt) (LT : Nat × (Nat → Nat)) (S : Nat → Option (Nat × (Nat → Nat → Int32))) : Prop :=
  zCls m p ((N, V), C, LT, S) ∧ zAbs B ((N, V), C, LT, S) ∧ zQV (zPix V) C ∧ (∀ i, i < N → m 275 (3 * i) = V i 0) ∧ ∀ i k, i < N → k < 3 → m 276 (3 * i + k) = V i (3 + k)
section ADDS
variable {n N L B k f : Nat} {m m' : Nat → Nat → Int32} {p T : Nat → Nat} {V : Nat → Nat → Int32} {C : zSt} {x : Int32} {S : Nat → Option (Nat × (Nat → Nat → Int32))}
theorem z_a275 {j : Nat} (hj : j < 36) : ax_al (zC n m p) 9 (some 275) (nI j) = some (m 275 j) := z_al (by omega) rfl (by exact hj) (by omega)
theorem z_a276 {j : Nat} (hj : j < 36) : ax_al (zC n m p) 9 (some 276) (nI j) = some (m 276 j) := z_al (by omega) rfl (by exact hj) (by omega)
theorem z_a277 {j : Nat} (hj : j < 48) : ax_al (zC n m p) 9 (some 277) (nI j) = some (m 277 j) := z_al (by omega) rfl (by exact hj) (by omega)
theorem z_s275 {j : Nat} (hj : j < 36) : ax_as (zC n m p) 9 (some 275) (nI j) x = some (zC n (ax_u2 m 275 j x) p) := z_as (by omega) (by omega) rfl (by exact hj) (by omega)
theorem z_s276 {j : Nat} (hj : j < 36) : ax_as (zC n m p) 9 (some 276) (nI j) x = some (zC n (ax_u2 m 276 j x) p) := z_as (by omega) (by omega) rfl (by exact hj) (by omega)
theorem z_s277 {j : Nat} (hj : j < 48) : ax_as (zC n m p) 9 (some 277) (nI j) x = some (zC n (ax_u2 m 277 j x) p) := z_as (by omega) (by omega) rfl (by exact hj) (by omega)
theorem z_t3 (a : Nat) : (3 : Int32) * nI a = nI (3 * a) := by rw [show (3 : Int32) = nI 3 from rfl, pk_mul]
theorem z_t4 (a : Nat) : (4 : Int32) * nI a = nI (4 * a) := by rw [show (4 : Int32) = nI 4 from rfl, pk_mul]
/-- a parameter at first, as the law has it -/
def ldf (k j : Nat) : Int32 := if nI k = 1 then 16 else if nI k = 4 then 1 else if nI k = 5 then (if nI j = 2 then 255 else 0) else 0
theorem ldf_af : ∀ k, k < 7 → ∀ j, j < zpn k → ldf k j = zaf k j := by decide +kernel
theorem l_adds157_un {j : Nat} (hj : j < 4) : fb_L_adds_157 (f + 1) (some 9) (some 277) (nI N) (nI k) 1 (nI j) (zC n m p) = fb_L_adds_211 (fb_L_adds_157 f) (some 9) (some 277) (nI N) (nI k) 1 (nI j) (some 277) (((4) * nI N) + nI j) (ldf k j) (zC n m p) := by
  conv => lhs; unfold fb_L_adds_157
  unfold ldf
  rw [if_neg (show ¬ (4 : Int32) ≤ nI j from nI_ge (b := 4) (by omega) (by omega))]
  split
  · rfl
  · split
    · rfl
    · split
      · split <;> rfl
      · rfl
theorem l_adds157 (h3 : zOK (N + 1) V) (hN : N < 9) (hk : k < 7) (hV : ∀ w, w < 10 → V N w = zNew k w) : ∀ (d j f : Nat) (m : Nat → Nat → Int32), j + d = 4 → d < f → zCls m p ((N + 1, V), C, (L, T), S) → zAbs B ((N + 1, V), C, (L, T), S) → ∃ m', fb_L_adds_157 f (some 9) (some 277) (nI N) (nI k) 1 (nI j) (zC n m p) = some (1, zC n m' p) ∧ ∀ a, a ≠ 277 → m' a = m a := by
  intro d
  induction d with
  | zero =>
    intro j f m hj hf h1 hA
    obtain ⟨f, rfl⟩ : ∃ k, f = k + 1 := ⟨f - 1, by omega⟩
    obtain rfl : j = 4 := by omega
    refine ⟨m, ?_, fun _ _ => rfl⟩
    unfold fb_L_adds_157
    rw [if_pos (by decide)]
  | succ d ih =>
    intro j f m hj hf h1 hA
    obtain ⟨f, rfl⟩ : ∃ k, f = k + 1 := ⟨f - 1, by omega⟩
    have hc1 : zCls (ax_u2 m 277 (4 * N + j) (ldf k j)) p ((N + 1, V), C, (L, T), S) := zCls_fr h1 (fun a ha => zu2_row (by omega))
    obtain ⟨m', e1, e2⟩ := ih (j + 1) f (ax_u2 m 277 (4 * N + j) (ldf k j)) (by omega) (by omega) hc1 hA
    refine ⟨m', ?_, fun a ha => by rw [e2 a ha, zu2_row ha]⟩
    rw [l_adds157_un (by omega)]
    unfold fb_L_adds_211
    rw [z_t4, nI_add, z_s277 (by omega), Option.bind_some, if_neg (by decide), l_parameters hk, Option.bind_some]
    dsimp only
    have hk0 : V N 0 = nI k := (hV 0 (by omega)).trans (if_pos rfl)
    by_cases hz : zpn k ≤ j
    · rw [if_pos (nI_le hz (by omega))]
      unfold fb_L_adds_247
      rw [nI_1]
      exact e1
    · have h4 := (zin_lt k hk).2
      rw [if_neg (nI_ge (by omega) (by omega)), z_gi9, Option.bind_some, k_parameter hc1 hA (by omega) hk hk0 (by omega), Option.bind_some]
      dsimp only
      have ev : V N (6 + j) = ldf k j := by
        rw [hV _ (by omega), ldf_af k hk j (by omega)]
        unfold zNew
        rw [if_neg (by omega), if_neg (by omega), if_neg (by omega), if_neg (by omega), show 6 + j - 6 = j by omega]
      rw [z_a277 (by omega), ax_u2_self, Option.bind_some, if_pos ev]
      unfold fb_L_adds_247
      rw [nI_1]
      exact e1
theorem l_adds94 (hN : N < 9) (hk : k < 7) (hV : ∀ w, w < 10 → V N w = zNew k w) : ∀ (d j f : Nat) (m : Nat → Nat → Int32), j + d = 3 → d < f → zCls m p ((N + 1, V), C, (L, T), S) → zAbs B ((N + 1, V), C, (L, T), S) → ∃ m', fb_L_adds_94 f (some 9) (some 276) (some 277) (nI N) (nI k) 1 (nI j) (zC n m p) = some (1, zC n m' p) ∧ (∀ a, a ≠ 276 → a ≠ 277 → m' a = m a) ∧ ∀ q, m' 276 q = if 3 * N + j ≤ q ∧ q < 3 * N + 3 then -1005 else m 276 q := by
  intro d
  induction d with
  | zero =>
    intro j f m hj hf h1 hA
    obtain ⟨f, rfl⟩ : ∃ k, f = k + 1 := ⟨f - 1, by omega⟩
    obtain rfl : j = 3 := by omega
    obtain ⟨m', e1, e2⟩ := l_adds157 (n := n) hA.1 hN hk hV 4 0 10000 m rfl (by omega) h1 hA
    refine ⟨m', ?_, fun a _ ha => e2 a ha, fun q => by rw [if_neg (by omega), e2 276 (by omega)]⟩
    unfold fb_L_adds_94
    rw [if_pos (by decide)]
    exact e1
  | succ d ih =>
    intro j f m hj hf h1 hA
    obtain ⟨f, rfl⟩ : ∃ k, f = k + 1 := ⟨f - 1, by omega⟩
    have hc1 : zCls (ax_u2 m 276 (3 * N + j) (-1005)) p ((N + 1, V), C, (L, T), S) := zCls_fr h1 (fun a ha => zu2_row (by omega))
    obtain ⟨m', e1, e2, e3⟩ := ih (j + 1) f (ax_u2 m 276 (3 * N + j) (-1005)) (by omega) (by omega) hc1 hA
    refine ⟨m', ?_, fun a ha hb => by rw [e2 a ha hb, zu2_row ha], fun q => ?_⟩
    · unfold fb_L_adds_94
      rw [if_neg (show ¬ (3 : Int32) ≤ nI j from nI_ge (b := 3) (by omega) (by omega)), z_t3, nI_add, z_s276 (by omega), Option.bind_some, if_neg (by decide), l_inputs hk, Option.bind_some]
      dsimp only
      have hk0 : V N 0 = nI k := (hV 0 (by omega)).trans (if_pos rfl)
      by_cases hz : zin k ≤ j
      · rw [if_pos (nI_le hz (by omega))]
        unfold fb_L_adds_141
        rw [nI_1]
        exact e1
      · have h4 := (zin_lt k hk).1
        rw [if_neg (nI_ge (by omega) (by omega)), z_gi9, Option.bind_some, k_input hc1 hA (by omega) hk hk0 (by omega), Option.bind_some]
        dsimp only
        have ev : V N (3 + j) = -1005 := by
          rw [hV _ (by omega)]
          unfold zNew
          rw [if_neg (by omega), if_neg (by omega), if_neg (by omega), if_pos (by omega)]
        rw [if_pos ev]
        unfold fb_L_adds_141
        rw [nI_1]
        exact e1
    · rw [e3 q]
      by_cases hq : q = 3 * N + j
      · subst hq
        rw [if_neg (by omega), ax_u2_self, if_pos (by omega)]
      · rw [ax_u2_nk hq]
        by_cases h2 : 3 * N + j ≤ q ∧ q < 3 * N + 3
        · rw [if_pos h2, if_pos (by omega)]
        · rw [if_neg h2, if_neg (by omega)]
theorem l_adds (h : zLw m p B N V C (L, T) S) (hN : N < 9) (hk : k < 7) : ∃ m1 p1, fn_L_adds (some 9) (some 275) (some 276) (some 277) (nI N) (nI k) (zC n m p) = some (1, zC n m1 p1) ∧ zLw m1 p1 (B + 100) (N + 1) (zVadd N V k) C (L, T) S ∧ ∀ a, a < 9 → m1 a = m a := by
  obtain ⟨h1, h3, hQ, g1, g2⟩ := h
  have hOK := h3.1
  have e0 : ∀ a, a ≠ 275 → ax_u2 (ax_u2 (ax_u2 m 275 (3 * N) (nI k)) 275 (3 * N + 1) 0) 275 (3 * N + 2) 99 a = m a := fun a ha => by rw [zu2_row ha, zu2_row ha, zu2_row ha]
  have e00 : ax_u2 (ax_u2 (ax_u2 m 275 (3 * N) (nI k)) 275 (3 * N + 1) 0) 275 (3 * N + 2) 99 275 (3 * N) = nI k := by rw [ax_u2_nk (by omega), ax_u2_nk (by omega), ax_u2_self]
  have e01 : ∀ i, i < N → ax_u2 (ax_u2 (ax_u2 m 275 (3 * N) (nI k)) 275 (3 * N + 1) 0) 275 (3 * N + 2) 99 275 (3 * i) = m 275 (3 * i) := fun i hi => by rw [ax_u2_nk (by omega), ax_u2_nk (by omega), ax_u2_nk (by omega)]
  generalize hm0 : ax_u2 (ax_u2 (ax_u2 m 275 (3 * N) (nI k)) 275 (3 * N + 1) 0) 275 (3 * N + 2) 99 = m0 at e0 e00 e01
  have hc0 : zCls m0 p ((N, V), C, (L, T), S) := zCls_fr h1 (fun a ha => e0 a (by omega))
  obtain ⟨m1, p1, a1, a2, a3, a4⟩ := k_addNode (n := n) hc0 h3 (show N < 12 by omega) hk
  have hVN : ∀ w, w < 10 → zVadd N V k N w = zNew k w := fun w _ => if_pos rfl
  have hk0 : zVadd N V k N 0 = nI k := (hVN 0 (by omega)).trans (if_pos rfl)
  have hVi : ∀ i, i < N → zVadd N V k i = V i := fun i hi => by funext w; exact if_neg (by omega)
  obtain ⟨m2, b1, b2, b3⟩ := l_adds94 (n := n) hN hk hVN 3 0 10000 m1 rfl (by omega) a3 a4
  have hx0 := k_node (n := n) a3 a4 (show N < N + 1 by omega) (q := 0) (by omega)
  rw [nI_0, show zTell (N + 1) (zVadd N V k) N 0 = nI k from (if_pos (by omega)).trans hk0] at hx0
  have hz : ¬ ((0 : Int32) ≤ nI (zin k) ∧ nI (zin k) ≤ nI (zin k) - 1) := fun q => by
    have h4 := (zin_lt k hk).1
    obtain ⟨j, hj, e⟩ := z_inlt (N := zin k) (by omega) q.1 q.2
    have := nI_inj (by omega) (by omega) e
    omega
  have hz2 : ¬ ((0 : Int32) ≤ nI (zpn k) ∧ nI (zpn k) ≤ nI (zpn k) - 1) := fun q => by
    have h4 := (zin_lt k hk).2
    obtain ⟨j, hj, e⟩ := z_inlt (N := zpn k) (by omega) q.1 q.2
    have := nI_inj (by omega) (by omega) e
    omega
  refine ⟨m2, p1, ?_, ⟨zCls_fr a3 (fun a ha => b2 a (by omega) (by omega)), a4, zQV_add hOK (by omega) hk (fun y g hy => ⟨(h3.2.1.2.1 y g hy).1, (h3.2.1.2.1 y g hy).2.1⟩) hQ, fun i hi => ?_, fun i q hi hq => ?_⟩, fun a ha => by rw [b2 a (by omega) (by omega), a2 a (by omega), e0 a (by omega)]⟩
  · unfold fn_L_adds fi_L_adds
    rw [z_t3, z_s275 (by omega), Option.bind_some, nI_1, z_s275 (by omega), Option.bind_some, show (2 : Int32) = nI 2 from rfl, nI_add, z_s275 (by omega), hm0, Option.bind_some, z_gi9, Option.bind_some, a1, Option.bind_some]
    dsimp only
    rw [if_pos rfl, z_gi9, Option.bind_some, hx0, Option.bind_some]
    dsimp only
    rw [if_pos rfl, l_inputs hk, Option.bind_some]
    dsimp only
    rw [z_gi9, Option.bind_some, k_input_no a3 a4 (by omega) hk hk0 hz, Option.bind_some]
    dsimp only
    rw [if_pos rfl, l_parameters hk, Option.bind_some]
    dsimp only
    rw [z_gi9, Option.bind_some, k_parameter_no a3 a4 (by omega) hk hk0 hz2, Option.bind_some]
    dsimp only
    rw [if_pos rfl]
    rw [nI_0] at b1
    rw [b1, zbz1]
  · rw [b2 275 (by omega) (by omega), a2 275 (by omega)]
    by_cases hiN : i = N
    · subst hiN
      rw [e00, hk0]
    · rw [e01 i (by omega), g1 i (by omega), hVi i (by omega)]
  · rw [b3]
    by_cases hiN : i = N
    · subst hiN
      rw [if_pos (by omega), hVN _ (by omega)]
      unfold zNew
      rw [if_neg (by omega), if_neg (by omega), if_neg (by omega), if_pos (by omega)]
    · rw [if_neg (by omega), a2 276 (by omega), e0 276 (by omega), g2 i q (by omega) hq, hVi i (by omega)]
end ADDS
