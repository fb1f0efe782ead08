/-! ===== addNode ===== -/
/-- the model's row of the graph alone -/
def zF1 (b : Nat) (m m' : Nat → Nat → Int32) : Prop := ∀ a, a ≠ b → m' a = m a
section MADD
variable {n N i k c : Nat} {m : Nat → Nat → Int32} {p : Nat → Nat} {V : Nat → Nat → Int32} {x y P : Int32}
theorem zfirst_all : ((List.range 7).all fun k => (List.range 4).all fun q => !(decide (q < zpn k)) || (if nI k = 1 then (16 : Int32) else if nI k = 4 then 1 else if nI k = 5 then (if nI q = 2 then 255 else 0) else 0) == zaf k q) = true := by decide +kernel
def zfi (k q : Nat) : Int32 := if nI k = 1 then 16 else if nI k = 4 then 1 else if nI k = 5 then (if nI q = 2 then 255 else 0) else 0
theorem f_first {q : Nat} (s : ax_S) : fn_X10_first (nI k) (nI q) s = some (zfi k q, s) := by
  unfold fn_X10_first zfi
  split
  · rfl
  · split
    · rfl
    · split
      · split <;> rfl
      · rfl
theorem zfi_af {q : Nat} (hk : k < 7) (hq : q < zpn k) : zfi k q = zaf k q := by
  have h4 := (zin_lt k hk).2
  have h1 := List.all_eq_true.mp zfirst_all k (List.mem_range.mpr hk)
  have h2 := List.all_eq_true.mp h1 q (List.mem_range.mpr (by omega))
  simp only [hq, decide_true, Bool.not_true, Bool.false_or, beq_iff_eq] at h2
  exact h2
/-- the model's row behind the making of a node -/
theorem f_madds71 (hN : N < 12) (hk : k < 7) : ∀ (d c f : Nat) (m : Nat → Nat → Int32), c + d = 4 → d < f → m 276 0 = nI N → ∃ m', fb_X10_adds_71 f (some 275) (nI k) (nI N) (nI c) (zC n m p) = some (nI N, zC n m' p) ∧ zF1 276 m m' ∧ m' 276 0 = nI (N + 1) ∧ (∀ j, 0 < j → (j < 1 + 10 * N + 6 + c ∨ 1 + 10 * N + 10 ≤ j) → m' 276 j = m 276 j) ∧ ∀ q, c ≤ q → q < 4 → m' 276 (1 + 10 * N + (6 + q)) = zfi k q := by
  intro d
  induction d with
  | zero =>
    intro c f m hc hf h0
    obtain ⟨f, rfl⟩ : ∃ k, f = k + 1 := ⟨f - 1, by omega⟩
    obtain rfl : c = 4 := by omega
    refine ⟨ax_u2 m 276 0 (nI (N + 1)), ?_, fun a ha => zu2_row ha, ax_u2_self, fun j hj _ => ax_u2_nk (by omega), fun q h1 h2 => by omega⟩
    unfold fb_X10_adds_71
    rw [if_pos (by decide), z_mr, show zR p 275 0 = some 276 from rfl]
    simp only [Option.bind_some]
    rw [show (0 : Int32) = nI 0 from rfl, z_v (by omega), h0]
    simp only [Option.bind_some]
    rw [show nI N + 1 = nI (N + 1) from nI_1 N, z_vs (by omega)]
    rfl
  | succ d ih =>
    intro c f m hc hf h0
    obtain ⟨f, rfl⟩ : ∃ k, f = k + 1 := ⟨f - 1, by omega⟩
    obtain ⟨m', q1, q2, q3, q4, q5⟩ := ih (c + 1) f (ax_u2 m 276 (1 + 10 * N + (6 + c)) (zfi k c)) (by omega) (by omega) (by rw [ax_u2_nk (by omega)]; exact h0)
    refine ⟨m', ?_, fun a ha => by rw [q2 a ha, zu2_row ha], q3, fun j hj hor => by rw [q4 j hj (by omega), ax_u2_nk (by omega)], fun q h1 h2 => ?_⟩
    · unfold fb_X10_adds_71
      rw [if_neg (show ¬ (4 : Int32) ≤ nI c from nI_ge (b := 4) (by omega) (by omega)), z_mr, show zR p 275 0 = some 276 from rfl]
      simp only [Option.bind_some, fn_X10_at]
      rw [f_first]
      simp only [Option.bind_some]
      rw [show (6 : Int32) = nI 6 from rfl, nI_add, z_at, z_vs (by omega)]
      simp only [Option.bind_some]
      rw [show nI c + 1 = nI (c + 1) from nI_1 c]
      exact q1
    · by_cases e : q = c
      · subst e
        rw [q4 _ (by omega) (by omega), ax_u2_self]
      · exact q5 q (by omega) h2
theorem f_madds43 (hN : N < 12) (hk : k < 7) : ∀ (d c f : Nat) (m : Nat → Nat → Int32), c + d = 3 → d < f → m 276 0 = nI N → ∃ m', fb_X10_adds_43 f (some 275) (nI k) (nI N) (nI c) (zC n m p) = some (nI N, zC n m' p) ∧ zF1 276 m m' ∧ m' 276 0 = nI (N + 1) ∧ (∀ j, 0 < j → (j < 1 + 10 * N + 3 + c ∨ 1 + 10 * N + 10 ≤ j) → m' 276 j = m 276 j) ∧ (∀ q, c ≤ q → q < 3 → m' 276 (1 + 10 * N + (3 + q)) = -1005) ∧ ∀ q, q < 4 → m' 276 (1 + 10 * N + (6 + q)) = zfi k q := by
  intro d
  induction d with
  | zero =>
    intro c f m hc hf h0
    obtain ⟨f, rfl⟩ : ∃ k, f = k + 1 := ⟨f - 1, by omega⟩
    obtain rfl : c = 3 := by omega
    obtain ⟨m', q1, q2, q3, q4, q5⟩ := f_madds71 (n := n) (p := p) hN hk 4 0 10000 m rfl (by omega) h0
    rw [nI_0] at q1
    refine ⟨m', ?_, q2, q3, fun j hj hor => q4 j hj (by omega), fun q h1 h2 => by omega, fun q hq => q5 q (by omega) hq⟩
    unfold fb_X10_adds_43
    rw [if_pos (by decide)]
    exact q1
  | succ d ih =>
    intro c f m hc hf h0
    obtain ⟨f, rfl⟩ : ∃ k, f = k + 1 := ⟨f - 1, by omega⟩
    obtain ⟨m', q1, q2, q3, q4, q5, q6⟩ := ih (c + 1) f (ax_u2 m 276 (1 + 10 * N + (3 + c)) (-1005)) (by omega) (by omega) (by rw [ax_u2_nk (by omega)]; exact h0)
    refine ⟨m', ?_, fun a ha => by rw [q2 a ha, zu2_row ha], q3, fun j hj hor => by rw [q4 j hj (by omega), ax_u2_nk (by omega)], fun q h1 h2 => ?_, q6⟩
    · unfold fb_X10_adds_43
      rw [if_neg (show ¬ (3 : Int32) ≤ nI c from nI_ge (b := 3) (by omega) (by omega)), z_mr, show zR p 275 0 = some 276 from rfl]
      simp only [Option.bind_some, fn_X10_at]
      rw [show (3 : Int32) = nI 3 from rfl, nI_add, z_at, z_vs (by omega)]
      simp only [Option.bind_some]
      rw [show nI c + 1 = nI (c + 1) from nI_1 c]
      exact q1
    · by_cases e : q = c
      · subst e
        rw [q4 _ (by omega) (by omega), ax_u2_self]
      · exact q5 q (by omega) h2
theorem f_madds (hG : zGM m N V) (hN : N < 12) (hk : k < 7) : ∃ m', fn_X10_adds (some 275) (nI k) (zC n m p) = some (nI N, zC n m' p) ∧ zF1 276 m m' ∧ zGM m' (N + 1) (zVadd N V k) ∧ m' 276 (1 + 10 * N) = nI k ∧ ∀ q, q < 4 → m' 276 (1 + 10 * N + (6 + q)) = zfi k q := by
  generalize hm1 : ax_u2 (ax_u2 (ax_u2 m 276 (1 + 10 * N + 0) (nI k)) 276 (1 + 10 * N + 1) 0) 276 (1 + 10 * N + 2) 99 = m1
  have e1 : ∀ a, a ≠ 276 → m1 a = m a := fun a ha => by rw [← hm1, zu2_row ha, zu2_row ha, zu2_row ha]
  have e2 : ∀ j, j ≠ 1 + 10 * N + 0 → j ≠ 1 + 10 * N + 1 → j ≠ 1 + 10 * N + 2 → m1 276 j = m 276 j := fun j a b c => by rw [← hm1, ax_u2_nk c, ax_u2_nk b, ax_u2_nk a]
  have a0 : m1 276 (1 + 10 * N + 0) = nI k := by rw [← hm1, ax_u2_nk (by omega), ax_u2_nk (by omega), ax_u2_self]
  have a1 : m1 276 (1 + 10 * N + 1) = 0 := by rw [← hm1, ax_u2_nk (by omega), ax_u2_self]
  have a2 : m1 276 (1 + 10 * N + 2) = 99 := by rw [← hm1, ax_u2_self]
  obtain ⟨m', q1, q2, q3, q4, q5, q6⟩ := f_madds43 (n := n) (p := p) hN hk 3 0 10000 m1 rfl (by omega) (by rw [e2 0 (by omega) (by omega) (by omega)]; exact hG.1)
  have hvN : ∀ w, zVadd N V k N w = zNew k w := fun w => if_pos rfl
  have hv : ∀ i w, i ≠ N → zVadd N V k i w = V i w := fun i w hi => if_neg hi
  refine ⟨m', ?_, fun a ha => by rw [q2 a ha, e1 a ha], ⟨q3, fun i w hi hw => ?_, fun i k' q hi hk' e hq => ?_⟩, ?_, q6⟩
  · unfold fn_X10_adds
    simp only [fn_X10_at, Option.bind_some]
    rw [z_mr, show zR p 275 0 = some 276 from rfl]
    simp only [Option.bind_some]
    rw [show ax_al (zC n m p) 9 (some 276) 0 = some (nI N) from by rw [show (0 : Int32) = nI 0 from rfl, z_v (by omega), hG.1]]
    simp only [Option.bind_some]
    rw [show (1 : Int32) + 10 * nI N + 0 = nI (1 + 10 * N + 0) from z_at N 0, z_vs (by omega)]
    simp only [Option.bind_some]
    rw [z_mr, show zR p 275 0 = some 276 from rfl]
    simp only [Option.bind_some]
    rw [show (1 : Int32) + 10 * nI N + 1 = nI (1 + 10 * N + 1) from z_at N 1, z_vs (by omega)]
    simp only [Option.bind_some]
    rw [z_mr, show zR p 275 0 = some 276 from rfl]
    simp only [Option.bind_some]
    rw [show (1 : Int32) + 10 * nI N + 2 = nI (1 + 10 * N + 2) from z_at N 2, z_vs (by omega), hm1]
    simp only [Option.bind_some]
    rw [nI_0] at q1
    exact q1
  · by_cases hiN : i = N
    · subst hiN
      rw [hvN]
      have : w = 0 ∨ w = 1 ∨ w = 2 ∨ w = 3 + 0 ∨ w = 3 + 1 ∨ w = 3 + 2 := by omega
      rcases this with rfl | rfl | rfl | rfl | rfl | rfl
      · rw [q4 _ (by omega) (by omega), a0]; rfl
      · rw [q4 _ (by omega) (by omega), a1]; rfl
      · rw [q4 _ (by omega) (by omega), a2]; rfl
      · rw [q5 0 (by omega) (by omega)]; rfl
      · rw [q5 1 (by omega) (by omega)]; rfl
      · rw [q5 2 (by omega) (by omega)]; rfl
    · rw [hv i w hiN, q4 _ (by omega) (by omega), e2 _ (by omega) (by omega) (by omega)]
      exact hG.2.1 i w (by omega) hw
  · have h4 := (zin_lt k' hk').2
    by_cases hiN : i = N
    · subst hiN
      have : k = k' := by
        rw [hvN] at e
        exact nI_inj (by omega) (by omega) e
      subst this
      rw [q6 q (by omega), zfi_af hk hq, hvN]
      unfold zNew
      rw [if_neg (by omega), if_neg (by omega), if_neg (by omega), if_neg (by omega), show 6 + q - 6 = q by omega]
    · rw [hv i _ hiN] at e
      rw [hv i _ hiN, q4 _ (by omega) (by omega), e2 _ (by omega) (by omega) (by omega)]
      exact hG.2.2 i k' q (by omega) hk' e hq
  · have := q4 (1 + 10 * N + 0) (by omega) (by omega)
    rw [Nat.add_zero] at this a0
    rw [this, a0]
theorem zGM_fr {m' : Nat → Nat → Int32} (h : zGM m N V) (hf : m' 276 = m 276) : zGM m' N V := ⟨by rw [hf]; exact h.1, fun i w hi hw => by rw [hf]; exact h.2.1 i w hi hw, fun i k q hi hk e hq => by rw [hf]; exact h.2.2 i k q hi hk e hq⟩
theorem zGC_f1 {m' : Nat → Nat → Int32} (h : zGC m 10 N V) (hN : N ≤ 12) (hf : ∀ a, a < 51 → m' a = m a) : zGC m' 10 N V := ⟨by rw [hf 10 (by omega)]; exact h.1, fun i w hi hw => by rw [hf _ (by omega)]; exact h.2.1 i w hi hw, fun i k hi hk => by rw [hf _ (by omega)]; exact h.2.2.1 i k hi hk, fun i q hi hq => by rw [hf _ (by omega)]; exact h.2.2.2 i q hi hq⟩
theorem zOC_f1 {m' : Nat → Nat → Int32} (h : zOC m 10 N V) (hf : ∀ a, a < 51 → m' a = m a) : zOC m' 10 N V := ⟨fun t ht => by rw [hf _ (by omega), hf _ (by omega)]; exact h.1 t ht, by
  obtain ⟨D, d1, d2, d3⟩ := h.2
  exact ⟨D, d1, d2, fun i hi => by rw [hf _ (by omega)]; exact d3 i hi⟩⟩
/-- addNode: both answer alike; what is so behind it -/
theorem q_addNode (hT : zT m) (I : zIG m N V) : ∃ r m1 m2 N' V', fn_X9_addNode (some 9) x (zC n m p) = some (r, zC n m1 p) ∧ fn_X10_addNode (some 275) x (zC n m1 p) = some (r, zC n m2 p) ∧ zIG m2 N' V' ∧ ∀ a, (a < 10 ∨ 51 ≤ a) → a ≠ 276 → m2 a = m a := by
  obtain ⟨hG, hO, hGM, h⟩ := id I
  have hN := h.1
  by_cases hx : 0 ≤ x ∧ x ≤ 6
  · obtain ⟨k, hk, rfl⟩ := z_in (N := 6) (by omega) hx.1 hx.2
    have c9 : fn_X9_addNode (some 9) (nI k) (zC n m p) = (fn_X1_add (some 10) (nI k) (zC n m p)).bind fun q5 => some (q5.1, q5.2) := by
      unfold fn_X9_addNode
      rw [f_isIn, zB_t hx]
      simp only [Option.bind_some]
      rw [if_neg (by decide), z_cr, show zR p 9 0 = some 10 from rfl]
      simp only [Option.bind_some]
      rw [z_gs]
      rfl
    by_cases hfull : N = 12
    · subst hfull
      refine ⟨-1004, m, m, 12, V, ?_, ?_, I, fun _ _ _ => rfl⟩
      · rw [c9, f_add_full z10 hG.1]
        rfl
      · unfold fn_X10_addNode
        rw [f_in, zB_t hx]
        simp only [Option.bind_some]
        rw [if_neg (by decide), z_mr, show zR p 275 0 = some 276 from rfl]
        simp only [Option.bind_some]
        rw [show (0 : Int32) = nI 0 from rfl, z_v (by omega), hGM.1]
        rfl
    · have hN2 : N < 12 := by omega
      obtain ⟨m1, a1, a2, a3, a4⟩ := f_add (n := n) (p := p) z10 hT hG h hN2 (k := k) (by omega)
      have hGM1 : zGM m1 N V := zGM_fr hGM (a2 276 (by omega))
      obtain ⟨m2, b1, b2, b3, -⟩ := f_madds (n := n) (p := p) hGM1 hN2 (k := k) (by omega)
      refine ⟨nI N, m1, m2, N + 1, zVadd N V k, by rw [c9, a1]; rfl, ?_, ⟨zGC_f1 a3 (by omega) (fun a ha => b2 a (by omega)), zOC_f1 a4 (fun a ha => b2 a (by omega)), b3, zOK_add h hN2 (by omega)⟩, fun a ha hn => by rw [b2 a hn, a2 a (by omega)]⟩
      unfold fn_X10_addNode
      rw [f_in, zB_t hx]
      simp only [Option.bind_some]
      rw [if_neg (by decide), z_mr, show zR p 275 0 = some 276 from rfl]
      simp only [Option.bind_some]
      rw [show ax_al (zC n m1 p) 9 (some 276) 0 = some (nI N) from by rw [show (0 : Int32) = nI 0 from rfl, z_v (by omega), hGM1.1]]
      simp only [Option.bind_some]
      rw [if_neg (show ¬ nI N = (12 : Int32) from fun e => hfull (nI_inj (b := 12) (by omega) (by omega) e)), z_mo 0]
      simp only [Option.bind_some]
      rw [b1]
      rfl
  · refine ⟨-1002, m, m, N, V, ?_, ?_, I, fun _ _ _ => rfl⟩
    · unfold fn_X9_addNode
      rw [f_isIn, zB_f hx]
      rfl
    · unfold fn_X10_addNode
      rw [f_in, zB_f hx]
      rfl
end MADD
