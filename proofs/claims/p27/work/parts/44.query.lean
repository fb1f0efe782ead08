/-! ===== queries of the graph ===== -/
theorem z10 : zGB 10 := Or.inl rfl
/-- the depths that the document asks for, and a node's place -/
noncomputable def zD (N : Nat) (V : Nat → Nat → Int32) : Nat → Nat := Classical.epsilon fun D => zDok N V D ∧ ∀ i, i < N → D i < 12
noncomputable def zpos (N : Nat) (V : Nat → Nat → Int32) (i : Nat) : Nat := Classical.epsilon fun t => t < N ∧ zord N V t = i
section UNIQ
variable {N : Nat} {V : Nat → Nat → Int32}
theorem zDok_u (h : zOK N V) {D D' : Nat → Nat} (h1 : zDok N V D) (h2 : zDok N V D') : ∀ i, i < N → D i = D' i := by
  obtain ⟨-, hin, rk, hrk⟩ := id h
  have key : ∀ r i, rk i < r → i < N → D i = D' i := by
    intro r
    induction r with
    | zero => intro i hr; omega
    | succ r ih =>
      intro i hr hi
      rw [h1 i hi, h2 i hi]
      refine zmx_congr 3 (fun k hk hne => ?_)
      rcases (hin i hi).2.2 k hk with e | ⟨j, hj, e⟩
      · exact absurd e hne
      · have hN := h.1
        rw [e, nI_clamp (by omega)]
        exact ih j (by have := hrk i j k hi hj hk e; omega) hj
  exact fun i hi => key (rk i + 1) i (by omega) hi
theorem zD_ok {D : Nat → Nat} (h1 : zDok N V D) (h2 : ∀ i, i < N → D i < 12) : zDok N V (zD N V) ∧ ∀ i, i < N → zD N V i < 12 :=
  Classical.epsilon_spec (p := fun D => zDok N V D ∧ ∀ i, i < N → D i < 12) ⟨D, h1, h2⟩
theorem zpos_ok (h : zOK N V) {i : Nat} (hi : i < N) : zpos N V i < N ∧ zord N V (zpos N V i) = i :=
  Classical.epsilon_spec (p := fun t => t < N ∧ zord N V t = i) (zord_sur h hi)
end UNIQ
section QUERY
variable {n N i k c : Nat} {m : Nat → Nat → Int32} {p : Nat → Nat} {V : Nat → Nat → Int32} {x y P : Int32}
theorem z_cr : ax_gr (zC n m p) 6 k (some 9) = some (zR p 9 k) := z_gr (by omega) rfl
theorem z_g1 : ax_gi (zC n m p) 1 1 (some 10) = some (m 10 1) := z_gi (by omega) rfl
theorem z_gs : ax_sh (zC n m p) 1 (some 10) = some (10, 5) := z_sh (by omega) rfl
theorem z_gr0 : ax_gr (zC n m p) 1 k (some 10) = some (zR p 10 k) := z_gr (by omega) rfl
theorem q_nodes (hm : m 10 1 = nI N) : fn_X9_nodes (some 9) (zC n m p) = some (nI N, zC n m p) := by
  unfold fn_X9_nodes
  rw [z_cr, show zR p 9 0 = some 10 from rfl]
  simp only [Option.bind_some]
  rw [z_g1, hm]
  rfl
theorem z_kind (h : zOK N V) (hi : i < N) : ∃ k, k < 7 ∧ V i 0 = nI k := by
  obtain ⟨⟨k, k1, k2, -⟩, -⟩ := h.2.1 i hi
  exact ⟨k, k1, k2⟩
theorem zin_lt : ∀ k, k < 7 → zin k ≤ 3 ∧ zpn k ≤ 4 := by decide +kernel
theorem q_in_un (hT : zT m) (hG : zGC m 10 N V) (h : zOK N V) : fn_X9_input (some 9) x y (zC n m p) = (fn_X1_hasInput (some 10) x y (zC n m p)).bind fun q3 => if q3.1 = 0 then some (-1001, q3.2) else (ax_ar q3.2 12 (some 11) x).bind fun r7 => (ax_gr q3.2 2 3 r7).bind fun r8 => (ax_al q3.2 9 r8 y).bind fun x9 => some (x9, q3.2) := by
  have hN := h.1
  unfold fn_X9_input
  rw [z_cr, show zR p 9 0 = some 10 from rfl]
  simp only [Option.bind_some]
  rw [z_gs]
  simp only [Option.bind_some]
  by_cases hx : 0 ≤ x ∧ x ≤ nI N - 1
  · obtain ⟨i, hi, rfl⟩ := z_inlt (by omega) hx.1 hx.2
    obtain ⟨k, k1, k2⟩ := z_kind h hi
    rw [f_hasInput z10 hT hG hN hi k1 k2]
    simp only [Option.bind_some]
    rw [z_cr, show zR p 9 0 = some 10 from rfl]
    simp only [Option.bind_some]
    rw [z_gr0, show zR p 10 0 = some 11 from rfl]
    simp only [Option.bind_some]
  · rw [f_hasInput_no z10 hG.1 hx]
    simp only [Option.bind_some, if_true]
theorem q_input (hT : zT m) (hG : zGC m 10 N V) (h : zOK N V) (hi : i < N) (k1 : k < 7) (k2 : V i 0 = nI k) (hc : c < zin k) : fn_X9_input (some 9) (nI i) (nI c) (zC n m p) = some (V i (3 + c), zC n m p) := by
  have hN := h.1
  obtain ⟨z1, z2⟩ := zin_lt k k1
  obtain ⟨hb, -⟩ := zGB_node (p := p) z10 (show i < 12 by omega)
  obtain ⟨b9, b1, t0, t1, t2, q3, q4⟩ := zNB_ok (n := n) (p := p) hb
  rw [q_in_un hT hG h, f_hasInput z10 hT hG hN hi k1 k2, zB_t ⟨z_pos (by omega), z_le_pred (by omega) hc⟩]
  simp only [Option.bind_some]
  rw [if_neg (by decide), z_nodes z10 (by omega)]
  simp only [Option.bind_some]
  rw [z_gr (by omega) (by rw [t0]), q3]
  simp only [Option.bind_some]
  rw [z_al (by omega) (by rw [t1]) (by rw [t1]; show c < 3; omega) (by omega), hG.2.2.1 i c hi (by omega)]
  rfl
theorem q_input_no (hT : zT m) (hG : zGC m 10 N V) (h : zOK N V) (hi : i < N) (k1 : k < 7) (k2 : V i 0 = nI k) (hy : ¬ (0 ≤ y ∧ y ≤ nI (zin k) - 1)) : fn_X9_input (some 9) (nI i) y (zC n m p) = some (-1001, zC n m p) := by
  rw [q_in_un hT hG h, f_hasInput z10 hT hG h.1 hi k1 k2, zB_f hy]
  rfl
theorem q_input_no2 (hT : zT m) (hG : zGC m 10 N V) (h : zOK N V) (hx : ¬ (0 ≤ x ∧ x ≤ nI N - 1)) : fn_X9_input (some 9) x y (zC n m p) = some (-1001, zC n m p) := by
  rw [q_in_un hT hG h, f_hasInput_no z10 hG.1 hx]
  rfl
theorem q_par_un (hT : zT m) (hG : zGC m 10 N V) (h : zOK N V) : fn_X9_parameter (some 9) x y (zC n m p) = (fn_X1_hasParameter (some 10) x y (zC n m p)).bind fun q3 => if q3.1 = 0 then some (-1001, q3.2) else (ax_ar q3.2 12 (some 11) x).bind fun r7 => (ax_gr q3.2 2 4 r7).bind fun r8 => (ax_al q3.2 9 r8 y).bind fun x9 => some (x9, q3.2) := by
  have hN := h.1
  unfold fn_X9_parameter
  rw [z_cr, show zR p 9 0 = some 10 from rfl]
  simp only [Option.bind_some]
  rw [z_gs]
  simp only [Option.bind_some]
  by_cases hx : 0 ≤ x ∧ x ≤ nI N - 1
  · obtain ⟨i, hi, rfl⟩ := z_inlt (by omega) hx.1 hx.2
    obtain ⟨k, k1, k2⟩ := z_kind h hi
    rw [f_hasParameter z10 hT hG hN hi k1 k2]
    simp only [Option.bind_some]
    rw [z_cr, show zR p 9 0 = some 10 from rfl]
    simp only [Option.bind_some]
    rw [z_gr0, show zR p 10 0 = some 11 from rfl]
    simp only [Option.bind_some]
  · rw [f_hasParameter_no z10 hG.1 hx]
    simp only [Option.bind_some, if_true]
theorem q_parameter (hT : zT m) (hG : zGC m 10 N V) (h : zOK N V) (hi : i < N) (k1 : k < 7) (k2 : V i 0 = nI k) (hc : c < zpn k) : fn_X9_parameter (some 9) (nI i) (nI c) (zC n m p) = some (V i (6 + c), zC n m p) := by
  have hN := h.1
  obtain ⟨z1, z2⟩ := zin_lt k k1
  obtain ⟨hb, -⟩ := zGB_node (p := p) z10 (show i < 12 by omega)
  obtain ⟨b9, b1, t0, t1, t2, q3, q4⟩ := zNB_ok (n := n) (p := p) hb
  rw [q_par_un hT hG h, f_hasParameter z10 hT hG hN hi k1 k2, zB_t ⟨z_pos (by omega), z_le_pred (by omega) hc⟩]
  simp only [Option.bind_some]
  rw [if_neg (by decide), z_nodes z10 (by omega)]
  simp only [Option.bind_some]
  rw [z_gr (by omega) (by rw [t0]), q4]
  simp only [Option.bind_some]
  rw [z_al (by omega) (by rw [t2]) (by rw [t2]; show c < 4; omega) (by omega), hG.2.2.2 i c hi (by omega)]
  rfl
theorem q_parameter_no (hT : zT m) (hG : zGC m 10 N V) (h : zOK N V) (hi : i < N) (k1 : k < 7) (k2 : V i 0 = nI k) (hy : ¬ (0 ≤ y ∧ y ≤ nI (zpn k) - 1)) : fn_X9_parameter (some 9) (nI i) y (zC n m p) = some (-1001, zC n m p) := by
  rw [q_par_un hT hG h, f_hasParameter z10 hT hG h.1 hi k1 k2, zB_f hy]
  rfl
/-- what node tells -/
noncomputable def zTell (N : Nat) (V : Nat → Nat → Int32) (i w : Nat) : Int32 := if w < 3 then V i w else if w = 3 then zbc (zfd N V i N) else if w = 4 then nI (zpos N V i) else nI (zD N V i)
theorem q_node (hG : zGC m 10 N V) (hO : zOC m 10 N V) (h : zOK N V) {w : Nat} (hi : i < N) (hw : w < 6) : fn_X9_node (some 9) (nI i) (nI w) (zC n m p) = some (zTell N V i w, zC n m p) := by
  have hN := h.1
  obtain ⟨ht, hti⟩ := zpos_ok h hi
  have hplace := (hO.1 _ ht).2
  rw [hti] at hplace
  obtain ⟨D, hD1, hD2, hD3⟩ := hO.2
  have hm : m (10 + 4) i = nI (zD N V i) := by rw [hD3 i hi, zDok_u h hD1 (zD_ok hD1 hD2).1 i hi]
  obtain ⟨hb, -⟩ := zGB_node (p := p) z10 (show i < 12 by omega)
  obtain ⟨b9, b1, t0, t1, t2, q3, q4⟩ := zNB_ok (n := n) (p := p) hb
  unfold fn_X9_node zTell
  rw [z_cr, show zR p 9 0 = some 10 from rfl]
  simp only [Option.bind_some]
  rw [z_gs]
  simp only [Option.bind_some]
  rw [f_has z10 hG.1, zB_t ⟨z_pos (by omega), z_le_pred (by omega) hi⟩]
  simp only [Option.bind_some]
  rw [if_neg (by decide), z_cr, show zR p 9 0 = some 10 from rfl]
  simp only [Option.bind_some]
  rw [z_gr0, z_gr0, z_gr0, show zR p 10 0 = some 11 from rfl, show zR p 10 3 = some 13 from rfl, show zR p 10 4 = some 14 from rfl]
  simp only [Option.bind_some]
  rw [z_nodes z10 (by omega)]
  simp only [Option.bind_some]
  have hc : w = 0 ∨ w = 1 ∨ w = 2 ∨ w = 3 ∨ w = 4 ∨ w = 5 := by omega
  rcases hc with rfl | rfl | rfl | rfl | rfl | rfl
  · rw [if_pos (by decide), if_pos (by omega), z_gi (by omega) (by rw [t0]), hG.2.1 _ 0 hi (by omega)]
    rfl
  · rw [if_neg (by decide), if_pos (by decide), if_pos (by omega), z_gi (k := 1) (by omega) (by rw [t0]), hG.2.1 _ 1 hi (by omega)]
    rfl
  · rw [if_neg (by decide), if_neg (by decide), if_pos (by decide), if_pos (by omega), z_gi (k := 2) (by omega) (by rw [t0]), hG.2.1 _ 2 hi (by omega)]
    rfl
  · rw [if_neg (by decide), if_neg (by decide), if_neg (by decide), if_pos (by decide), if_neg (by omega), if_pos rfl, z_gs]
    simp only [Option.bind_some]
    rw [f_dependents z10 hG hN (fun t ht => (hO.1 t ht).1)]
    rfl
  · rw [if_neg (by decide), if_neg (by decide), if_neg (by decide), if_neg (by decide), if_pos (by decide), if_neg (by omega), if_neg (by omega), if_pos rfl, z_al (t := 9) (a := 13) (by omega) rfl (by show _ < 12; omega) (by omega), hplace]
    rfl
  · rw [if_neg (by decide), if_neg (by decide), if_neg (by decide), if_neg (by decide), if_neg (by decide), if_pos (by decide), if_neg (by omega), if_neg (by omega), if_neg (by omega), z_al (t := 9) (a := 14) (by omega) rfl (by show _ < 12; omega) (by omega), hm]
    rfl
theorem q_node_no (hG : zGC m 10 N V) (hN : N ≤ 12) (hi : i < N) (hy : ¬ (0 ≤ y ∧ y ≤ 5)) : fn_X9_node (some 9) (nI i) y (zC n m p) = some (-1002, zC n m p) := by
  have ne : ∀ v : Int32, 0 ≤ v → v ≤ 5 → ¬ y = v := fun v a b e => hy (by rw [e]; exact ⟨a, b⟩)
  unfold fn_X9_node
  rw [z_cr, show zR p 9 0 = some 10 from rfl]
  simp only [Option.bind_some]
  rw [z_gs]
  simp only [Option.bind_some]
  rw [f_has z10 hG.1, zB_t ⟨z_pos (by omega), z_le_pred (by omega) hi⟩]
  simp only [Option.bind_some]
  rw [if_neg (by decide), if_neg (ne 0 (by decide) (by decide)), if_neg (ne 1 (by decide) (by decide)), if_neg (ne 2 (by decide) (by decide)), if_neg (ne 3 (by decide) (by decide)), if_neg (ne 4 (by decide) (by decide)), if_neg (ne 5 (by decide) (by decide))]
theorem zGC_f1 {m' : Nat → Nat → Int32} (h : zGC m 10 N V) (hN : N ≤ 12) (hf : ∀ a, a < 51 → m' a = m a) : zGC m' 10 N V := ⟨by rw [hf 10 (by omega)]; exact h.1, fun i w hi hw => by rw [hf _ (by omega)]; exact h.2.1 i w hi hw, fun i k hi hk => by rw [hf _ (by omega)]; exact h.2.2.1 i k hi hk, fun i q hi hq => by rw [hf _ (by omega)]; exact h.2.2.2 i q hi hq⟩
theorem zOC_f1 {m' : Nat → Nat → Int32} (h : zOC m 10 N V) (hf : ∀ a, a < 51 → m' a = m a) : zOC m' 10 N V := ⟨fun t ht => by rw [hf _ (by omega), hf _ (by omega)]; exact h.1 t ht, by
  obtain ⟨D, d1, d2, d3⟩ := h.2
  exact ⟨D, d1, d2, fun i hi => by rw [hf _ (by omega)]; exact d3 i hi⟩⟩
end QUERY
