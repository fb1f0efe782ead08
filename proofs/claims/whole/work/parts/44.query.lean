/-! ===== queries of the graph: class and model answer alike ===== -/
def zIG (m : Nat → Nat → Int32) (N : Nat) (V : Nat → Nat → Int32) : Prop := zGC m 10 N V ∧ zOC m 10 N V ∧ zGM m N V ∧ zOK N V
theorem z10 : zGB 10 := Or.inl rfl
section QUERY
variable {n N i k c : Nat} {m : Nat → Nat → Int32} {p : Nat → Nat} {V : Nat → Nat → Int32} {x y P : Int32}
theorem z_cr : ax_gr (zC n m p) 6 k (some 9) = some (zR p 9 k) := z_gr (by omega) rfl
theorem z_g1 : ax_gi (zC n m p) 1 1 (some 10) = some (m 10 1) := z_gi (by omega) rfl
theorem z_gs : ax_sh (zC n m p) 1 (some 10) = some (10, 5) := z_sh (by omega) rfl
theorem z_gr0 : ax_gr (zC n m p) 1 k (some 10) = some (zR p 10 k) := z_gr (by omega) rfl
theorem q_nodes (I : zIG m N V) : fn_X9_nodes (some 9) (zC n m p) = some (nI N, zC n m p) ∧ fn_X10_nodes (some 275) (zC n m p) = some (nI N, zC n m p) := by
  constructor
  · unfold fn_X9_nodes
    rw [z_cr, show zR p 9 0 = some 10 from rfl]
    simp only [Option.bind_some]
    rw [z_g1, I.1.1]
    rfl
  · unfold fn_X10_nodes
    rw [z_mr, show zR p 275 0 = some 276 from rfl]
    simp only [Option.bind_some]
    rw [show (0 : Int32) = nI 0 from rfl, z_v (by omega), I.2.2.1.1]
    rfl
theorem z_kind (h : zOK N V) (hi : i < N) : ∃ k, k < 7 ∧ V i 0 = nI k := by
  obtain ⟨⟨k, k1, k2, -⟩, -⟩ := h.2.1 i hi
  exact ⟨k, k1, k2⟩
theorem zin_lt : ∀ k, k < 7 → zin k ≤ 3 ∧ zpn k ≤ 4 := by decide +kernel
theorem q_input (hT : zT m) (hM : zMT m) (I : zIG m N V) : ∃ r, fn_X9_input (some 9) x y (zC n m p) = some (r, zC n m p) ∧ fn_X10_input (some 275) x y (zC n m p) = some (r, zC n m p) := by
  obtain ⟨hG, hO, hGM, h⟩ := I
  have hN := h.1
  have cl : fn_X9_input (some 9) x y (zC n m p) = (fn_X1_hasInput (some 10) x y (zC n m p)).bind fun q3 => if q3.1 = 0 then some (-1001, q3.2) else (ax_ar q3.2 12 (some 11) x).bind fun r7 => (ax_gr q3.2 2 3 r7).bind fun r8 => (ax_al q3.2 9 r8 y).bind fun x9 => some (x9, q3.2) := by
    unfold fn_X9_input
    rw [z_cr, show zR p 9 0 = some 10 from rfl]
    simp only [Option.bind_some]
    rw [z_gs]
    simp only [Option.bind_some]
    by_cases hx : 0 ≤ x ∧ x ≤ nI N - 1
    · obtain ⟨i, hi, rfl⟩ := z_inlt (by omega) hx.1 hx.2
      obtain ⟨k, k1, k2⟩ := z_kind h hi
      rw [f_hasInput z10 hT hG hN hi k1 k2]
      simp only [Option.bind_some]
      rw [z_cr, show zR p 9 0 = some 10 from rfl]
      simp only [Option.bind_some]
      rw [z_gr0, show zR p 10 0 = some 11 from rfl]
      simp only [Option.bind_some]
    · rw [f_hasInput_no z10 hG.1 hx]
      simp only [Option.bind_some, if_true]
  by_cases hx : 0 ≤ x ∧ x ≤ nI N - 1
  · obtain ⟨i, hi, rfl⟩ := z_inlt (by omega) hx.1 hx.2
    obtain ⟨k, k1, k2⟩ := z_kind h hi
    obtain ⟨z1, z2⟩ := zin_lt k k1
    by_cases hy : 0 ≤ y ∧ y ≤ nI (zin k) - 1
    · obtain ⟨c, hc, rfl⟩ := z_inlt (by omega) hy.1 hy.2
      obtain ⟨hb, -⟩ := zGB_node (p := p) z10 (show i < 12 by omega)
      obtain ⟨b9, b1, t0, t1, t2, q3, q4⟩ := zNB_ok (n := n) (p := p) hb
      refine ⟨zI V i c, ?_, ?_⟩
      · rw [cl, f_hasInput z10 hT hG hN hi k1 k2, zB_t hy]
        simp only [Option.bind_some]
        rw [if_neg (by decide), z_nodes z10 (by omega)]
        simp only [Option.bind_some]
        rw [z_gr (by omega) (by rw [t0]), q3]
        simp only [Option.bind_some]
        rw [z_al (by omega) (by rw [t1]) (by rw [t1]; show c < 3; omega) (by omega), hG.2.2.1 i c hi (by omega)]
        rfl
      · unfold fn_X10_input
        rw [z_mo 0]
        simp only [Option.bind_some]
        rw [f_mInput hM hGM hN hi k1 k2, zB_t hy]
        simp only [Option.bind_some]
        rw [if_neg (by decide), z_mr, show zR p 275 0 = some 276 from rfl]
        simp only [Option.bind_some, fn_X10_at]
        rw [z_vin hGM hN hi (by omega)]
        rfl
    · refine ⟨-1001, ?_, ?_⟩
      · rw [cl, f_hasInput z10 hT hG hN hi k1 k2, zB_f hy]
        rfl
      · unfold fn_X10_input
        rw [z_mo 0]
        simp only [Option.bind_some]
        rw [f_mInput hM hGM hN hi k1 k2, zB_f hy]
        rfl
  · refine ⟨-1001, ?_, ?_⟩
    · rw [cl, f_hasInput_no z10 hG.1 hx]
      rfl
    · unfold fn_X10_input
      rw [z_mo 0]
      simp only [Option.bind_some]
      rw [f_mInput_no hGM.1 hx]
      rfl
theorem z_vpar (hG : zGM m N V) (hN : N ≤ 12) (hi : i < N) (hk : k < 7) (hV : V i 0 = nI k) (hc : c < zpn k) (hc4 : c < 4) : ax_al (zC n m p) 9 (some 276) (1 + 10 * nI i + (6 + nI c)) = some (V i (6 + c)) := by
  rw [show (6 : Int32) = nI 6 from rfl, nI_add, z_at, z_v (by omega), hG.2.2 i k c hi hk hV hc]
theorem q_parameter (hT : zT m) (hM : zMT m) (I : zIG m N V) : ∃ r, fn_X9_parameter (some 9) x y (zC n m p) = some (r, zC n m p) ∧ fn_X10_parameter (some 275) x y (zC n m p) = some (r, zC n m p) := by
  obtain ⟨hG, hO, hGM, h⟩ := I
  have hN := h.1
  have cl : fn_X9_parameter (some 9) x y (zC n m p) = (fn_X1_hasParameter (some 10) x y (zC n m p)).bind fun q3 => if q3.1 = 0 then some (-1001, q3.2) else (ax_ar q3.2 12 (some 11) x).bind fun r7 => (ax_gr q3.2 2 4 r7).bind fun r8 => (ax_al q3.2 9 r8 y).bind fun x9 => some (x9, q3.2) := by
    unfold fn_X9_parameter
    rw [z_cr, show zR p 9 0 = some 10 from rfl]
    simp only [Option.bind_some]
    rw [z_gs]
    simp only [Option.bind_some]
    by_cases hx : 0 ≤ x ∧ x ≤ nI N - 1
    · obtain ⟨i, hi, rfl⟩ := z_inlt (by omega) hx.1 hx.2
      obtain ⟨k, k1, k2⟩ := z_kind h hi
      rw [f_hasParameter z10 hT hG hN hi k1 k2]
      simp only [Option.bind_some]
      rw [z_cr, show zR p 9 0 = some 10 from rfl]
      simp only [Option.bind_some]
      rw [z_gr0, show zR p 10 0 = some 11 from rfl]
      simp only [Option.bind_some]
    · rw [f_hasParameter_no z10 hG.1 hx]
      simp only [Option.bind_some, if_true]
  by_cases hx : 0 ≤ x ∧ x ≤ nI N - 1
  · obtain ⟨i, hi, rfl⟩ := z_inlt (by omega) hx.1 hx.2
    obtain ⟨k, k1, k2⟩ := z_kind h hi
    obtain ⟨z1, z2⟩ := zin_lt k k1
    by_cases hy : 0 ≤ y ∧ y ≤ nI (zpn k) - 1
    · obtain ⟨c, hc, rfl⟩ := z_inlt (by omega) hy.1 hy.2
      obtain ⟨hb, -⟩ := zGB_node (p := p) z10 (show i < 12 by omega)
      obtain ⟨b9, b1, t0, t1, t2, q3, q4⟩ := zNB_ok (n := n) (p := p) hb
      refine ⟨V i (6 + c), ?_, ?_⟩
      · rw [cl, f_hasParameter z10 hT hG hN hi k1 k2, zB_t hy]
        simp only [Option.bind_some]
        rw [if_neg (by decide), z_nodes z10 (by omega)]
        simp only [Option.bind_some]
        rw [z_gr (by omega) (by rw [t0]), q4]
        simp only [Option.bind_some]
        rw [z_al (by omega) (by rw [t2]) (by rw [t2]; show c < 4; omega) (by omega), hG.2.2.2 i c hi (by omega)]
        rfl
      · unfold fn_X10_parameter
        rw [z_mo 0]
        simp only [Option.bind_some]
        rw [f_mParameter hM hGM hN hi k1 k2, zB_t hy]
        simp only [Option.bind_some]
        rw [if_neg (by decide), z_mr, show zR p 275 0 = some 276 from rfl]
        simp only [Option.bind_some, fn_X10_at]
        rw [z_vpar hGM hN hi k1 k2 hc (by omega)]
        rfl
    · refine ⟨-1001, ?_, ?_⟩
      · rw [cl, f_hasParameter z10 hT hG hN hi k1 k2, zB_f hy]
        rfl
      · unfold fn_X10_parameter
        rw [z_mo 0]
        simp only [Option.bind_some]
        rw [f_mParameter hM hGM hN hi k1 k2, zB_f hy]
        rfl
  · refine ⟨-1001, ?_, ?_⟩
    · rw [cl, f_hasParameter_no z10 hG.1 hx]
      rfl
    · unfold fn_X10_parameter
      rw [z_mo 0]
      simp only [Option.bind_some]
      rw [f_mParameter_no hGM.1 hx]
      rfl
/-- what node tells, both ways -/
def zTell (N : Nat) (V : Nat → Nat → Int32) (D : Nat → Nat) (i w : Nat) (pl : Nat) : Int32 := if w < 3 then V i w else if w = 3 then zbc (zfd N V i N) else if w = 4 then nI pl else nI (D i)
theorem q_tells (hGM : zGM m N V) (h : zOK N V) {D : Nat → Nat} (hD : zDok N V D) (hD12 : ∀ i, i < N → D i < 12) {t w : Nat} (ht : t < N) (hw : w < 6) : ∃ m', fn_X10_nodeTells (some 275) (nI (zord N V t)) (nI w) (zC n m p) = some (zTell N V D (zord N V t) w t, zC n m' p) ∧ ∀ a, a ≠ 287 → m' a = m a := by
  have hN := h.1
  have hi : zord N V t < N := zord_lt (by omega)
  unfold fn_X10_nodeTells zTell
  by_cases h3 : w < 3
  · refine ⟨m, ?_, fun _ _ => rfl⟩
    rw [if_neg (show ¬ (3 : Int32) ≤ nI w from nI_ge (b := 3) (by omega) (by omega)), if_pos h3, z_mr, show zR p 275 0 = some 276 from rfl]
    simp only [Option.bind_some, fn_X10_at]
    rw [z_at, z_v (by omega), hGM.2.1 _ w hi (by omega)]
    rfl
  · rw [if_pos (show (3 : Int32) ≤ nI w from nI_le (a := 3) (by omega) (by omega)), if_neg h3]
    by_cases h4 : w = 3
    · subst h4
      refine ⟨m, ?_, fun _ _ => rfl⟩
      rw [if_pos (by decide), if_pos rfl, z_mo 0]
      simp only [Option.bind_some]
      rw [f_mdep hGM h hi]
      simp only [Option.bind_some]
      rw [f_size (zfd_dep h hi).1]
      rfl
    · rw [if_neg (show ¬ nI w = (3 : Int32) from fun q => h4 (nI_inj (b := 3) (by omega) (by omega) q)), if_neg h4]
      by_cases h5 : w = 4
      · subst h5
        refine ⟨m, ?_, fun _ _ => rfl⟩
        rw [if_pos (by decide), if_pos rfl, z_mo 0]
        simp only [Option.bind_some]
        rw [f_mplace hGM h ht]
        rfl
      · obtain ⟨m', q1, q2⟩ := f_mdepth (n := n) (p := p) hGM h hD hD12 hi
        refine ⟨m', ?_, q2⟩
        rw [if_neg (show ¬ nI w = (4 : Int32) from fun q => h5 (nI_inj (b := 4) (by omega) (by omega) q)), if_neg h5, z_mo 0]
        simp only [Option.bind_some]
        rw [q1]
        rfl
theorem q_node9 (I : zIG m N V) {D : Nat → Nat} (hm : ∀ i, i < N → m 14 i = nI (D i)) {t w : Nat} (ht : t < N) (hw : w < 6) : fn_X9_node (some 9) (nI (zord N V t)) (nI w) (zC n m p) = some (zTell N V D (zord N V t) w t, zC n m p) := by
  obtain ⟨hG, hO, hGM, h⟩ := I
  have hN := h.1
  have hi : zord N V t < N := zord_lt (by omega)
  obtain ⟨hb, -⟩ := zGB_node (p := p) z10 (show zord N V t < 12 by omega)
  obtain ⟨b9, b1, t0, t1, t2, q3, q4⟩ := zNB_ok (n := n) (p := p) hb
  unfold fn_X9_node zTell
  rw [z_cr, show zR p 9 0 = some 10 from rfl]
  simp only [Option.bind_some]
  rw [z_gs]
  simp only [Option.bind_some]
  rw [f_has z10 hG.1, zB_t ⟨z_pos (by omega), z_le_pred (by omega) hi⟩]
  simp only [Option.bind_some]
  rw [if_neg (by decide), z_cr, show zR p 9 0 = some 10 from rfl]
  simp only [Option.bind_some]
  rw [z_gr0, z_gr0, z_gr0, show zR p 10 0 = some 11 from rfl, show zR p 10 3 = some 13 from rfl, show zR p 10 4 = some 14 from rfl]
  simp only [Option.bind_some]
  rw [z_nodes z10 (by omega)]
  simp only [Option.bind_some]
  have hc : w = 0 ∨ w = 1 ∨ w = 2 ∨ w = 3 ∨ w = 4 ∨ w = 5 := by omega
  rcases hc with rfl | rfl | rfl | rfl | rfl | rfl
  · rw [if_pos (by decide), if_pos (by omega), z_gi (by omega) (by rw [t0]), hG.2.1 _ 0 hi (by omega)]
    rfl
  · rw [if_neg (by decide), if_pos (by decide), if_pos (by omega), z_gi (k := 1) (by omega) (by rw [t0]), hG.2.1 _ 1 hi (by omega)]
    rfl
  · rw [if_neg (by decide), if_neg (by decide), if_pos (by decide), if_pos (by omega), z_gi (k := 2) (by omega) (by rw [t0]), hG.2.1 _ 2 hi (by omega)]
    rfl
  · rw [if_neg (by decide), if_neg (by decide), if_neg (by decide), if_pos (by decide), if_neg (by omega), if_pos rfl, z_gs]
    simp only [Option.bind_some]
    rw [f_dependents z10 hG hN (fun t ht => (hO.1 t ht).1)]
    rfl
  · rw [if_neg (by decide), if_neg (by decide), if_neg (by decide), if_neg (by decide), if_pos (by decide), if_neg (by omega), if_neg (by omega), if_pos rfl, z_al (t := 9) (a := 13) (by omega) rfl (by show _ < 12; omega) (by omega), (hO.1 t ht).2]
    rfl
  · rw [if_neg (by decide), if_neg (by decide), if_neg (by decide), if_neg (by decide), if_neg (by decide), if_pos (by decide), if_neg (by omega), if_neg (by omega), if_neg (by omega), z_al (t := 9) (a := 14) (by omega) rfl (by show _ < 12; omega) (by omega), hm _ hi]
    rfl
theorem q_node (I : zIG m N V) : ∃ r m', fn_X9_node (some 9) x y (zC n m p) = some (r, zC n m p) ∧ fn_X10_node (some 275) x y (zC n m p) = some (r, zC n m' p) ∧ ∀ a, a ≠ 287 → m' a = m a := by
  obtain ⟨hG, hO, hGM, h⟩ := id I
  have hN := h.1
  by_cases hx : 0 ≤ x ∧ x ≤ nI N - 1
  · obtain ⟨i, hi, rfl⟩ := z_inlt (by omega) hx.1 hx.2
    obtain ⟨t, ht, rfl⟩ := zord_sur h hi
    obtain ⟨D, hD1, hD2, hD3⟩ := hO.2
    by_cases hy : 0 ≤ y ∧ y ≤ 5
    · obtain ⟨w, hw, rfl⟩ := z_in (N := 5) (by omega) hy.1 hy.2
      obtain ⟨m', q1, q2⟩ := q_tells (n := n) (p := p) hGM h hD1 hD2 ht (w := w) (by omega)
      refine ⟨_, m', q_node9 I hD3 ht (by omega), ?_, q2⟩
      unfold fn_X10_node
      rw [z_mo 0]
      simp only [Option.bind_some]
      rw [f_mNode hGM.1, zB_t hx]
      simp only [Option.bind_some]
      rw [if_neg (by decide), f_in, zB_t hy]
      simp only [Option.bind_some]
      rw [if_neg (by decide), z_mo 0]
      simp only [Option.bind_some]
      rw [q1]
      rfl
    · refine ⟨-1002, m, ?_, ?_, fun _ _ => rfl⟩
      · have ne : ∀ v : Int32, 0 ≤ v → v ≤ 5 → ¬ y = v := fun v a b e => hy (by rw [e]; exact ⟨a, b⟩)
        unfold fn_X9_node
        rw [z_cr, show zR p 9 0 = some 10 from rfl]
        simp only [Option.bind_some]
        rw [z_gs]
        simp only [Option.bind_some]
        rw [f_has z10 hG.1, zB_t hx]
        simp only [Option.bind_some]
        rw [if_neg (by decide), if_neg (ne 0 (by decide) (by decide)), if_neg (ne 1 (by decide) (by decide)), if_neg (ne 2 (by decide) (by decide)), if_neg (ne 3 (by decide) (by decide)), if_neg (ne 4 (by decide) (by decide)), if_neg (ne 5 (by decide) (by decide))]
      · unfold fn_X10_node
        rw [z_mo 0]
        simp only [Option.bind_some]
        rw [f_mNode hGM.1, zB_t hx]
        simp only [Option.bind_some]
        rw [if_neg (by decide), f_in, zB_f hy]
        rfl
  · refine ⟨-1001, m, ?_, ?_, fun _ _ => rfl⟩
    · unfold fn_X9_node
      rw [z_cr, show zR p 9 0 = some 10 from rfl]
      simp only [Option.bind_some]
      rw [z_gs]
      simp only [Option.bind_some]
      rw [f_has z10 hG.1, zB_f hx]
      rfl
    · unfold fn_X10_node
      rw [z_mo 0]
      simp only [Option.bind_some]
      rw [f_mNode hGM.1, zB_f hx]
      rfl
end QUERY
