/-! ===== the calls, apart from any model: what is answered, what holds then ===== -/
def zgo {α : Type} (n : Nat) (m : Nat → Nat → Int32) (p : Nat → Nat) (B : Nat) (F : ax_S → Option (α × ax_S)) (r : α) (A' : zA) : Prop := ∃ m1 p1, F (zC n m p) = some (r, zC n m1 p1) ∧ zFK m m1 ∧ zCls m1 p1 A' ∧ zAbs (B + 100) A'
section KC
variable {n N L B i k : Nat} {m m' : Nat → Nat → Int32} {p X Y c T : Nat → Nat} {V : Nat → Nat → Int32} {C : zSt} {E K : Nat → Nat → Nat} {W : Nat → Nat → Nat → Int32} {x y z v w : Int32} {S : Nat → Option (Nat × (Nat → Nat → Int32))}
theorem k_nodes (h1 : zCls m p ((N, V), C, (L, T), S)) : fn_X9_nodes (some 9) (zC n m p) = some (nI N, zC n m p) := q_nodes h1.1.2.1.2.1.1
theorem k_input (h1 : zCls m p ((N, V), C, (L, T), S)) (h3 : zAbs B ((N, V), C, (L, T), S)) (hi : i < N) (k1 : k < 7) (k2 : V i 0 = nI k) {q : Nat} (hc : q < zin k) : fn_X9_input (some 9) (nI i) (nI q) (zC n m p) = some (V i (3 + q), zC n m p) := q_input h1.1.1 h1.1.2.1.2.1 h3.1 hi k1 k2 hc
theorem k_input_no (h1 : zCls m p ((N, V), C, (L, T), S)) (h3 : zAbs B ((N, V), C, (L, T), S)) (hi : i < N) (k1 : k < 7) (k2 : V i 0 = nI k) (hy : ¬ (0 ≤ y ∧ y ≤ nI (zin k) - 1)) : fn_X9_input (some 9) (nI i) y (zC n m p) = some (-1001, zC n m p) := q_input_no h1.1.1 h1.1.2.1.2.1 h3.1 hi k1 k2 hy
theorem k_input_no2 (h1 : zCls m p ((N, V), C, (L, T), S)) (h3 : zAbs B ((N, V), C, (L, T), S)) (hx : ¬ (0 ≤ x ∧ x ≤ nI N - 1)) : fn_X9_input (some 9) x y (zC n m p) = some (-1001, zC n m p) := q_input_no2 h1.1.1 h1.1.2.1.2.1 h3.1 hx
theorem k_parameter (h1 : zCls m p ((N, V), C, (L, T), S)) (h3 : zAbs B ((N, V), C, (L, T), S)) (hi : i < N) (k1 : k < 7) (k2 : V i 0 = nI k) {q : Nat} (hc : q < zpn k) : fn_X9_parameter (some 9) (nI i) (nI q) (zC n m p) = some (V i (6 + q), zC n m p) := q_parameter h1.1.1 h1.1.2.1.2.1 h3.1 hi k1 k2 hc
theorem k_parameter_no (h1 : zCls m p ((N, V), C, (L, T), S)) (h3 : zAbs B ((N, V), C, (L, T), S)) (hi : i < N) (k1 : k < 7) (k2 : V i 0 = nI k) (hy : ¬ (0 ≤ y ∧ y ≤ nI (zpn k) - 1)) : fn_X9_parameter (some 9) (nI i) y (zC n m p) = some (-1001, zC n m p) := q_parameter_no h1.1.1 h1.1.2.1.2.1 h3.1 hi k1 k2 hy
theorem k_node (h1 : zCls m p ((N, V), C, (L, T), S)) (h3 : zAbs B ((N, V), C, (L, T), S)) (hi : i < N) {q : Nat} (hq : q < 6) : fn_X9_node (some 9) (nI i) (nI q) (zC n m p) = some (zTell N V i q, zC n m p) := q_node h1.1.2.1.2.1 h1.1.2.1.2.2 h3.1 hi hq
theorem k_node_no (h1 : zCls m p ((N, V), C, (L, T), S)) (h3 : zAbs B ((N, V), C, (L, T), S)) (hi : i < N) (hy : ¬ (0 ≤ y ∧ y ≤ 5)) : fn_X9_node (some 9) (nI i) y (zC n m p) = some (-1002, zC n m p) := q_node_no h1.1.2.1.2.1 h3.1.1 hi hy
theorem k_count (h1 : zCls m p ((N, V), C, (L, T), S)) {q : Nat} (hq : q < 5) : fn_X9_count (some 9) (nI q) (zC n m p) = some (nI (C.1 (zci q)), zC n m p) := by
  obtain ⟨-, X, Y, E, hc⟩ := h1
  exact f_count9 hc hq
theorem k_count_no (hx : ¬ (0 ≤ x ∧ x ≤ 4)) (s : ax_S) : fn_X9_count (some 9) x s = some (-1001, s) := by
  have hne : ∀ k : Nat, k ≤ 4 → x ≠ nI k := fun k hk e => hx (by rw [e]; exact ⟨z_pos (by omega), nI_le (b := 4) hk (by omega)⟩)
  unfold fn_X9_count
  rw [if_neg (show ¬ x = (0 : Int32) from hne 0 (by omega)), if_neg (show ¬ x = (1 : Int32) from hne 1 (by omega)), if_neg (show ¬ x = (2 : Int32) from hne 2 (by omega)), if_neg (show ¬ x = (3 : Int32) from hne 3 (by omega)), if_neg (show ¬ x = (4 : Int32) from hne 4 (by omega))]
theorem k_isCached (h1 : zCls m p ((N, V), C, (L, T), S)) (hi : i < N) {g : Nat} (hg : g < 100) : fn_X9_isCached (some 9) (nI i) (nI g) (zC n m p) = some (zkb C.2.1 i g, zC n m p) := by
  obtain ⟨h10, X, Y, E, hc⟩ := h1
  exact f_isCached9 h10.2.1.1 h10.2.1.2.1.1 hc hi hg
theorem k_isCached_no (h1 : zCls m p ((N, V), C, (L, T), S)) (hx : ¬ (0 ≤ x ∧ x ≤ nI N - 1)) : fn_X9_isCached (some 9) x y (zC n m p) = some (-1001, zC n m p) := by
  obtain ⟨h10, -⟩ := h1
  unfold fn_X9_isCached
  rw [z_cr, show zR p 9 0 = some 10 from rfl, Option.bind_some, z_gs, Option.bind_some, f_has z10 h10.2.1.2.1.1, zB_f hx, Option.bind_some]
  dsimp only
  rw [if_pos rfl]
theorem k_append_no (hx : ¬ (0 ≤ x ∧ x ≤ 127)) (s : ax_S) : fn_X9_append (some 9) x s = some (-1002, s) := by
  unfold fn_X9_append
  rw [f_isIn, zB_f hx, Option.bind_some]
  dsimp only
  rw [if_pos rfl]
theorem k_setRoom_no (hx : ¬ (12 ≤ x ∧ x ≤ 48)) (s : ax_S) : fn_X9_setRoom (some 9) x s = some (-1002, s) := by
  unfold fn_X9_setRoom
  rw [f_isIn, zB_f hx, Option.bind_some]
  dsimp only
  rw [if_pos rfl]
theorem k_addNode_no (hx : ¬ (0 ≤ x ∧ x ≤ 6)) (s : ax_S) : fn_X9_addNode (some 9) x s = some (-1002, s) := by
  unfold fn_X9_addNode
  rw [f_isIn, zB_f hx]
  rfl
theorem k_save_no (hx : ¬ (0 ≤ x ∧ x ≤ 1)) (s : ax_S) : fn_X9_save (some 9) x s = some (-1001, s) := by
  unfold fn_X9_save
  rw [f_isIn, zB_f hx]
  rfl
theorem k_restore_no (hx : ¬ (0 ≤ x ∧ x ≤ 1)) (s : ax_S) : fn_X9_restore (some 9) x s = some (-1001, s) := by
  unfold fn_X9_restore
  rw [f_isIn, zB_f hx]
  rfl
theorem k_restore_none (h1 : zCls m p ((N, V), C, (L, T), S)) {s : Nat} (hs2 : s < 2) (hSs : S s = none) : fn_X9_restore (some 9) (nI s) (zC n m p) = some (-1003, zC n m p) := by
  obtain ⟨h10, -⟩ := h1
  have hSc := h10.2.2.2.2 s hs2
  rw [hSs] at hSc
  have hfl : m 191 s = 0 := hSc
  unfold fn_X9_restore
  rw [f_isIn, zB_t ⟨z_pos (by omega), nI_le (b := 1) (by omega) (by omega)⟩, Option.bind_some]
  dsimp only
  rw [if_neg (by decide), z_cr, show zR p 9 4 = some 191 from rfl, Option.bind_some, z_sr hs2, hfl, Option.bind_some, if_pos rfl]
theorem k_clear (h1 : zCls m p ((N, V), C, (L, T), S)) (h3 : zAbs B ((N, V), C, (L, T), S)) : zgo n m p B (fn_X9_clear (some 9)) (nI N) ((0, V), zcl C, (L, T), S) := by
  obtain ⟨h10, X, Y, E, hc⟩ := h1
  obtain ⟨a1, a2, a3, a4, a5, a6⟩ := h3
  refine ⟨ax_u2 (ax_u2 m 10 1 0) 51 2 0, p, ?_, fun a ha => by rw [zu2_row (by omega), zu2_row (by omega)], ⟨?_, X, Y, E, zCa_cl (zCX_fr hc (fun a h1 h2 => zu2_row (by omega)))⟩, ⟨by omega, fun i hi => by omega, fun _ => 0, fun i j k hi => by omega⟩, zI5_cl a2, by rw [zcl_1]; omega, a4, a5, a6⟩
  · unfold fn_X9_clear fn_X1_removeAll
    rw [z_cr, show zR p 9 0 = some 10 from rfl, Option.bind_some, z_g1, h10.2.1.2.1.1, Option.bind_some, Option.bind_some, z_gs, Option.bind_some, z_gp, Option.bind_some, Option.bind_some, z_cr, show zR p 9 1 = some 51 from rfl, Option.bind_some, z_cs, Option.bind_some, f_empty, Option.bind_some]
  · refine zCls0_g h10 (fun a ha => by rw [zu2_row (by omega), zu2_row (by omega)]) (by omega) ⟨?_, fun i w hi => by omega, fun i k hi => by omega, fun i q hi => by omega⟩ ⟨fun t ht => by omega, fun _ => 0, fun i hi => by omega, fun i hi => by omega, fun i hi => by omega⟩
    rw [zu2_row (by omega), ax_u2_self]
    exact nI_0.symm
theorem k_setRoom (h1 : zCls m p ((N, V), C, (L, T), S)) (h3 : zAbs B ((N, V), C, (L, T), S)) (hB : B < 2 ^ 30) {r : Nat} (hr12 : 12 ≤ r) (hr : r ≤ 48) : zgo n m p B (fn_X9_setRoom (some 9) (nI r)) (nI (C.1 3)) ((N, V), zrom C r, (L, T), S) := by
  obtain ⟨h10, X, Y, E, hc⟩ := id h1
  obtain ⟨a1, a2, a3, a4, a5, a6⟩ := id h3
  obtain ⟨m1, p1, X1, Y1, b1, b2, b3⟩ := f_changeRoom (n := n) hc a2.1.1 (by omega) hr
  obtain ⟨i1, i2⟩ := zI5_rom a2 hr12 hr
  refine ⟨m1, p1, ?_, fun a ha => b3 a (by omega), ⟨zCls0_cg h10 (fun a _ _ => b3 a (by omega)), X1, Y1, E, b2⟩, a1, i1, by rw [i2]; omega, a4, a5, a6⟩
  unfold fn_X9_setRoom
  rw [f_isIn, zB_t ⟨nI_le (a := 12) hr12 (by omega), nI_le (b := 48) hr (by omega)⟩, Option.bind_some]
  dsimp only
  rw [if_neg (by decide), z_cr, show zR p 9 1 = some 51 from rfl, Option.bind_some, z_c1, hc.2.1 3 (by omega) (by omega), Option.bind_some, Option.bind_some, z_cs, Option.bind_some, b1, Option.bind_some]
theorem k_addNode (h1 : zCls m p ((N, V), C, (L, T), S)) (h3 : zAbs B ((N, V), C, (L, T), S)) (hN2 : N < 12) (hk : k < 7) : zgo n m p B (fn_X9_addNode (some 9) (nI k)) (nI N) ((N + 1, zVadd N V k), C, (L, T), S) := by
  obtain ⟨h10, X, Y, E, hc⟩ := id h1
  obtain ⟨a1, a2, a3, a4, a5, a6⟩ := id h3
  have hG := h10.2.1.2.1
  have hx : (0 : Int32) ≤ nI k ∧ nI k ≤ 6 := ⟨z_pos (by omega), nI_le (b := 6) (by omega) (by omega)⟩
  have c9 : fn_X9_addNode (some 9) (nI k) (zC n m p) = (fn_X1_add (some 10) (nI k) (zC n m p)).bind fun q5 => some (q5.1, q5.2) := by
    unfold fn_X9_addNode
    rw [f_isIn, zB_t hx, Option.bind_some]
    dsimp only
    rw [if_neg (by decide), z_cr, show zR p 9 0 = some 10 from rfl, Option.bind_some, z_gs, Option.bind_some]
  obtain ⟨m1, b1, b2, b3, b4⟩ := f_add (n := n) (p := p) z10 h10.1 hG a1 hN2 (k := k) (by omega)
  refine ⟨m1, p, ?_, fun a ha => b2 a (by omega), ⟨zCls0_g h10 (fun a ha => b2 a (by omega)) (by omega) b3 b4, X, Y, E, zCX_fr hc (fun a ha hb => b2 a (by omega))⟩, zOK_add a1 hN2 (by omega), zI5_N a2 (by omega), by omega, a4, a5, a6⟩
  rw [c9, b1]
  rfl
theorem k_save (h1 : zCls m p ((N, V), C, (L, T), S)) (h3 : zAbs B ((N, V), C, (L, T), S)) {s : Nat} (hs2 : s < 2) : zgo n m p B (fn_X9_save (some 9) (nI s)) (nI N) ((N, V), C, (L, T), va_up S s (some (N, V))) := by
  obtain ⟨h10, X, Y, E, hc⟩ := id h1
  obtain ⟨a1, a2, a3, a4, a5, a6⟩ := id h3
  have hN := a1.1
  have hG := h10.2.1.2.1
  have hx : (0 : Int32) ≤ nI s ∧ nI s ≤ 1 := ⟨z_pos (by omega), nI_le (b := 1) (by omega) (by omega)⟩
  obtain ⟨m1, b1, b2, b3, b4⟩ := f_gcopy (n := n) (p := p) (z_sGB hs2) z10 (by omega) a1 hG
  have u1 : ∀ a, a ≠ 191 → ax_u2 m1 191 s 1 a = m1 a := fun a ha => zu2_row ha
  have hfr : ∀ a, a < 191 ∨ a = 192 → ax_u2 m1 191 s 1 a = m a := fun a ha => by rw [u1 a (by omega), b2 a (by omega)]
  refine ⟨ax_u2 m1 191 s 1, p, ?_, fun a ha => by rw [u1 a (by omega), b2 a (by omega)], ⟨?_, X, Y, E, zCX_fr hc (fun a ha hb => hfr a (by omega))⟩, a1, a2, by omega, a4, a5, fun t M W ht => ?_⟩
  · unfold fn_X9_save
    rw [f_isIn, zB_t hx, Option.bind_some]
    dsimp only
    rw [if_neg (by decide), z_cr, show zR p 9 3 = some 190 from rfl, Option.bind_some, z_slot hs2, Option.bind_some, z_cr, show zR p 9 0 = some 10 from rfl, Option.bind_some, z_sh (t := 1) (a := 193 + 41 * s) (by omega) (by rw [(zGB_ok (n := n) (p := p) (z_sGB hs2)).2.2.1]), Option.bind_some, b1, Option.bind_some, z_cr, show zR p 9 4 = some 191 from rfl, Option.bind_some, z_sv hs2, Option.bind_some, z_cr, show zR p 9 0 = some 10 from rfl, Option.bind_some, z_g1, hfr 10 (by omega), hG.1, Option.bind_some]
  · obtain ⟨hT, ⟨-, -, hO⟩, hBl, ⟨t1, t2⟩, hS⟩ := h10
    refine ⟨fun a j ha => by rw [hfr a (by omega)]; exact hT a j ha, ⟨hN, zGC_f1 hG hN (fun a ha => hfr a (by omega)), zOC_f1 hO (fun a ha => hfr a (by omega))⟩, fun k hk => by rw [hfr _ (by omega)]; exact hBl k hk, ⟨by rw [hfr _ (by omega)]; exact t1, fun j hj => by rw [hfr _ (by omega)]; exact t2 j hj⟩, fun t ht => ?_⟩
    by_cases hts : t = s
    · subst hts
      rw [va_up_self]
      exact ⟨ax_u2_self, hN, zGC_cg b3 hN (fun a ha hb => u1 a (by omega))⟩
    · rw [va_up_ne _ _ hts]
      exact zSlC_cg2 (hS t ht) ⟨by rw [ax_u2_nk hts, b2 191 (by omega)], fun a ha hb => by rw [u1 a (by omega), b2 a (by omega)]⟩
  · by_cases hts : t = s
    · subst hts
      rw [va_up_self] at ht
      cases ht
      exact a1
    · rw [va_up_ne _ _ hts] at ht
      exact a6 t M W ht
theorem k_restore (h1 : zCls m p ((N, V), C, (L, T), S)) (h3 : zAbs B ((N, V), C, (L, T), S)) {s M : Nat} {W : Nat → Nat → Int32} (hs2 : s < 2) (hSs : S s = some (M, W)) : zgo n m p B (fn_X9_restore (some 9) (nI s)) (nI M) ((M, W), zcl C, (L, T), S) := by
  obtain ⟨h10, X, Y, E, hc⟩ := id h1
  obtain ⟨a1, a2, a3, a4, a5, a6⟩ := id h3
  have hx : (0 : Int32) ≤ nI s ∧ nI s ≤ 1 := ⟨z_pos (by omega), nI_le (b := 1) (by omega) (by omega)⟩
  have hSc := h10.2.2.2.2 s hs2
  rw [hSs] at hSc
  obtain ⟨hfl, hM, hGs⟩ := hSc
  have hW := a6 s M W hSs
  obtain ⟨m1, b1, b2, b3, b4⟩ := f_gcopy (n := n) (p := p) z10 (z_sGB hs2) (by omega) hW hGs
  have u1 : ∀ a, a ≠ 51 → ax_u2 m1 51 2 0 a = m1 a := fun a ha => zu2_row ha
  refine ⟨ax_u2 m1 51 2 0, p, ?_, fun a ha => by rw [u1 a (by omega), b2 a (by omega)], ⟨zCls0_g h10 (fun a ha => by rw [u1 a (by omega), b2 a (by omega)]) hM (zGC_f1 b3 hM (fun a ha => u1 a (by omega))) (zOC_f1 b4 (fun a ha => u1 a (by omega))), X, Y, E, zCa_cl (zCX_fr hc (fun a ha hb => b2 a (by omega)))⟩, hW, zI5_cl a2, by rw [zcl_1]; omega, a4, a5, a6⟩
  unfold fn_X9_restore
  rw [f_isIn, zB_t hx, Option.bind_some]
  dsimp only
  rw [if_neg (by decide), z_cr, show zR p 9 4 = some 191 from rfl, Option.bind_some, z_sr hs2, hfl, Option.bind_some, if_neg (by decide), z_cr, show zR p 9 0 = some 10 from rfl, Option.bind_some, z_cr, show zR p 9 3 = some 190 from rfl, Option.bind_some, z_slot hs2, Option.bind_some, z_gs, Option.bind_some, b1, Option.bind_some, z_cr, show zR p 9 1 = some 51 from rfl, Option.bind_some, z_cs, Option.bind_some, f_empty, Option.bind_some, z_cr, show zR p 9 0 = some 10 from rfl, Option.bind_some, z_g1, u1 10 (by omega), b3.1, Option.bind_some]
end KC
