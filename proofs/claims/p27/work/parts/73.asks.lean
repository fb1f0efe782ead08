/-! ===== calls that ask for pictures ===== -/
section KC3
variable {n N L B i f k : Nat} {m m' : Nat → Nat → Int32} {p X Y c T : Nat → Nat} {V : Nat → Nat → Int32} {C : zSt} {E K : Nat → Nat → Nat} {W : Nat → Nat → Nat → Int32} {x y z v w : Int32} {S : Nat → Option (Nat × (Nat → Nat → Int32))}
theorem zgo_ask {α : Type} {F : ax_S → Option (α × ax_S)} {r : (Nat → Int32) → α} (hi : i < N) (hf : f < 100) (h1 : zCls m p ((N, V), C, (L, T), S)) (h3 : zAbs B ((N, V), C, (L, T), S)) (hB : B < 2 ^ 30)
    (hF : ∀ (m1 : Nat → Nat → Int32) (p1 : Nat → Nat) (row : Nat) (u : Nat → Int32), fn_X9_ask (some 9) (nI i) (nI f) 0 (zC n m p) = some (some row, zC n m1 p1) → zRow row → (∀ k, k < 96 → m1 row k = u k) → F (zC n m p) = some (r u, zC n m1 p1)) :
    zgo n m p B F (r ((zask V f 12 i C).2.2 i f)) ((N, V), zask V f 12 i C, (L, T), S) := by
  obtain ⟨h10, X, Y, E, hc⟩ := h1
  obtain ⟨a1, a2, a3, a4, a5, a6⟩ := h3
  have a2' : zI5 N f (C.1 1) C := zI5_f a2
  obtain ⟨b1, b2, b3, b4⟩ := zask_b a1 hi hf a2'
  obtain ⟨m1, p1, X1, Y1, E1, k1, k2, k3, k4, k5, k6, -⟩ := k_ask (n := n) h10 hc a1 hi hf a2' (by omega)
  exact ⟨m1, p1, hF m1 p1 _ _ k1 k5 k6, zFK_fc k4, ⟨k2, X1, Y1, E1, k3⟩, a1, zI5_f (zI5_self b1), by omega, a4, a5, a6⟩
theorem k_value_no (h1 : zCls m p ((N, V), C, (L, T), S)) (hx : ¬ ((0 ≤ x ∧ x ≤ nI N - 1) ∧ (0 ≤ y ∧ y ≤ 99) ∧ (0 ≤ z ∧ z ≤ 7) ∧ (0 ≤ v ∧ v ≤ 3) ∧ (0 ≤ w ∧ w ≤ 2))) : fn_X9_value (some 9) x y z v w (zC n m p) = some (-1001, zC n m p) := by
  rw [f_value9, f_value_no h1.1.2.1.2.1.1]
  rintro ⟨q1, q2, q3⟩
  refine hx ⟨q1, q2, ?_⟩
  by_cases hb : (0 ≤ z ∧ z ≤ 7) ∧ (0 ≤ v ∧ v ≤ 3) ∧ (0 ≤ w ∧ w ≤ 2)
  · exact hb
  · exact absurd (zB_f hb) q3
theorem k_value (h1 : zCls m p ((N, V), C, (L, T), S)) (h3 : zAbs B ((N, V), C, (L, T), S)) (hB : B < 2 ^ 30) (hi : i < N) (hf : f < 100) {a b d : Nat} (ha : a < 8) (hb : b < 4) (hd : d < 3) : zgo n m p B (fn_X9_value (some 9) (nI i) (nI f) (nI a) (nI b) (nI d)) ((zask V f 12 i C).2.2 i f (d * 32 + b * 8 + a)) ((N, V), zask V f 12 i C, (L, T), S) := by
  have hN := h3.1.1
  have hg := h1.1.2.1.2.1.1
  have hx : (0 : Int32) ≤ nI i ∧ nI i ≤ nI N - 1 := ⟨z_pos (by omega), z_le_pred (by omega) hi⟩
  have hy : (0 : Int32) ≤ nI f ∧ nI f ≤ 99 := ⟨z_pos (by omega), nI_le (b := 99) (by omega) (by omega)⟩
  have hz : (0 : Int32) ≤ nI a ∧ nI a ≤ 7 := ⟨z_pos (by omega), nI_le (b := 7) (by omega) (by omega)⟩
  have hv : (0 : Int32) ≤ nI b ∧ nI b ≤ 3 := ⟨z_pos (by omega), nI_le (b := 3) (by omega) (by omega)⟩
  have hw : (0 : Int32) ≤ nI d ∧ nI d ≤ 2 := ⟨z_pos (by omega), nI_le (b := 2) (by omega) (by omega)⟩
  refine zgo_ask (r := fun u => u (d * 32 + b * 8 + a)) hi hf h1 h3 hB (fun m1 p1 row u e hr hu => ?_)
  rw [f_value9, zB_t ⟨hz, hv, hw⟩]
  unfold fb_X9_value_33
  rw [z_cr, show zR p 9 0 = some 10 from rfl, Option.bind_some, z_gs, Option.bind_some, f_has z10 hg, zB_t hx, Option.bind_some]
  dsimp only
  rw [if_neg (by decide), f_isFrame, zB_t hy, Option.bind_some]
  dsimp only
  rw [if_neg (by decide), if_neg (by decide), z_gi9, Option.bind_some, e, Option.bind_some]
  dsimp only
  rw [z_32, z_8, nI_add, nI_add, z_ra hr (by omega), hu _ (by omega), Option.bind_some]
theorem k_sum (h1 : zCls m p ((N, V), C, (L, T), S)) (h3 : zAbs B ((N, V), C, (L, T), S)) (hB : B < 2 ^ 30) (hi : i < N) (hf : f < 100) {d : Nat} (hd : d < 3) : zgo n m p B (fn_X9_sum (some 9) (nI i) (nI f) (nI d) 2) (zfo zgT ((zask V f 12 i C).2.2 i f) (d * 32) 32 0 0) ((N, V), zask V f 12 i C, (L, T), S) := by
  have hN := h3.1.1
  have hg := h1.1.2.1.2.1.1
  have hx : (0 : Int32) ≤ nI i ∧ nI i ≤ nI N - 1 := ⟨z_pos (by omega), z_le_pred (by omega) hi⟩
  have hy : (0 : Int32) ≤ nI f ∧ nI f ≤ 99 := ⟨z_pos (by omega), nI_le (b := 99) (by omega) (by omega)⟩
  have hz : (0 : Int32) ≤ nI d ∧ nI d ≤ 2 := ⟨z_pos (by omega), nI_le (b := 2) (by omega) (by omega)⟩
  refine zgo_ask (r := fun u => zfo zgT u (d * 32) 32 0 0) hi hf h1 h3 hB (fun m1 p1 row u e hr hu => ?_)
  unfold fn_X9_sum
  rw [z_cr, show zR p 9 0 = some 10 from rfl, Option.bind_some, z_gs, Option.bind_some, f_has z10 hg, zB_t hx, Option.bind_some]
  dsimp only
  rw [if_neg (by decide), f_isFrame, zB_t hy, Option.bind_some]
  dsimp only
  rw [if_neg (by decide), f_isChannel, zB_t hz, Option.bind_some]
  dsimp only
  rw [if_neg (by decide), f_isIn, zB_t (show (0 : Int32) ≤ 2 ∧ (2 : Int32) ≤ 3 by decide), Option.bind_some]
  dsimp only
  rw [if_neg (by decide), z_gi9, Option.bind_some, e, Option.bind_some]
  dsimp only
  unfold fn_X7_total ax_bd
  dsimp only
  rw [z_32]
  have g3 := f_total_lp (n := n) (m := m1) (p := p1) (b := d * 32) hr (by omega) hu 32 0 10000 0 rfl (by omega)
  rw [nI_0] at g3
  rw [if_neg (by decide), if_neg (by decide), if_pos (by decide), g3, Option.bind_some]
theorem k_compare (h1 : zCls m p ((N, V), C, (L, T), S)) (h3 : zAbs B ((N, V), C, (L, T), S)) (hB : B < 2 ^ 30) {o : Nat} (hi : i < N) (ho : o < N) (hf : f < 100) : zgo n m p B (fn_X9_compare (some 9) (nI i) (nI o) (nI f)) (zgd ((zask V f 12 i C).2.2 i f) ((zask V f 12 o (zask V f 12 i C)).2.2 o f) 96 0 0) ((N, V), zask V f 12 o (zask V f 12 i C), (L, T), S) := by
  have hN := h3.1.1
  have hg := h1.1.2.1.2.1.1
  have hx : (0 : Int32) ≤ nI i ∧ nI i ≤ nI N - 1 := ⟨z_pos (by omega), z_le_pred (by omega) hi⟩
  have hy : (0 : Int32) ≤ nI o ∧ nI o ≤ nI N - 1 := ⟨z_pos (by omega), z_le_pred (by omega) ho⟩
  have hz : (0 : Int32) ≤ nI f ∧ nI f ≤ 99 := ⟨z_pos (by omega), nI_le (b := 99) (by omega) (by omega)⟩
  obtain ⟨h10, X, Y, E, hc⟩ := h1
  obtain ⟨a1, a2, a3, a4, a5, a6⟩ := h3
  have a2' : zI5 N f (C.1 1) C := zI5_f a2
  obtain ⟨b1, b2, b3, b4⟩ := zask_b a1 hi hf a2'
  obtain ⟨m1, p1, X1, Y1, E1, k1, k2, k3, k4, k5, k6, k7⟩ := k_ask (n := n) h10 hc a1 hi hf a2' (by omega)
  generalize hC1 : zask V f 12 i C = C1 at *
  obtain ⟨d1, d2, d3, d4⟩ := zask_b a1 ho hf b1
  obtain ⟨m2, p2, X2, Y2, E2, g1, g2, g3, g4, g5, g6, g7⟩ := k_ask (n := n) k2 k3 a1 ho hf b1 (by omega)
  obtain ⟨t1, t2⟩ := d2 i b3
  have e12 := g7 i b3
  have hk2 : (zask V f 12 o C1).2.1 i f ≠ 0 := by omega
  obtain ⟨-, v2⟩ := zCX_val g3 hk2
  rw [e12, t2] at v2
  refine ⟨m2, p2, ?_, zFK_tr (zFK_fc k4) (zFK_fc g4), ⟨g2, X2, Y2, E2, g3⟩, a1, zI5_f (zI5_self d1), by omega, a4, a5, a6⟩
  unfold fn_X9_compare
  rw [z_cr, show zR p 9 0 = some 10 from rfl, Option.bind_some, z_gs, Option.bind_some, f_has z10 hg, zB_t hx, Option.bind_some]
  dsimp only
  rw [if_neg (by decide), z_cr, show zR p 9 0 = some 10 from rfl, Option.bind_some, z_gs, Option.bind_some, f_has z10 hg, zB_t hy, Option.bind_some]
  dsimp only
  rw [if_neg (by decide), f_isFrame, zB_t hz, Option.bind_some]
  dsimp only
  rw [if_neg (by decide), z_gi9, Option.bind_some, k1, Option.bind_some]
  dsimp only
  rw [z_gi9, Option.bind_some, g1, Option.bind_some]
  dsimp only
  unfold fn_X7_greatestDifference
  have h := f_gd_lp (n := n) (m := m2) (p := p2) k5 g5 v2 g6 96 0 10000 0 rfl (by omega)
  rw [nI_0] at h
  rw [h, Option.bind_some]
theorem k_scope_no (h1 : zCls m p ((N, V), C, (L, T), S)) (hx : ¬ (0 ≤ x ∧ x ≤ nI N - 1)) : fn_X9_scope (some 9) x y z v (zC n m p) = some (-1001, zC n m p) := f_scope_no h1.1.2.1.2.1.1 (fun q => hx q.1)
theorem k_sum_no (h1 : zCls m p ((N, V), C, (L, T), S)) (hz : ¬ (0 ≤ z ∧ z ≤ 2)) : fn_X9_sum (some 9) x y z v (zC n m p) = some (-1001, zC n m p) := f_sum_no h1.1.2.1.2.1.1 (fun q => hz q.2.2)
theorem k_compare_no (h1 : zCls m p ((N, V), C, (L, T), S)) (hy : ¬ (0 ≤ y ∧ y ≤ nI N - 1)) : fn_X9_compare (some 9) x y z (zC n m p) = some (-1001, zC n m p) := f_cmp_no h1.1.2.1.2.1.1 (fun q => hy q.2.1)
/-- the checksum, of what stands between calls -/
noncomputable def zcks (N : Nat) (V : Nat → Nat → Int32) (C : zSt) : Int64 := zck3 C.2.1 N 0 (zmf (fun k => nI (C.1 (zci k))) 5 0 (zck1 (zTell N V) V N 0 (31 * 127 + (nI N).toInt64)))
theorem k_checksum (h1 : zCls m p ((N, V), C, (L, T), S)) (h3 : zAbs B ((N, V), C, (L, T), S)) : fn_X9_checksum (some 9) (zC n m p) = some (zcks N V C, zC n m p) := by
  have hte : ∀ i, i < N → ∀ w, w < 6 → fn_X9_node (some 9) (nI i) (nI w) (zC n m p) = some (zTell N V i w, zC n m p) := fun i hi w hw => k_node h1 h3 hi hw
  have hnd := k_nodes (n := n) h1
  obtain ⟨h10, X, Y, E, hc⟩ := h1
  have hOK := h3.1
  have k1 := f_ck13 (n := n) (te := zTell N V) hOK h10.1 h10.2.1.2.1 hc hte N 0 10000 (31 * 127 + (nI N).toInt64) (by omega) (by have := hOK.1; omega)
  rw [nI_0] at k1
  unfold fn_X9_checksum fn_X9_mix
  rw [z_gi9, Option.bind_some, hnd, Option.bind_some, Option.bind_some]
  exact k1
end KC3
