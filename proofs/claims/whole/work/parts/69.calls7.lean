/-! ===== calls: scope, sum, compare ===== -/
section CALLS8
variable {n N L B i f U0 : Nat} {m m' : Nat → Nat → Int32} {p X Y c T : Nat → Nat} {V : Nat → Nat → Int32} {C : zSt} {E K : Nat → Nat → Nat} {W : Nat → Nat → Nat → Int32} {x y z v w : Int32} {S : Nat → Option (Nat × (Nat → Nat → Int32))}
theorem f_scope_no (hg : m 10 1 = nI N) (h : ¬ ((0 ≤ x ∧ x ≤ nI N - 1) ∧ (0 ≤ y ∧ y ≤ 99) ∧ (0 ≤ z ∧ z ≤ 2) ∧ (0 ≤ v ∧ v ≤ 15))) : fn_X9_scope (some 9) x y z v (zC n m p) = some (-1001, zC n m p) := by
  unfold fn_X9_scope
  rw [f_isIn, Option.bind_some]
  dsimp only
  rw [z_cr, show zR p 9 0 = some 10 from rfl, Option.bind_some, z_gs, Option.bind_some, f_has z10 hg, Option.bind_some]
  by_cases h1 : 0 ≤ x ∧ x ≤ nI N - 1
  · rw [zB_t h1]
    dsimp only
    rw [if_neg (by decide), f_isFrame, Option.bind_some]
    by_cases h2 : 0 ≤ y ∧ y ≤ 99
    · rw [zB_t h2]
      dsimp only
      rw [if_neg (by decide), f_isChannel, Option.bind_some]
      by_cases h3 : 0 ≤ z ∧ z ≤ 2
      · rw [zB_t h3]
        dsimp only
        rw [if_neg (by decide), if_pos (zB_f (fun q => h ⟨h1, h2, h3, q⟩))]
      · rw [zB_f h3]
        dsimp only
        rw [if_pos rfl]
    · rw [zB_f h2]
      dsimp only
      rw [if_pos rfl]
  · rw [zB_f h1]
    dsimp only
    rw [if_pos rfl]
theorem f_mscope_no (hg : m 276 0 = nI N) (h : ¬ ((0 ≤ x ∧ x ≤ nI N - 1) ∧ (0 ≤ y ∧ y ≤ 99) ∧ (0 ≤ z ∧ z ≤ 2) ∧ (0 ≤ v ∧ v ≤ 15))) : fn_X10_scope (some 275) x y z v (zC n m p) = some (-1001, zC n m p) := by
  unfold fn_X10_scope
  rw [z_mo 0, Option.bind_some, f_isPicture hg, Option.bind_some]
  by_cases h1 : (0 ≤ x ∧ x ≤ nI N - 1) ∧ (0 ≤ y ∧ y ≤ 99)
  · rw [zB_t h1]
    dsimp only
    rw [if_neg (by decide), f_in, Option.bind_some]
    by_cases h2 : 0 ≤ z ∧ z ≤ 2
    · rw [zB_t h2]
      dsimp only
      rw [if_neg (by decide), f_in, Option.bind_some, zB_f (fun q => h ⟨h1.1, h1.2, h2, q⟩)]
      dsimp only
      rw [if_pos rfl]
    · rw [zB_f h2]
      dsimp only
      rw [if_pos rfl]
  · rw [zB_f h1]
    dsimp only
    rw [if_pos rfl]
theorem c_scope : zop n (fn_X9_scope (some 9) x y z v) (fn_X10_scope (some 275) x y z v) := zop_mk (fun m p A B h1 h2 h3 hB => by
  obtain ⟨⟨N, V⟩, C, ⟨L, T⟩, S⟩ := A
  have hN := h3.1.1
  have hg := h1.1.2.1.2.1.1
  by_cases hx : (0 ≤ x ∧ x ≤ nI N - 1) ∧ (0 ≤ y ∧ y ≤ 99) ∧ (0 ≤ z ∧ z ≤ 2) ∧ (0 ≤ v ∧ v ≤ 15)
  · obtain ⟨hx, hy, hz, hv⟩ := hx
    obtain ⟨i, hi, rfl⟩ := z_inlt (by omega) hx.1 hx.2
    obtain ⟨f, hf, rfl⟩ := z_in (N := 99) (by omega) hy.1 hy.2
    obtain ⟨d, hd, rfl⟩ := z_in (N := 2) (by omega) hz.1 hz.2
    refine zop_ask (r := fun u => zfo (zgP v) u (d * 32) 32 0 0) hi (show f < 100 by omega) h1 h3 hB (fun m1 p1 row u e hr hu => ?_) (fun m m1 p j u h20 e hj hu => ?_)
    · unfold fn_X9_scope
      rw [f_isIn, zB_t hv, Option.bind_some]
      dsimp only
      rw [z_cr, show zR p 9 0 = some 10 from rfl, Option.bind_some, z_gs, Option.bind_some, f_has z10 hg, zB_t hx, Option.bind_some]
      dsimp only
      rw [if_neg (by decide), f_isFrame, zB_t hy, Option.bind_some]
      dsimp only
      rw [if_neg (by decide), f_isChannel, zB_t hz, Option.bind_some]
      dsimp only
      rw [if_neg (by decide), if_neg (by decide), z_gi9, Option.bind_some, e, Option.bind_some]
      unfold fn_X7_inPart ax_bd
      dsimp only
      have h := f_inPart_lp (n := n) (m := m1) (p := p1) (q := v) (b := d * 32) hr (by omega) hu 32 0 10000 0 rfl (by omega)
      rw [nI_0] at h
      rw [z_32, h, Option.bind_some]
    · unfold fn_X10_scope
      rw [z_mo 0, Option.bind_some, f_isPicture h20.2.1.1, zB_t ⟨hx, hy⟩, Option.bind_some]
      dsimp only
      rw [if_neg (by decide), f_in, zB_t hz, Option.bind_some]
      dsimp only
      rw [if_neg (by decide), f_in, zB_t hv, Option.bind_some]
      dsimp only
      rw [if_neg (by decide), z_mo 0, Option.bind_some, e, Option.bind_some]
      unfold ax_bd
      dsimp only
      have h := f_mscope_lp (n := n) (m := m1) (p := p) (q := v) (t := j) (b := d * 32) hj (by omega) hu 32 0 10000 0 rfl (by omega)
      rw [nI_0] at h
      rw [z_96', z_32', nI_add, Nat.mul_comm 32 d, h]
  · exact zop_no (-1001) h1 h3 (f_scope_no hg hx) (fun m p h => f_mscope_no h.1.2.1.1 hx))
def zsm4 (v : Int32) (b : Nat) (u : Nat → Int32) : Int32 := if v = 0 then zfo zgL u b 32 0 255 else if v = 1 then zfo zgG u b 32 0 0 else if v = 2 then zfo zgT u b 32 0 0 else zdf u b 32 0 0
theorem f_sum_no (hg : m 10 1 = nI N) (h : ¬ ((0 ≤ x ∧ x ≤ nI N - 1) ∧ (0 ≤ y ∧ y ≤ 99) ∧ (0 ≤ z ∧ z ≤ 2))) : fn_X9_sum (some 9) x y z v (zC n m p) = some (-1001, zC n m p) := by
  unfold fn_X9_sum
  rw [z_cr, show zR p 9 0 = some 10 from rfl, Option.bind_some, z_gs, Option.bind_some, f_has z10 hg, Option.bind_some]
  by_cases h1 : 0 ≤ x ∧ x ≤ nI N - 1
  · rw [zB_t h1]
    dsimp only
    rw [if_neg (by decide), f_isFrame, Option.bind_some]
    by_cases h2 : 0 ≤ y ∧ y ≤ 99
    · rw [zB_t h2]
      dsimp only
      rw [if_neg (by decide), f_isChannel, Option.bind_some, zB_f (fun q => h ⟨h1, h2, q⟩)]
      dsimp only
      rw [if_pos rfl]
    · rw [zB_f h2]
      dsimp only
      rw [if_pos rfl]
  · rw [zB_f h1]
    dsimp only
    rw [if_pos rfl]
theorem f_msum_no (hg : m 276 0 = nI N) (h : ¬ ((0 ≤ x ∧ x ≤ nI N - 1) ∧ (0 ≤ y ∧ y ≤ 99) ∧ (0 ≤ z ∧ z ≤ 2))) : fn_X10_sum (some 275) x y z v (zC n m p) = some (-1001, zC n m p) := by
  unfold fn_X10_sum
  rw [z_mo 0, Option.bind_some, f_isPicture hg, Option.bind_some]
  by_cases h1 : (0 ≤ x ∧ x ≤ nI N - 1) ∧ (0 ≤ y ∧ y ≤ 99)
  · rw [zB_t h1]
    dsimp only
    rw [if_neg (by decide), f_in, Option.bind_some, zB_f (fun q => h ⟨h1.1, h1.2, q⟩)]
    dsimp only
    rw [if_pos rfl]
  · rw [zB_f h1]
    dsimp only
    rw [if_pos rfl]
theorem c_sum : zop n (fn_X9_sum (some 9) x y z v) (fn_X10_sum (some 275) x y z v) := zop_mk (fun m p A B h1 h2 h3 hB => by
  obtain ⟨⟨N, V⟩, C, ⟨L, T⟩, S⟩ := A
  have hN := h3.1.1
  have hg := h1.1.2.1.2.1.1
  by_cases hx : (0 ≤ x ∧ x ≤ nI N - 1) ∧ (0 ≤ y ∧ y ≤ 99) ∧ (0 ≤ z ∧ z ≤ 2)
  · obtain ⟨hx, hy, hz⟩ := hx
    by_cases hv : 0 ≤ v ∧ v ≤ 3
    · obtain ⟨i, hi, rfl⟩ := z_inlt (by omega) hx.1 hx.2
      obtain ⟨f, hf, rfl⟩ := z_in (N := 99) (by omega) hy.1 hy.2
      obtain ⟨d, hd, rfl⟩ := z_in (N := 2) (by omega) hz.1 hz.2
      refine zop_ask (r := zsm4 v (d * 32)) hi (show f < 100 by omega) h1 h3 hB (fun m1 p1 row u e hr hu => ?_) (fun m m1 p j u h20 e hj hu => ?_)
      · unfold fn_X9_sum
        rw [z_cr, show zR p 9 0 = some 10 from rfl, Option.bind_some, z_gs, Option.bind_some, f_has z10 hg, zB_t hx, Option.bind_some]
        dsimp only
        rw [if_neg (by decide), f_isFrame, zB_t hy, Option.bind_some]
        dsimp only
        rw [if_neg (by decide), f_isChannel, zB_t hz, Option.bind_some]
        dsimp only
        rw [if_neg (by decide), f_isIn, zB_t hv, Option.bind_some]
        dsimp only
        rw [if_neg (by decide), z_gi9, Option.bind_some, e, Option.bind_some]
        dsimp only
        unfold zsm4 fn_X7_least fn_X7_greatest fn_X7_total fn_X7_different ax_bd
        dsimp only
        rw [z_32]
        have g1 := f_least_lp (n := n) (m := m1) (p := p1) (b := d * 32) hr (by omega) hu 32 0 10000 255 rfl (by omega)
        have g2 := f_greatest_lp (n := n) (m := m1) (p := p1) (b := d * 32) hr (by omega) hu 32 0 10000 0 rfl (by omega)
        have g3 := f_total_lp (n := n) (m := m1) (p := p1) (b := d * 32) hr (by omega) hu 32 0 10000 0 rfl (by omega)
        have g4 := f_different_lp (n := n) (m := m1) (p := p1) (b := d * 32) hr (by omega) hu 32 0 10000 0 rfl (by omega)
        rw [nI_0] at g1 g2 g3
        rw [Nat.add_zero] at g4
        by_cases v0 : v = 0
        · rw [if_pos v0, if_pos v0, g1, Option.bind_some]
        · rw [if_neg v0, if_neg v0]
          by_cases v1 : v = 1
          · rw [if_pos v1, if_pos v1, g2, Option.bind_some]
          · rw [if_neg v1, if_neg v1]
            by_cases v2 : v = 2
            · rw [if_pos v2, if_pos v2, g3, Option.bind_some]
            · rw [if_neg v2, if_neg v2, g4, Option.bind_some]
      · unfold fn_X10_sum
        rw [z_mo 0, Option.bind_some, f_isPicture h20.2.1.1, zB_t ⟨hx, hy⟩, Option.bind_some]
        dsimp only
        rw [if_neg (by decide), f_in, zB_t hz, Option.bind_some]
        dsimp only
        rw [if_neg (by decide), f_in, zB_t hv, Option.bind_some]
        dsimp only
        rw [if_neg (by decide), z_mo 0, Option.bind_some, e, Option.bind_some]
        dsimp only
        have h := f_msums_lp (n := n) (m := m1) (p := p) (a2 := v) (t := j) (b := d * 32) hj (by omega) hu 32 0 10000 255 0 0 0 rfl (by omega)
        rw [nI_0] at h
        unfold fn_X10_sums
        rw [z_mo 0, Option.bind_some, z_96', z_32', nI_add, Nat.mul_comm 32 d, h, Option.bind_some]
        rfl
    · refine zop_no (-1002) h1 h3 ?_ (fun m p h => ?_)
      · unfold fn_X9_sum
        rw [z_cr, show zR p 9 0 = some 10 from rfl, Option.bind_some, z_gs, Option.bind_some, f_has z10 hg, zB_t hx, Option.bind_some]
        dsimp only
        rw [if_neg (by decide), f_isFrame, zB_t hy, Option.bind_some]
        dsimp only
        rw [if_neg (by decide), f_isChannel, zB_t hz, Option.bind_some]
        dsimp only
        rw [if_neg (by decide), f_isIn, zB_f hv, Option.bind_some]
        dsimp only
        rw [if_pos rfl]
      · unfold fn_X10_sum
        rw [z_mo 0, Option.bind_some, f_isPicture h.1.2.1.1, zB_t ⟨hx, hy⟩, Option.bind_some]
        dsimp only
        rw [if_neg (by decide), f_in, zB_t hz, Option.bind_some]
        dsimp only
        rw [if_neg (by decide), f_in, zB_f hv, Option.bind_some]
        dsimp only
        rw [if_pos rfl]
  · exact zop_no (-1001) h1 h3 (f_sum_no hg hx) (fun m p h => f_msum_no h.1.2.1.1 hx))
theorem f_cmp_no (hg : m 10 1 = nI N) (h : ¬ ((0 ≤ x ∧ x ≤ nI N - 1) ∧ (0 ≤ y ∧ y ≤ nI N - 1) ∧ (0 ≤ z ∧ z ≤ 99))) : fn_X9_compare (some 9) x y z (zC n m p) = some (-1001, zC n m p) := by
  unfold fn_X9_compare
  rw [z_cr, show zR p 9 0 = some 10 from rfl, Option.bind_some, z_gs, Option.bind_some, f_has z10 hg, Option.bind_some]
  by_cases h1 : 0 ≤ x ∧ x ≤ nI N - 1
  · rw [zB_t h1]
    dsimp only
    rw [if_neg (by decide), z_cr, show zR p 9 0 = some 10 from rfl, Option.bind_some, z_gs, Option.bind_some, f_has z10 hg, Option.bind_some]
    by_cases h2 : 0 ≤ y ∧ y ≤ nI N - 1
    · rw [zB_t h2]
      dsimp only
      rw [if_neg (by decide), f_isFrame, Option.bind_some, zB_f (fun q => h ⟨h1, h2, q⟩)]
      dsimp only
      rw [if_pos rfl]
    · rw [zB_f h2]
      dsimp only
      rw [if_pos rfl]
  · rw [zB_f h1]
    dsimp only
    rw [if_pos rfl]
theorem f_mcmp_no (hg : m 276 0 = nI N) (h : ¬ ((0 ≤ x ∧ x ≤ nI N - 1) ∧ (0 ≤ y ∧ y ≤ nI N - 1) ∧ (0 ≤ z ∧ z ≤ 99))) : fn_X10_compare (some 275) x y z (zC n m p) = some (-1001, zC n m p) := by
  unfold fn_X10_compare
  rw [z_mo 0, Option.bind_some, f_isPicture hg, Option.bind_some]
  by_cases h1 : (0 ≤ x ∧ x ≤ nI N - 1) ∧ (0 ≤ z ∧ z ≤ 99)
  · rw [zB_t h1]
    dsimp only
    rw [if_neg (by decide), z_mo 0, Option.bind_some, f_mNode hg, Option.bind_some, zB_f (fun q => h ⟨h1.1, q, h1.2⟩)]
    dsimp only
    rw [if_pos rfl]
  · rw [zB_f h1]
    dsimp only
    rw [if_pos rfl]
theorem c_compare : zop n (fn_X9_compare (some 9) x y z) (fn_X10_compare (some 275) x y z) := zop_mk (fun m p A B h1 h2 h3 hB => by
  obtain ⟨⟨N, V⟩, C, ⟨L, T⟩, S⟩ := A
  have hN := h3.1.1
  have hg := h1.1.2.1.2.1.1
  by_cases hx : (0 ≤ x ∧ x ≤ nI N - 1) ∧ (0 ≤ y ∧ y ≤ nI N - 1) ∧ (0 ≤ z ∧ z ≤ 99)
  · obtain ⟨hx, hy, hz⟩ := hx
    obtain ⟨i, hi, rfl⟩ := z_inlt (by omega) hx.1 hx.2
    obtain ⟨o, ho, rfl⟩ := z_inlt (by omega) hy.1 hy.2
    obtain ⟨f, hf, rfl⟩ := z_in (N := 99) (by omega) hz.1 hz.2
    have hf : f < 100 := by omega
    obtain ⟨h10, X, Y, E, hc⟩ := h1
    obtain ⟨a1, a2, a3, a4, a5, a6⟩ := h3
    have a2' : zI5 N f (C.1 1) C := zI5_f a2
    obtain ⟨b1, b2, b3, b4⟩ := zask_b a1 hi hf a2'
    obtain ⟨m1, p1, X1, Y1, E1, k1, k2, k3, k4, k5, k6, k7⟩ := k_ask (n := n) h10 hc a1 hi hf a2' (by omega)
    generalize hC1 : zask V f 12 i C = C1 at *
    obtain ⟨d1, d2, d3, d4⟩ := zask_b a1 ho hf b1
    obtain ⟨m2, p2, X2, Y2, E2, g1, g2, g3, g4, g5, g6, g7⟩ := k_ask (n := n) k2 k3 a1 ho hf b1 (by omega)
    obtain ⟨t1, t2⟩ := d2 i b3
    have e12 := g7 i b3
    have hk2 : (zask V f 12 o C1).2.1 i f ≠ 0 := by omega
    obtain ⟨-, v2⟩ := zCX_val g3 hk2
    rw [e12, t2] at v2
    refine ⟨zgd (C1.2.2 i f) ((zask V f 12 o C1).2.2 o f) 96 0 0, ((N, V), zask V f 12 o C1, (L, T), S), ⟨m2, p2, ?_, zFK_tr (zFK_fc k4) (zFK_fc g4), g2, X2, Y2, E2, g3⟩, fun m p h2 => ?_, a1, zI5_f (zI5_self d1), by omega, a4, a5, a6⟩
    · unfold fn_X9_compare
      rw [z_cr, show zR p 9 0 = some 10 from rfl, Option.bind_some, z_gs, Option.bind_some, f_has z10 hg, zB_t hx, Option.bind_some]
      dsimp only
      rw [if_neg (by decide), z_cr, show zR p 9 0 = some 10 from rfl, Option.bind_some, z_gs, Option.bind_some, f_has z10 hg, zB_t hy, Option.bind_some]
      dsimp only
      rw [if_neg (by decide), f_isFrame, zB_t hz, Option.bind_some]
      dsimp only
      rw [if_neg (by decide), z_gi9, Option.bind_some, k1, Option.bind_some]
      dsimp only
      rw [z_gi9, Option.bind_some, g1, Option.bind_some]
      dsimp only
      unfold fn_X7_greatestDifference
      have h := f_gd_lp (n := n) (m := m2) (p := p2) k5 g5 v2 g6 96 0 10000 0 rfl (by omega)
      rw [nI_0] at h
      rw [h, Option.bind_some]
    · obtain ⟨h20, X', Y', hm⟩ := h2
      obtain ⟨m3, X3, Y3, j, l1, l2, l3, l4, l5, l6⟩ := l_ask (n := n) (p := p) h20 hm a1 hi hf a2' (by omega)
      rw [hC1] at l3
      obtain ⟨m4, X4, Y4, s, s1, s2, s3, s4, s5, s6⟩ := l_ask (n := n) (p := p) l2 l3 a1 ho hf b1 (by omega)
      have hx4 := zMa_0.mp s3
      obtain ⟨t, q1, q2, q3, q4, q5⟩ := f_mfindK (n := n) (p := p) hx4 hk2
      have h48 := hx4.2.2.1
      refine ⟨m4, ?_, zFM_tr (zFM_fp l4) (zFM_fp s4), s2, X4, Y4, s3⟩
      rw [t2] at q5
      unfold fn_X10_compare
      rw [z_mo 0, Option.bind_some, f_isPicture h20.2.1.1, zB_t ⟨hx, hz⟩, Option.bind_some]
      dsimp only
      rw [if_neg (by decide), z_mo 0, Option.bind_some, f_mNode h20.2.1.1, zB_t hy, Option.bind_some]
      dsimp only
      rw [if_neg (by decide), z_mo 0, Option.bind_some, l1, Option.bind_some]
      dsimp only
      rw [z_mo 0, Option.bind_some, s1, Option.bind_some]
      unfold ax_bd
      dsimp only
      rw [z_mo 0, Option.bind_some, q4, Option.bind_some]
      dsimp only
      have h := f_mcmp_lp (n := n) (m := m4) (p := p) (t := t) (s := s) (by omega) s5 q5 s6 96 0 10000 0 rfl (by omega)
      rw [nI_0] at h
      rw [z_96', z_96', h]
  · exact zop_no (-1001) h1 h3 (f_cmp_no hg hx) (fun m p h => f_mcmp_no h.1.2.1.1 hx))
end CALLS8
