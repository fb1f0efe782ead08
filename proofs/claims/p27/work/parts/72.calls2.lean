/-! ===== calls that change a node ===== -/
/-- a node is changed, and pictures are void -/
def zgv (n : Nat) (m : Nat → Nat → Int32) (p : Nat → Nat) (B : Nat) (F : ax_S → Option (Int32 × ax_S)) (N : Nat) (V1 : Nat → Nat → Int32) (C : zSt) (b : Nat → Nat → Bool) (LT : Nat × (Nat → Nat)) (S : Nat → Option (Nat × (Nat → Nat → Int32))) : Prop := ∃ kk, kk ≤ C.1 2 ∧ zE kk (zKf C.2.1 b) ∧ zgo n m p B F (nI (C.1 2 - kk)) ((N, V1), zvoid C b kk, LT, S)
section KC2
variable {n N L B i k : Nat} {m m' : Nat → Nat → Int32} {p X Y c T : Nat → Nat} {V : Nat → Nat → Int32} {C : zSt} {E K : Nat → Nat → Nat} {W : Nat → Nat → Nat → Int32} {x y z v w : Int32} {S : Nat → Option (Nat × (Nat → Nat → Int32))}
/-- the state of the class behind a change of the graph and a void -/
theorem zCls_ch {V' : Nat → Nat → Int32} {m1 m2 : Nat → Nat → Int32} (h10 : zCls0 m N V L T S) (hf : ∀ a, a < 10 ∨ 51 ≤ a → m1 a = m a) (h2 : ∀ a, a ≠ 51 → m2 a = m1 a) (hN : N ≤ 12) (hG : zGC m1 10 N V') (hO : zOC m1 10 N V') : zFK m m2 ∧ zCls0 m2 N V' L T S :=
  ⟨fun a ha => by rw [h2 a (by omega), hf a (by omega)], zCls0_g h10 (fun a ha => by rw [h2 a (by omega), hf a (by omega)]) hN (zGC_f1 hG hN (fun a ha => h2 a (by omega))) (zOC_f1 hO (fun a ha => h2 a (by omega)))⟩
theorem k_set_no (h1 : zCls m p ((N, V), C, (L, T), S)) (hx : ¬ (0 ≤ x ∧ x ≤ nI N - 1)) : fn_X9_set (some 9) x y z (zC n m p) = some (-1001, zC n m p) := by
  unfold fn_X9_set
  rw [z_cr, show zR p 9 0 = some 10 from rfl, Option.bind_some, z_gs, Option.bind_some, f_hasParameter_no z10 h1.1.2.1.2.1.1 hx, Option.bind_some]
  dsimp only
  rw [if_pos rfl]
theorem k_set_no2 (h1 : zCls m p ((N, V), C, (L, T), S)) (h3 : zAbs B ((N, V), C, (L, T), S)) (hi : i < N) (hk : k < 7) (hv : V i 0 = nI k) (hy : ¬ (0 ≤ y ∧ y ≤ nI (zpn k) - 1)) : fn_X9_set (some 9) (nI i) y z (zC n m p) = some (-1001, zC n m p) := by
  unfold fn_X9_set
  rw [z_cr, show zR p 9 0 = some 10 from rfl, Option.bind_some, z_gs, Option.bind_some, f_hasParameter z10 h1.1.1 h1.1.2.1.2.1 h3.1.1 hi hk hv, zB_f hy, Option.bind_some]
  dsimp only
  rw [if_pos rfl]
theorem k_set (h1 : zCls m p ((N, V), C, (L, T), S)) (h3 : zAbs B ((N, V), C, (L, T), S)) (hi : i < N) (hk : k < 7) (hv : V i 0 = nI k) {q : Nat} (hq : q < zpn k) : (fn_X9_set (some 9) (nI i) (nI q) z (zC n m p) = some (-1002, zC n m p)) ∨ ((zlo k q ≤ z ∧ z ≤ zhi k q) ∧ zgv n m p B (fn_X9_set (some 9) (nI i) (nI q) z) N (zVset V i (6 + q) z) C (zvb (zfd N (zVset V i (6 + q) z) i N) (V i 1) (V i 2) 1 0) (L, T) S) := by
  obtain ⟨h10, X, Y, E, hc⟩ := id h1
  obtain ⟨a1, a2, a3, a4, a5, a6⟩ := id h3
  have hT := h10.1
  have hN := a1.1
  have hG := h10.2.1.2.1
  have hO := h10.2.1.2.2
  have hp4 := (zin_lt k hk).2
  have hy : (0 : Int32) ≤ nI q ∧ nI q ≤ nI (zpn k) - 1 := ⟨z_pos (by omega), z_le_pred (by omega) hq⟩
  obtain ⟨hb, -⟩ := zGB_node (p := p) z10 (show i < 12 by omega)
  obtain ⟨b9, b1, t0, t1, t2, q3, q4⟩ := zNB_ok (n := n) (p := p) hb
  by_cases hz : zlo k q ≤ z ∧ z ≤ zhi k q
  · right
    refine ⟨hz, ?_⟩
    have hi1 : (if 6 + q < 3 then 0 else if 6 + q < 6 then 1 else 2) = 2 := by rw [if_neg (by omega), if_neg (by omega)]
    have hi2 : (if 6 + q < 3 then 6 + q else if 6 + q < 6 then 6 + q - 3 else 6 + q - 6) = q := by rw [if_neg (by omega), if_neg (by omega)]; omega
    have hV1 := zOK_set (i := i) (w := 6 + q) (x := z) a1 (by omega) (fun k' hk' e _ => by
      have : k' = k := nI_inj (by omega) (by omega) (e.symm.trans hv)
      subst this
      rw [show 6 + q - 6 = q by omega]
      exact hz)
    have hI1 : zSameI V (zVset V i (6 + q) z) := zSameI_set (by omega)
    have hG1 : zGC (ax_u2 m (10 + 5 + 3 * i + 2) q z) 10 N (zVset V i (6 + q) z) := zGC_set hG hN hi (fun a b hne => by rw [hi1, hi2] at hne; exact if_neg hne) (by rw [hi1, hi2]; exact ax_u2_self) (by omega)
    have hw1 : zVset V i (6 + q) z i 1 = V i 1 := ax_u2_nk (by omega)
    have hw2 : zVset V i (6 + q) z i 2 = V i 2 := ax_u2_nk (by omega)
    generalize hm1 : ax_u2 m (10 + 5 + 3 * i + 2) q z = m1 at hG1
    have e1 : ∀ a, a ≠ 10 + 5 + 3 * i + 2 → m1 a = m a := fun a ha => by rw [← hm1]; exact zu2_row ha
    have hO1 : zOC m1 10 N (zVset V i (6 + q) z) := zOC_cg hO hI1 ⟨e1 _ (by omega), e1 _ (by omega), e1 _ (by omega)⟩
    generalize hV1e : zVset V i (6 + q) z = V1 at hV1 hI1 hG1 hO1 hw1 hw2 ⊢
    obtain ⟨m2, p2, X2, Y2, kk, k0, v1, v2, v3, v4⟩ := f_void9 (n := n) (zCX_fr (m' := m1) hc (fun a _ _ => e1 a (by omega))) (zfd N V1 i N) (V i 1) (V i 2) 1 0
    obtain ⟨i1, i2⟩ := zI5_void a2 k0 v3
    obtain ⟨f1, f2⟩ := zCls_ch h10 (fun a ha => e1 a (by omega)) v4 hN hG1 hO1
    refine ⟨kk, k0, v3, m2, p2, ?_, f1, ⟨f2, X2, Y2, E, v2⟩, hV1, i1, by rw [i2]; omega, a4, a5, a6⟩
    unfold fn_X9_set
    rw [z_cr, show zR p 9 0 = some 10 from rfl, Option.bind_some, z_gs, Option.bind_some, f_hasParameter z10 hT hG hN hi hk hv, zB_t hy, Option.bind_some]
    dsimp only
    rw [if_neg (by decide), z_cr, show zR p 9 0 = some 10 from rfl, Option.bind_some, z_gr0, show zR p 10 0 = some (10 + 1) from rfl, Option.bind_some, z_nodes z10 (by omega), Option.bind_some, z_gi (a := 10 + 5 + 3 * i) (t := 2) (by omega) (by rw [t0]), hG.2.1 i 0 hi (by omega), hv, Option.bind_some, f_lowest hT hk (by omega), Option.bind_some]
    dsimp only
    rw [f_highest hT hk (by omega), Option.bind_some]
    dsimp only
    rw [f_isIn, zB_t hz, Option.bind_some]
    dsimp only
    rw [if_neg (by decide), z_gr (a := 10 + 5 + 3 * i) (t := 2) (by omega) (by rw [t0]), q4, Option.bind_some, z_as (a := 10 + 5 + 3 * i + 2) (t := 9) (by omega) (by omega) (by rw [t2]) (by rw [t2]; show q < 4; omega) (by omega), hm1, Option.bind_some, z_cr, show zR p 9 1 = some 51 from rfl, Option.bind_some, z_cr, show zR p 9 0 = some 10 from rfl, Option.bind_some, z_gs, Option.bind_some, f_dependents z10 hG1 hN (fun t ht => (hO1.1 t ht).1) i, Option.bind_some]
    dsimp only
    rw [z_gi (a := 10 + 5 + 3 * i) (t := 2) (by omega) (by rw [t0]), hG1.2.1 i 1 hi (by omega), Option.bind_some, z_gi (a := 10 + 5 + 3 * i) (t := 2) (by omega) (by rw [t0]), hG1.2.1 i 2 hi (by omega), Option.bind_some, z_cs, Option.bind_some, f_makeVoid, hw1, hw2, v1, Option.bind_some]
  · left
    unfold fn_X9_set
    rw [z_cr, show zR p 9 0 = some 10 from rfl, Option.bind_some, z_gs, Option.bind_some, f_hasParameter z10 hT hG hN hi hk hv, zB_t hy, Option.bind_some]
    dsimp only
    rw [if_neg (by decide), z_cr, show zR p 9 0 = some 10 from rfl, Option.bind_some, z_gr0, show zR p 10 0 = some (10 + 1) from rfl, Option.bind_some, z_nodes z10 (by omega), Option.bind_some, z_gi (a := 10 + 5 + 3 * i) (t := 2) (by omega) (by rw [t0]), hG.2.1 i 0 hi (by omega), hv, Option.bind_some, f_lowest hT hk (by omega), Option.bind_some]
    dsimp only
    rw [f_highest hT hk (by omega), Option.bind_some]
    dsimp only
    rw [f_isIn, zB_f hz, Option.bind_some]
    dsimp only
    rw [if_pos rfl]
theorem k_setRange_no (h1 : zCls m p ((N, V), C, (L, T), S)) (hx : ¬ (0 ≤ x ∧ x ≤ nI N - 1)) : fn_X9_setRange (some 9) x y z (zC n m p) = some (-1001, zC n m p) := by
  unfold fn_X9_setRange
  rw [z_cr, show zR p 9 0 = some 10 from rfl, Option.bind_some, z_gs, Option.bind_some, f_has z10 h1.1.2.1.2.1.1, zB_f hx, Option.bind_some]
  dsimp only
  rw [if_pos rfl]
theorem k_setRange_no2 (h1 : zCls m p ((N, V), C, (L, T), S)) (hx : 0 ≤ x ∧ x ≤ nI N - 1) (hy : ¬ (0 ≤ y ∧ y ≤ 99)) : fn_X9_setRange (some 9) x y z (zC n m p) = some (-1002, zC n m p) := by
  unfold fn_X9_setRange
  rw [z_cr, show zR p 9 0 = some 10 from rfl, Option.bind_some, z_gs, Option.bind_some, f_has z10 h1.1.2.1.2.1.1, zB_t hx, Option.bind_some]
  dsimp only
  rw [if_neg (by decide), f_isFrame, zB_f hy, Option.bind_some]
  dsimp only
  rw [if_pos rfl]
theorem k_setRange (h1 : zCls m p ((N, V), C, (L, T), S)) (h3 : zAbs B ((N, V), C, (L, T), S)) (hi : i < N) {f l : Nat} (hfl : f ≤ l) (hl : l ≤ 99) : zgv n m p B (fn_X9_setRange (some 9) (nI i) (nI f) (nI l)) N (zVset (zVset V i 1 (nI f)) i 2 (nI l)) C (zvb (zfd N (zVset (zVset V i 1 (nI f)) i 2 (nI l)) i N) (V i 1) (V i 2) (nI f) (nI l)) (L, T) S := by
  obtain ⟨h10, X, Y, E, hc⟩ := id h1
  obtain ⟨a1, a2, a3, a4, a5, a6⟩ := id h3
  have hT := h10.1
  have hN := a1.1
  have hG := h10.2.1.2.1
  have hO := h10.2.1.2.2
  have hx : (0 : Int32) ≤ nI i ∧ nI i ≤ nI N - 1 := ⟨z_pos (by omega), z_le_pred (by omega) hi⟩
  have hy : (0 : Int32) ≤ nI f ∧ nI f ≤ 99 := ⟨z_pos (by omega), nI_le (b := 99) (by omega) (by omega)⟩
  have hz : nI f ≤ nI l ∧ nI l ≤ 99 := ⟨nI_le hfl (by omega), nI_le (b := 99) (by omega) (by omega)⟩
  obtain ⟨hb, -⟩ := zGB_node (p := p) z10 (show i < 12 by omega)
  obtain ⟨b9, b1, t0, t1, t2, q3, q4⟩ := zNB_ok (n := n) (p := p) hb
  have hV1 := zOK_rng (i := i) a1 hfl hl
  have hI1 : zSameI V (zVset (zVset V i 1 (nI f)) i 2 (nI l)) := fun a k hk => (zSameI_set (w := 2) (by omega) a k hk).trans (zSameI_set (w := 1) (by omega) a k hk)
  have e10 : (if (1 : Nat) < 3 then 0 else if 1 < 6 then 1 else 2) = 0 := rfl
  have e11 : (if (1 : Nat) < 3 then 1 else if 1 < 6 then 1 - 3 else 1 - 6) = 1 := rfl
  have e20 : (if (2 : Nat) < 3 then 0 else if 2 < 6 then 1 else 2) = 0 := rfl
  have e21 : (if (2 : Nat) < 3 then 2 else if 2 < 6 then 2 - 3 else 2 - 6) = 2 := rfl
  have hG0 : zGC (ax_u2 m (10 + 5 + 3 * i) 1 (nI f)) 10 N (zVset V i 1 (nI f)) := zGC_set hG hN hi (fun a b hne => by rw [e10, e11] at hne; exact if_neg hne) (by rw [e10, e11]; exact ax_u2_self) (by omega)
  have hG1 : zGC (ax_u2 (ax_u2 m (10 + 5 + 3 * i) 1 (nI f)) (10 + 5 + 3 * i) 2 (nI l)) 10 N (zVset (zVset V i 1 (nI f)) i 2 (nI l)) := zGC_set hG0 hN hi (fun a b hne => by rw [e20, e21] at hne; exact if_neg hne) (by rw [e20, e21]; exact ax_u2_self) (by omega)
  generalize hm0 : ax_u2 m (10 + 5 + 3 * i) 1 (nI f) = m0 at hG1
  generalize hm1 : ax_u2 m0 (10 + 5 + 3 * i) 2 (nI l) = m1 at hG1
  have e1 : ∀ a, a ≠ 10 + 5 + 3 * i → m1 a = m a := fun a ha => by rw [← hm1, zu2_row ha, ← hm0, zu2_row ha]
  have hO1 : zOC m1 10 N (zVset (zVset V i 1 (nI f)) i 2 (nI l)) := zOC_cg hO hI1 ⟨e1 _ (by omega), e1 _ (by omega), e1 _ (by omega)⟩
  generalize hV1e : zVset (zVset V i 1 (nI f)) i 2 (nI l) = V1 at hV1 hI1 hG1 hO1 ⊢
  obtain ⟨m2, p2, X2, Y2, kk, k0, v1, v2, v3, v4⟩ := f_void9 (n := n) (zCX_fr (m' := m1) hc (fun a _ _ => e1 a (by omega))) (zfd N V1 i N) (V i 1) (V i 2) (nI f) (nI l)
  obtain ⟨i1, i2⟩ := zI5_void a2 k0 v3
  obtain ⟨f1, f2⟩ := zCls_ch h10 (fun a ha => e1 a (by omega)) v4 hN hG1 hO1
  refine ⟨kk, k0, v3, m2, p2, ?_, f1, ⟨f2, X2, Y2, E, v2⟩, hV1, i1, by rw [i2]; omega, a4, a5, a6⟩
  unfold fn_X9_setRange
  rw [z_cr, show zR p 9 0 = some 10 from rfl, Option.bind_some, z_gs, Option.bind_some, f_has z10 hG.1, zB_t hx, Option.bind_some]
  dsimp only
  rw [if_neg (by decide), f_isFrame, zB_t hy, Option.bind_some]
  dsimp only
  rw [if_neg (by decide), f_isIn, zB_t hz, Option.bind_some]
  dsimp only
  rw [if_neg (by decide), z_cr, show zR p 9 0 = some 10 from rfl, Option.bind_some, z_gr0, show zR p 10 0 = some (10 + 1) from rfl, Option.bind_some, z_nodes z10 (by omega), Option.bind_some, z_gi (a := 10 + 5 + 3 * i) (t := 2) (k := 1) (by omega) (by rw [t0]), hG.2.1 i 1 hi (by omega), Option.bind_some, z_gi (a := 10 + 5 + 3 * i) (t := 2) (k := 2) (by omega) (by rw [t0]), hG.2.1 i 2 hi (by omega), Option.bind_some, z_pi (a := 10 + 5 + 3 * i) (t := 2) (by omega) (by rw [t0]), hm0, Option.bind_some, z_pi (a := 10 + 5 + 3 * i) (t := 2) (by omega) (by rw [t0]), hm1, Option.bind_some, z_cr, show zR p 9 1 = some 51 from rfl, Option.bind_some, z_cr, show zR p 9 0 = some 10 from rfl, Option.bind_some, z_gs, Option.bind_some, f_dependents z10 hG1 hN (fun t ht => (hO1.1 t ht).1) i, Option.bind_some]
  dsimp only
  rw [z_cs, Option.bind_some, v1, Option.bind_some]
theorem k_connect_no (h1 : zCls m p ((N, V), C, (L, T), S)) (hx : ¬ (0 ≤ x ∧ x ≤ nI N - 1)) : fn_X9_connect (some 9) x y z (zC n m p) = some (-1001, zC n m p) := by
  unfold fn_X9_connect
  rw [z_cr, show zR p 9 0 = some 10 from rfl, Option.bind_some, z_gs, Option.bind_some, f_hasInput_no z10 h1.1.2.1.2.1.1 hx, Option.bind_some]
  dsimp only
  rw [if_pos rfl]
theorem k_connect_no2 (h1 : zCls m p ((N, V), C, (L, T), S)) (h3 : zAbs B ((N, V), C, (L, T), S)) (hi : i < N) (hk : k < 7) (hv : V i 0 = nI k) (hy : ¬ (0 ≤ y ∧ y ≤ nI (zin k) - 1)) : fn_X9_connect (some 9) (nI i) y z (zC n m p) = some (-1001, zC n m p) := by
  unfold fn_X9_connect
  rw [z_cr, show zR p 9 0 = some 10 from rfl, Option.bind_some, z_gs, Option.bind_some, f_hasInput z10 h1.1.1 h1.1.2.1.2.1 h3.1.1 hi hk hv, zB_f hy, Option.bind_some]
  dsimp only
  rw [if_pos rfl]
/-- a connection to a node: made, or refused since that node depends on this one -/
theorem k_connect (h1 : zCls m p ((N, V), C, (L, T), S)) (h3 : zAbs B ((N, V), C, (L, T), S)) (hi : i < N) (hk : k < 7) (hv : V i 0 = nI k) {d j : Nat} (hd : d < zin k) (hj : j < N) : (zdep N V i j ∧ fn_X9_connect (some 9) (nI i) (nI d) (nI j) (zC n m p) = some (-1003, zC n m p)) ∨ (¬ zdep N V i j ∧ zgv n m p B (fn_X9_connect (some 9) (nI i) (nI d) (nI j)) N (zVset V i (3 + d) (nI j)) C (zbc9 N V i d) (L, T) S) := by
  obtain ⟨h10, X, Y, E, hc⟩ := id h1
  obtain ⟨a1, a2, a3, a4, a5, a6⟩ := id h3
  have hT := h10.1
  have hN := a1.1
  have hG := h10.2.1.2.1
  have hO := h10.2.1.2.2
  have hp3 := (zin_lt k hk).1
  obtain ⟨dep1, dep2⟩ := zfd_dep a1 hi
  have hy : (0 : Int32) ≤ nI d ∧ nI d ≤ nI (zin k) - 1 := ⟨z_pos (by omega), z_le_pred (by omega) hd⟩
  have hz : (0 : Int32) ≤ nI j ∧ nI j ≤ nI N - 1 := ⟨z_pos (by omega), z_le_pred (by omega) hj⟩
  have hz0 : ¬ nI j = -1005 := nI_ne_none (by omega)
  have hpre : fn_X9_connect (some 9) (nI i) (nI d) (nI j) (zC n m p) = fb_X9_connect_34 (some 9) (nI i) (nI d) (nI j) (zC n m p) := by
    unfold fn_X9_connect
    rw [z_cr, show zR p 9 0 = some 10 from rfl, Option.bind_some, z_gs, Option.bind_some, f_hasInput z10 hT hG hN hi hk hv, zB_t hy, Option.bind_some]
    dsimp only
    rw [if_neg (by decide), if_neg hz0, z_cr, show zR p 9 0 = some 10 from rfl, Option.bind_some, z_gs, Option.bind_some, f_has z10 hG.1, zB_t hz, Option.bind_some]
    dsimp only
    rw [if_neg (by decide)]
  have h34 : fb_X9_connect_34 (some 9) (nI i) (nI d) (nI j) (zC n m p) = if zB ((0 ≤ nI j ∧ nI j ≤ 11) ∧ (zfd N V i N >>> (nI j &&& 31)) &&& 1 = 1) = 0 then fb_X9_connect_64 (some 9) (nI i) (nI d) (nI j) (zfd N V i N) (zC n m p) else some (-1003, zC n m p) := by
    unfold fb_X9_connect_34
    rw [z_cr, show zR p 9 0 = some 10 from rfl, Option.bind_some, z_gs, Option.bind_some, f_dependents z10 hG hN (fun t ht => (hO.1 t ht).1) i, Option.bind_some]
    dsimp only
    rw [if_neg hz0, f_contains, Option.bind_some]
  by_cases hdj : (zfd N V i N >>> (nI j &&& 31)) &&& 1 = 1
  · left
    refine ⟨((dep2 j (by omega)).mp hdj).2, ?_⟩
    rw [hpre, h34, zB_t ⟨⟨hz.1, nI_le (b := 11) (by omega) (by omega)⟩, hdj⟩, if_neg (by decide)]
  · right
    have hnd : ¬ zdep N V i j := fun q => hdj ((dep2 j (by omega)).mpr ⟨hj, q⟩)
    have hzz : nI j = -1005 ∨ ∃ j', j' < N ∧ nI j = nI j' ∧ ¬ zdep N V i j' := Or.inr ⟨j, hj, rfl, hnd⟩
    refine ⟨hnd, ?_⟩
    obtain ⟨m2, p2, X2, Y2, kk, k0, w1, w2, w3, w4, w5, w6⟩ := f_conn64 (n := n) hT hG a1 hi hk hv hd (by omega) hzz hc
    have hV1 := zOK_link a1 hi (show d < 3 by omega) (fun k' hk' e => by
      have : k' = k := nI_inj (by omega) (by omega) (e.symm.trans hv)
      subst this
      exact hd) hzz
    obtain ⟨i1, i2⟩ := zI5_void a2 k0 w3
    refine ⟨kk, k0, w3, m2, p2, ?_, fun a ha => w4 a (by omega), ⟨zCls0_g h10 (fun a ha => w4 a (by omega)) hN w5 w6, X2, Y2, E, w2⟩, hV1, i1, by rw [i2]; omega, a4, a5, a6⟩
    show fn_X9_connect (some 9) (nI i) (nI d) (nI j) (zC n m p) = _
    rw [hpre, h34, zB_f (fun q => hdj q.2), if_pos rfl]
    exact w1
end KC2
