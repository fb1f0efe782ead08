/-! ===== calls: value, scope, sum, compare ===== -/
theorem zI5_f {N f f' : Nat} {C : zSt} (h : zI5 N f (C.1 1) C) : zI5 N f' (C.1 1) C := ⟨h.1, h.2.1, fun y g hy => absurd (h.1.1.1 y g) (Nat.not_le.mpr hy), h.2.2.2⟩
theorem zask_b {N f U0 x : Nat} {V : Nat → Nat → Int32} {C : zSt} (hOK : zOK N V) (hx : x < N) (hf : f < 100) (hI : zI5 N f U0 C) : zI5 N f U0 (zask V f 12 x C) ∧ (∀ y, U0 < C.2.1 y f → U0 < (zask V f 12 x C).2.1 y f ∧ (zask V f 12 x C).2.2 y f = C.2.2 y f) ∧ U0 < (zask V f 12 x C).2.1 x f ∧ (zask V f 12 x C).1 1 ≤ C.1 1 + 49 := by
  obtain ⟨rk, hrk⟩ := zrk_ex hOK
  have hN := hOK.1
  have hrx := hrk.1 x hx
  obtain ⟨z1, z2, z3, z4, z5, z6, z7, z8⟩ := zask_ok hOK hrk hf 12 x C hx (by omega) hI
  have hcn := zcn_le (K := (zask V f 12 x C).2.1) (U0 := U0) (f := f) 12
  exact ⟨z1, z2, z3, by omega⟩
section CALLS7
variable {n N L B i f U0 : Nat} {m m' : Nat → Nat → Int32} {p X Y c T : Nat → Nat} {V : Nat → Nat → Int32} {C : zSt} {E K : Nat → Nat → Nat} {W : Nat → Nat → Nat → Int32} {x y z v w : Int32} {S : Nat → Option (Nat × (Nat → Nat → Int32))}
/-- the class asks, between calls -/
theorem k_ask (h0 : zCls0 m N V L T S) (hc : zCa m p X Y C E) (hOK : zOK N V) (hi : i < N) (hf : f < 100) (hI : zI5 N f U0 C) (hB : C.1 1 < 2 ^ 30 + 100) : ∃ m' p' X' Y' E', fn_X9_ask (some 9) (nI i) (nI f) 0 (zC n m p) = some (some (54 + 2 * E' i f), zC n m' p') ∧ zCls0 m' N V L T S ∧ zCa m' p' X' Y' (zask V f 12 i C) E' ∧ zFc m m' ∧ zRow (54 + 2 * E' i f) ∧ (∀ k, k < 96 → m' (54 + 2 * E' i f) k = (zask V f 12 i C).2.2 i f k) ∧ ∀ z, U0 < C.2.1 z f → E' z f = E z f := by
  obtain ⟨b1, b2, b3, b4⟩ := zask_b hOK hi hf hI
  obtain ⟨m1, p1, X1, Y1, E1, a1, a2, a3, a4⟩ := f_ask (n := n) hOK hi hf hI (by omega) hc ⟨h0.2.1.2.1, h0.2.2.1⟩
  obtain ⟨v1, v2⟩ := zCX_val a2 (show (zask V f 12 i C).2.1 i f ≠ 0 by omega)
  exact ⟨m1, p1, X1, Y1, E1, a1, zCls0_cg h0 (fun a ha _ => a3 a ha), a2, a3, Or.inr ⟨_, v1, rfl⟩, v2, a4⟩
/-- the model asks, between calls -/
theorem l_ask (h0 : zMdl0 m N V L T S) (hm : zMa m X Y C 0) (hOK : zOK N V) (hi : i < N) (hf : f < 100) (hI : zI5 N f U0 C) (hB : C.1 1 < 2 ^ 30 + 100) : ∃ m' X' Y' j, fn_X10_picture (some 275) (nI i) (nI f) (zC n m p) = some (nI j, zC n m' p) ∧ zMdl0 m' N V L T S ∧ zMa m' X' Y' (zask V f 12 i C) 0 ∧ zFp m m' ∧ j < 48 ∧ ∀ k, k < 96 → m' 282 (96 * j + k) = (zask V f 12 i C).2.2 i f k := by
  obtain ⟨b1, b2, b3, b4⟩ := zask_b hOK hi hf hI
  obtain ⟨m1, X1, Y1, j, a1, a2, a3, a4, a5, a6⟩ := f_picture (n := n) (p := p) hOK hi hf hI (by omega) hm h0.2.1 h0.1
  have hx := zMa_0.mp a5
  have h48 := hx.2.2.1
  refine ⟨m1, X1, Y1, j, a1, zMdl0_fp h0 a6, a5, a6, by omega, fun k hk => ?_⟩
  have h1 := (hx.2.2.2.1 j a2).2.2.2.2.2.2.2 k hk
  rw [a3, a4] at h1
  exact h1
theorem zFM_fp (h : zFp m m') : zFM m m' := fun a ha => h.1 a (Or.inl ha)
theorem zFK_fc (h : zFc m m') : zFK m m' := fun a ha => h a (by omega)
/-- one picture is asked for: what holds then -/
theorem zop_ask {α : Type} {F G : ax_S → Option (α × ax_S)} {i f : Nat} {r : (Nat → Int32) → α} (hi : i < N) (hf : f < 100) (h1 : zCls m p ((N, V), C, (L, T), S)) (h3 : zAbs B ((N, V), C, (L, T), S)) (hB : B < 2 ^ 30)
    (hF : ∀ (m1 : Nat → Nat → Int32) (p1 : Nat → Nat) (row : Nat) (u : Nat → Int32), fn_X9_ask (some 9) (nI i) (nI f) 0 (zC n m p) = some (some row, zC n m1 p1) → zRow row → (∀ k, k < 96 → m1 row k = u k) → F (zC n m p) = some (r u, zC n m1 p1))
    (hG : ∀ (m m1 : Nat → Nat → Int32) (p : Nat → Nat) (j : Nat) (u : Nat → Int32), zMdl0 m N V L T S → fn_X10_picture (some 275) (nI i) (nI f) (zC n m p) = some (nI j, zC n m1 p) → j < 48 → (∀ k, k < 96 → m1 282 (96 * j + k) = u k) → G (zC n m p) = some (r u, zC n m1 p)) :
    ∃ r A', (∃ m1 p1, F (zC n m p) = some (r, zC n m1 p1) ∧ zFK m m1 ∧ zCls m1 p1 A') ∧ (∀ m p, zMdl m ((N, V), C, (L, T), S) → ∃ m2, G (zC n m p) = some (r, zC n m2 p) ∧ zFM m m2 ∧ zMdl m2 A') ∧ zAbs (B + 100) A' := by
  obtain ⟨h10, X, Y, E, hc⟩ := h1
  obtain ⟨a1, a2, a3, a4, a5, a6⟩ := h3
  have a2' : zI5 N f (C.1 1) C := zI5_f a2
  obtain ⟨b1, b2, b3, b4⟩ := zask_b a1 hi hf a2'
  obtain ⟨m1, p1, X1, Y1, E1, k1, k2, k3, k4, k5, k6, -⟩ := k_ask (n := n) h10 hc a1 hi hf a2' (by omega)
  refine ⟨r ((zask V f 12 i C).2.2 i f), ((N, V), zask V f 12 i C, (L, T), S), ⟨m1, p1, hF m1 p1 _ _ k1 k5 k6, zFK_fc k4, k2, X1, Y1, E1, k3⟩, fun m p h2 => ?_, a1, zI5_f (zI5_self b1), by omega, a4, a5, a6⟩
  obtain ⟨h20, X', Y', hm⟩ := h2
  obtain ⟨m2, X2, Y2, j, l1, l2, l3, l4, l5, l6⟩ := l_ask (n := n) (p := p) h20 hm a1 hi hf a2' (by omega)
  exact ⟨m2, hG m m2 p j _ h20 l1 l5 l6, zFM_fp l4, l2, X2, Y2, l3⟩
theorem z_32 (a : Nat) : nI a * 32 = nI (a * 32) := by
  rw [show (32 : Int32) = nI 32 from rfl, pk_mul]
theorem z_32' (a : Nat) : (32 : Int32) * nI a = nI (32 * a) := by
  rw [show (32 : Int32) = nI 32 from rfl, pk_mul]
theorem z_8 (a : Nat) : nI a * 8 = nI (a * 8) := by
  rw [show (8 : Int32) = nI 8 from rfl, pk_mul]
theorem z_8' (a : Nat) : (8 : Int32) * nI a = nI (8 * a) := by
  rw [show (8 : Int32) = nI 8 from rfl, pk_mul]
theorem z_96' (a : Nat) : (96 : Int32) * nI a = nI (96 * a) := by
  rw [show (96 : Int32) = nI 96 from rfl, pk_mul]
theorem f_value9 (s : ax_S) : fn_X9_value (some 9) x y z v w s = fb_X9_value_33 (some 9) x y z v w (zB ((0 ≤ z ∧ z ≤ 7) ∧ (0 ≤ v ∧ v ≤ 3) ∧ (0 ≤ w ∧ w ≤ 2))) s := by
  unfold fn_X9_value fb_X9_value_32
  rw [f_isIn, Option.bind_some]
  by_cases h1 : 0 ≤ z ∧ z ≤ 7
  · rw [zB_t h1]
    dsimp only
    rw [if_neg (by decide), f_isIn, Option.bind_some]
    by_cases h2 : 0 ≤ v ∧ v ≤ 3
    · rw [zB_t h2]
      dsimp only
      rw [if_neg (by decide), f_isChannel, Option.bind_some]
      by_cases h3 : 0 ≤ w ∧ w ≤ 2
      · rw [zB_t h3]
        dsimp only
        rw [if_neg (by decide), zB_t ⟨h1, h2, h3⟩]
      · rw [zB_f h3]
        dsimp only
        rw [if_pos rfl, zB_f (fun q => h3 q.2.2)]
    · rw [zB_f h2]
      dsimp only
      rw [if_pos rfl, zB_f (fun q => h2 q.2.1)]
  · rw [zB_f h1]
    dsimp only
    rw [if_pos rfl, zB_f (fun q => h1 q.1)]
theorem f_value_no (hg : m 10 1 = nI N) {b : Int32} (h : ¬ ((0 ≤ x ∧ x ≤ nI N - 1) ∧ (0 ≤ y ∧ y ≤ 99) ∧ b ≠ 0)) : fb_X9_value_33 (some 9) x y z v w b (zC n m p) = some (-1001, zC n m p) := by
  unfold fb_X9_value_33
  rw [z_cr, show zR p 9 0 = some 10 from rfl, Option.bind_some, z_gs, Option.bind_some, f_has z10 hg, Option.bind_some]
  by_cases h1 : 0 ≤ x ∧ x ≤ nI N - 1
  · rw [zB_t h1]
    dsimp only
    rw [if_neg (by decide), f_isFrame, Option.bind_some]
    by_cases h2 : 0 ≤ y ∧ y ≤ 99
    · rw [zB_t h2]
      dsimp only
      rw [if_neg (by decide)]
      by_cases h3 : b = 0
      · rw [if_pos h3]
      · exact absurd ⟨h1, h2, h3⟩ h
    · rw [zB_f h2]
      dsimp only
      rw [if_pos rfl]
  · rw [zB_f h1]
    dsimp only
    rw [if_pos rfl]
theorem f_mvalue_no (hg : m 276 0 = nI N) (h : ¬ ((0 ≤ x ∧ x ≤ nI N - 1) ∧ (0 ≤ y ∧ y ≤ 99) ∧ (0 ≤ z ∧ z ≤ 7) ∧ (0 ≤ v ∧ v ≤ 3) ∧ (0 ≤ w ∧ w ≤ 2))) : fn_X10_value (some 275) x y z v w (zC n m p) = some (-1001, zC n m p) := by
  unfold fn_X10_value
  rw [z_mo 0, Option.bind_some, f_isPicture hg, Option.bind_some]
  by_cases h1 : (0 ≤ x ∧ x ≤ nI N - 1) ∧ (0 ≤ y ∧ y ≤ 99)
  · rw [zB_t h1]
    dsimp only
    rw [if_neg (by decide), f_in, Option.bind_some]
    by_cases h2 : 0 ≤ z ∧ z ≤ 7
    · rw [zB_t h2]
      dsimp only
      rw [if_neg (by decide), f_in, Option.bind_some]
      by_cases h3 : 0 ≤ v ∧ v ≤ 3
      · rw [zB_t h3]
        dsimp only
        rw [if_neg (by decide), f_in, Option.bind_some]
        by_cases h4 : 0 ≤ w ∧ w ≤ 2
        · exact absurd ⟨h1.1, h1.2, h2, h3, h4⟩ h
        · rw [zB_f h4]
          dsimp only
          rw [if_pos rfl]
      · rw [zB_f h3]
        dsimp only
        rw [if_pos rfl]
    · rw [zB_f h2]
      dsimp only
      rw [if_pos rfl]
  · rw [zB_f h1]
    dsimp only
    rw [if_pos rfl]
theorem zop_no {α : Type} {F G : ax_S → Option (α × ax_S)} {A : zA} (r : α) (h1 : zCls m p A) (h3 : zAbs B A) (hF : F (zC n m p) = some (r, zC n m p)) (hG : ∀ m p, zMdl m A → G (zC n m p) = some (r, zC n m p)) : ∃ r A', (∃ m1 p1, F (zC n m p) = some (r, zC n m1 p1) ∧ zFK m m1 ∧ zCls m1 p1 A') ∧ (∀ m p, zMdl m A → ∃ m2, G (zC n m p) = some (r, zC n m2 p) ∧ zFM m m2 ∧ zMdl m2 A') ∧ zAbs (B + 100) A' :=
  ⟨r, A, ⟨m, p, hF, zFK_rf, h1⟩, fun m p h => ⟨m, hG m p h, zFM_rf, h⟩, zAbs_mono h3 (by omega)⟩
theorem c_value : zop n (fn_X9_value (some 9) x y z v w) (fn_X10_value (some 275) x y z v w) := zop_mk (fun m p A B h1 h2 h3 hB => by
  obtain ⟨⟨N, V⟩, C, ⟨L, T⟩, S⟩ := A
  have hN := h3.1.1
  have hg := h1.1.2.1.2.1.1
  by_cases hx : (0 ≤ x ∧ x ≤ nI N - 1) ∧ (0 ≤ y ∧ y ≤ 99) ∧ (0 ≤ z ∧ z ≤ 7) ∧ (0 ≤ v ∧ v ≤ 3) ∧ (0 ≤ w ∧ w ≤ 2)
  · obtain ⟨hx, hy, hz, hv, hw⟩ := hx
    obtain ⟨i, hi, rfl⟩ := z_inlt (by omega) hx.1 hx.2
    obtain ⟨f, hf, rfl⟩ := z_in (N := 99) (by omega) hy.1 hy.2
    obtain ⟨a, ha, rfl⟩ := z_in (N := 7) (by omega) hz.1 hz.2
    obtain ⟨b, hb, rfl⟩ := z_in (N := 3) (by omega) hv.1 hv.2
    obtain ⟨d, hd, rfl⟩ := z_in (N := 2) (by omega) hw.1 hw.2
    refine zop_ask (r := fun u => u (d * 32 + b * 8 + a)) hi (show f < 100 by omega) h1 h3 hB (fun m1 p1 row u e hr hu => ?_) (fun m m1 p j u h20 e hj hu => ?_)
    · rw [f_value9, zB_t ⟨hz, hv, hw⟩]
      unfold fb_X9_value_33
      rw [z_cr, show zR p 9 0 = some 10 from rfl, Option.bind_some, z_gs, Option.bind_some, f_has z10 hg, zB_t hx, Option.bind_some]
      dsimp only
      rw [if_neg (by decide), f_isFrame, zB_t hy, Option.bind_some]
      dsimp only
      rw [if_neg (by decide), if_neg (by decide), z_gi9, Option.bind_some, e, Option.bind_some]
      dsimp only
      rw [z_32, z_8, nI_add, nI_add, z_ra hr (by omega), hu _ (by omega), Option.bind_some]
    · unfold fn_X10_value
      rw [z_mo 0, Option.bind_some, f_isPicture h20.2.1.1, zB_t ⟨hx, hy⟩, Option.bind_some]
      dsimp only
      rw [if_neg (by decide), f_in, zB_t hz, Option.bind_some]
      dsimp only
      rw [if_neg (by decide), f_in, zB_t hv, Option.bind_some]
      dsimp only
      rw [if_neg (by decide), f_in, zB_t hw, Option.bind_some]
      dsimp only
      rw [if_neg (by decide), z_m8, Option.bind_some, z_mo 0, Option.bind_some, e, Option.bind_some]
      dsimp only
      rw [z_96', z_32', z_8', nI_add, nI_add, nI_add, show 96 * j + 32 * d + 8 * b + a = 96 * j + (d * 32 + b * 8 + a) by omega, z_p282 hj (by omega), hu _ (by omega), Option.bind_some]
  · refine zop_no (-1001) h1 h3 ?_ (fun m p h => f_mvalue_no h.1.2.1.1 hx)
    rw [f_value9, f_value_no hg]
    rintro ⟨q1, q2, q3⟩
    refine hx ⟨q1, q2, ?_⟩
    by_cases hb : (0 ≤ z ∧ z ≤ 7) ∧ (0 ≤ v ∧ v ≤ 3) ∧ (0 ≤ w ∧ w ≤ 2)
    · exact hb
    · exact absurd (zB_f hb) q3)
end CALLS7
