/-! ===== calls: value, scope, sum, compare ===== -/
theorem zI5_f {N f f' : Nat} {C : zSt} (h : zI5 N f (C.1 1) C) : zI5 N f' (C.1 1) C := ⟨h.1, h.2.1, fun y g hy => absurd (h.1.1.1 y g) (Nat.not_le.mpr hy), h.2.2.2⟩
theorem zask_b {N f U0 x : Nat} {V : Nat → Nat → Int32} {C : zSt} (hOK : zOK N V) (hx : x < N) (hf : f < 100) (hI : zI5 N f U0 C) : zI5 N f U0 (zask V f 12 x C) ∧ (∀ y, U0 < C.2.1 y f → U0 < (zask V f 12 x C).2.1 y f ∧ (zask V f 12 x C).2.2 y f = C.2.2 y f) ∧ U0 < (zask V f 12 x C).2.1 x f ∧ (zask V f 12 x C).1 1 ≤ C.1 1 + 49 := by
  obtain ⟨rk, hrk⟩ := zrk_ex hOK
  have hN := hOK.1
  have hrx := hrk.1 x hx
  obtain ⟨z1, z2, z3, z4, z5, z6, z7, z8⟩ := zask_ok hOK hrk hf 12 x C hx (by omega) hI
  have hcn := zcn_le (K := (zask V f 12 x C).2.1) (U0 := U0) (f := f) 12
  exact ⟨z1, z2, z3, by omega⟩
section CALLS7
variable {n N L B i f U0 : Nat} {m m' : Nat → Nat → Int32} {p X Y c T : Nat → Nat} {V : Nat → Nat → Int32} {C : zSt} {E K : Nat → Nat → Nat} {W : Nat → Nat → Nat → Int32} {x y z v w : Int32} {S : Nat → Option (Nat × (Nat → Nat → Int32))}
/-- the class asks, between calls -/
theorem k_ask (h0 : zCls0 m N V L T S) (hc : zCa m p X Y C E) (hOK : zOK N V) (hi : i < N) (hf : f < 100) (hI : zI5 N f U0 C) (hB : C.1 1 < 2 ^ 30 + 100) : ∃ m' p' X' Y' E', fn_X9_ask (some 9) (nI i) (nI f) 0 (zC n m p) = some (some (54 + 2 * E' i f), zC n m' p') ∧ zCls0 m' N V L T S ∧ zCa m' p' X' Y' (zask V f 12 i C) E' ∧ zFc m m' ∧ zRow (54 + 2 * E' i f) ∧ (∀ k, k < 96 → m' (54 + 2 * E' i f) k = (zask V f 12 i C).2.2 i f k) ∧ ∀ z, U0 < C.2.1 z f → E' z f = E z f := by
  obtain ⟨b1, b2, b3, b4⟩ := zask_b hOK hi hf hI
  obtain ⟨m1, p1, X1, Y1, E1, a1, a2, a3, a4⟩ := f_ask (n := n) hOK hi hf hI (by omega) hc ⟨h0.2.1.2.1, h0.2.2.1⟩
  obtain ⟨v1, v2⟩ := zCX_val a2 (show (zask V f 12 i C).2.1 i f ≠ 0 by omega)
  exact ⟨m1, p1, X1, Y1, E1, a1, zCls0_cg h0 (fun a ha _ => a3 a ha), a2, a3, Or.inr ⟨_, v1, rfl⟩, v2, a4⟩
theorem zFK_fc (h : zFc m m') : zFK m m' := fun a ha => h a (by omega)
theorem z_32 (a : Nat) : nI a * 32 = nI (a * 32) := by
  rw [show (32 : Int32) = nI 32 from rfl, pk_mul]
theorem z_32' (a : Nat) : (32 : Int32) * nI a = nI (32 * a) := by
  rw [show (32 : Int32) = nI 32 from rfl, pk_mul]
theorem z_8 (a : Nat) : nI a * 8 = nI (a * 8) := by
  rw [show (8 : Int32) = nI 8 from rfl, pk_mul]
theorem z_8' (a : Nat) : (8 : Int32) * nI a = nI (8 * a) := by
  rw [show (8 : Int32) = nI 8 from rfl, pk_mul]
theorem z_96' (a : Nat) : (96 : Int32) * nI a = nI (96 * a) := by
  rw [show (96 : Int32) = nI 96 from rfl, pk_mul]
theorem f_value9 (s : ax_S) : fn_X9_value (some 9) x y z v w s = fb_X9_value_33 (some 9) x y z v w (zB ((0 ≤ z ∧ z ≤ 7) ∧ (0 ≤ v ∧ v ≤ 3) ∧ (0 ≤ w ∧ w ≤ 2))) s := by
  unfold fn_X9_value fb_X9_value_32
  rw [f_isIn, Option.bind_some]
  by_cases h1 : 0 ≤ z ∧ z ≤ 7
  · rw [zB_t h1]
    dsimp only
    rw [if_neg (by decide), f_isIn, Option.bind_some]
    by_cases h2 : 0 ≤ v ∧ v ≤ 3
    · rw [zB_t h2]
      dsimp only
      rw [if_neg (by decide), f_isChannel, Option.bind_some]
      by_cases h3 : 0 ≤ w ∧ w ≤ 2
      · rw [zB_t h3]
        dsimp only
        rw [if_neg (by decide), zB_t ⟨h1, h2, h3⟩]
      · rw [zB_f h3]
        dsimp only
        rw [if_pos rfl, zB_f (fun q => h3 q.2.2)]
    · rw [zB_f h2]
      dsimp only
      rw [if_pos rfl, zB_f (fun q => h2 q.2.1)]
  · rw [zB_f h1]
    dsimp only
    rw [if_pos rfl, zB_f (fun q => h1 q.1)]
theorem f_value_no (hg : m 10 1 = nI N) {b : Int32} (h : ¬ ((0 ≤ x ∧ x ≤ nI N - 1) ∧ (0 ≤ y ∧ y ≤ 99) ∧ b ≠ 0)) : fb_X9_value_33 (some 9) x y z v w b (zC n m p) = some (-1001, zC n m p) := by
  unfold fb_X9_value_33
  rw [z_cr, show zR p 9 0 = some 10 from rfl, Option.bind_some, z_gs, Option.bind_some, f_has z10 hg, Option.bind_some]
  by_cases h1 : 0 ≤ x ∧ x ≤ nI N - 1
  · rw [zB_t h1]
    dsimp only
    rw [if_neg (by decide), f_isFrame, Option.bind_some]
    by_cases h2 : 0 ≤ y ∧ y ≤ 99
    · rw [zB_t h2]
      dsimp only
      rw [if_neg (by decide)]
      by_cases h3 : b = 0
      · rw [if_pos h3]
      · exact absurd ⟨h1, h2, h3⟩ h
    · rw [zB_f h2]
      dsimp only
      rw [if_pos rfl]
  · rw [zB_f h1]
    dsimp only
    rw [if_pos rfl]
end CALLS7
