/-! ===== the class asks: by rank ===== -/
section CASK2
variable {n N f U0 x e : Nat} {m : Nat → Nat → Int32} {p X Y : Nat → Nat} {E : Nat → Nat → Nat} {C : zSt} {V : Nat → Nat → Int32}
theorem zRef_mono {C C' : zSt} {E E' : Nat → Nat → Nat} {i r : Nat} (h : zRef N f U0 V C E x i r) (h1 : ∀ y, U0 < C.2.1 y f → U0 < C'.2.1 y f) (h2 : ∀ y, U0 < C.2.1 y f → E' y f = E y f) : zRef N f U0 V C' E' x i r := by
  rcases h with h | ⟨y, a, b, c, d⟩
  · exact Or.inl h
  · exact Or.inr ⟨y, a, b, h1 y c, by rw [h2 y c]; exact d⟩
theorem z_cr5 : ax_gr (zC n m p) 6 5 (some 9) = some (some 192) := by
  rw [z_cr]
  rfl
theorem zI5_self (h : zI5 N f U0 C) : zI5 N f (C.1 1) C := by
  obtain ⟨⟨hU, hU0⟩, hkey, hfr, hE, hS, hR, hR2⟩ := h
  exact ⟨⟨hU, Nat.le_refl _⟩, hkey, fun y g hy => absurd (hU.1 y g) (Nat.not_le.mpr hy), hE, hS, hR, hR2⟩
def zRecOK (N f : Nat) (rk : Nat → Nat) (x : Nat) (rec : Nat → zSt → zSt) : Prop := ∀ U y C, y < N → rk y < rk x → zI5 N f U C → zR5 N f U rk y C (rec y C)
theorem zin3_s {rec : Nat → zSt → zSt} {i : Nat} : zin3 V f rec x C (i + 1) = if i < zmany V x f then zinp V rec x i (zin3 V f rec x C i) else zin3 V f rec x C i := rfl
theorem zin3_step {rec : Nat → zSt → zSt} {rk : Nat → Nat} {i : Nat} (hOK : zOK N V) (hrk : zrkOK N V rk) (hx : x < N) (hrec : zRecOK N f rk x rec) (hi : i < 3) (h : zI5 N f U0 (zin3 V f rec x C i)) : (∀ y, U0 < (zin3 V f rec x C i).2.1 y f → U0 < (zin3 V f rec x C (i + 1)).2.1 y f) ∧ (zin3 V f rec x C i).1 1 ≤ (zin3 V f rec x C (i + 1)).1 1 := by
  rw [zin3_s]
  by_cases hm : i < zmany V x f
  · rw [if_pos hm]
    exact ⟨fun y hy => ((zinp_ok (i := i) hOK hrk hx hi (hrec U0) h).1.2.1 y hy).1, (zinp_ok (i := i) hOK hrk hx hi (hrec _) (zI5_self h)).1.1.1.2⟩
  · rw [if_neg hm]
    exact ⟨fun y hy => hy, Nat.le_refl _⟩
theorem f_ask_step {sa : Option Nat → Int32 → Int32 → Int32 → ax_S → Option (Option Nat × ax_S)} {rec : Nat → zSt → zSt} {rk : Nat → Nat} (hOK : zOK N V) (hrk : zrkOK N V rk) (hx : x < N) (hf : f < 100) (he : e < 12) (hrec : zRecOK N f rk x rec) (hIH : zIH n N f U0 e V sa rec (fun y => rk y < rk x)) (hI : zI5 N f U0 C) (hk : C.2.1 x f = 0)
    (hb : (zadm (zin3 V f rec x C 3) x f (zpc V x (nI f) (zw V (zin3 V f rec x C 3) x f))).1 1 < 2 ^ 31) (hc : zCa m p X Y C E) (hv : zEnv m N V) :
    ∃ m' p' X' Y' E', fo_X9_ask sa (some 9) (nI x) (nI f) (nI e) (zC n m p) = some (some (54 + 2 * E' x f), zC n m' p') ∧ zCa m' p' X' Y' (zadm (zin3 V f rec x C 3) x f (zpc V x (nI f) (zw V (zin3 V f rec x C 3) x f))) E' ∧ zFc m m' ∧ ∀ z, U0 < C.2.1 z f → E' z f = E z f := by
  have hN := hOK.1
  obtain ⟨b1, hb1, q1, -⟩ := zin3_ok (f := f) (U0 := U0) (C := C) hOK hrk hx (hrec U0) hI 1 (by omega)
  obtain ⟨b2, hb2, q2, -⟩ := zin3_ok (f := f) (U0 := U0) (C := C) hOK hrk hx (hrec U0) hI 2 (by omega)
  obtain ⟨b3, hb3, q3, -⟩ := zin3_ok (f := f) (U0 := U0) (C := C) hOK hrk hx (hrec U0) hI 3 (by omega)
  have hk3 : (zin3 V f rec x C 3).2.1 x f = 0 := by
    by_cases hz : (zin3 V f rec x C 3).2.1 x f = 0
    · exact hz
    · have := (q3.2.2.1 x f hk hz).2
      omega
  obtain ⟨k0, g0⟩ := zin3_step (i := 0) hOK hrk hx hrec (by omega) hI
  obtain ⟨k1, g1⟩ := zin3_step (i := 1) hOK hrk hx hrec (by omega) q1.1
  obtain ⟨k2, g2⟩ := zin3_step (i := 2) hOK hrk hx hrec (by omega) q2.1
  have g1 : (zin3 V f rec x C 1).1 1 ≤ (zin3 V f rec x C 2).1 1 := g1
  have g2 : (zin3 V f rec x C 2).1 1 ≤ (zin3 V f rec x C 3).1 1 := g2
  have cc := (zadm_c (C := zin3 V f rec x C 3) (x := x) (f := f) (zpc V x (nI f) (zw V (zin3 V f rec x C 3) x f))).1
  rw [cc] at hb
  obtain ⟨m1, p1, X1, Y1, E1, r0, a1, a2, a3, a4, a5⟩ := f_inp (i := 0) (C0 := C) hOK hrk hx (by omega) (Or.inl rfl) (hrec U0) hIH (show C = zin3 V f rec x C 0 from rfl) hI (show (zin3 V f rec x C 1).1 1 < 2 ^ 31 by omega) hc hv
  have hv1 := zEnv_fc hN hv a3
  rw [f_ask_miss hN hx hf he hc hv hk, a1, Option.bind_some]
  dsimp only
  by_cases hir : zir V x (nI f)
  · have hz : ¬ zB (V x 1 ≤ nI f ∧ nI f ≤ V x 2) = 0 := by
      rw [zB_t (show V x 1 ≤ nI f ∧ nI f ≤ V x 2 from hir)]
      decide
    obtain ⟨m2, p2, X2, Y2, E2, r1, b1, b2, b3, b4, b5⟩ := f_inp (i := 1) (C0 := C) hOK hrk hx (by omega) (Or.inr hir) (hrec U0) hIH (show zin3 V f rec x C 1 = zin3 V f rec x C 1 from rfl) q1.1 (show (zin3 V f rec x C 2).1 1 < 2 ^ 31 by omega) a2 hv1
    have hv2 := zEnv_fc hN hv1 b3
    obtain ⟨m3, p3, X3, Y3, E3, r2, c1, c2, c3, c4, c5⟩ := f_inp (i := 2) (C0 := C) hOK hrk hx (by omega) (Or.inr hir) (hrec U0) hIH (show zin3 V f rec x C 2 = zin3 V f rec x C 2 from rfl) q2.1 (show (zin3 V f rec x C 3).1 1 < 2 ^ 31 by omega) b2 hv2
    have hv3 := zEnv_fc hN hv2 c3
    obtain ⟨i1, i2⟩ := z_nin (n := n) (p := p1) (i := 1) hv1 hN hx (by omega)
    have i2 : ax_al (zC n m1 p1) 9 (some (10 + 5 + 3 * x + 1)) 1 = some (V x (3 + 1)) := i2
    obtain ⟨j1, j2⟩ := z_nin (n := n) (p := p2) (i := 2) hv2 hN hx (by omega)
    have j2 : ax_al (zC n m2 p2) 9 (some (10 + 5 + 3 * x + 1)) 2 = some (V x (3 + 2)) := j2
    rw [if_neg hz, i1, Option.bind_some, i2, Option.bind_some, z_gi9, Option.bind_some, nI_1, b1, Option.bind_some]
    dsimp only
    unfold fb_X9_make_58
    rw [if_neg hz, j1, Option.bind_some, j2, Option.bind_some, z_gi9, Option.bind_some, nI_1, c1, Option.bind_some]
    dsimp only
    obtain ⟨m4, p4, X4, Y4, E4, d1, d2, d3, d4⟩ := f_fin (n := n) (sa := sa) (r0 := r0) (r1 := r1) (r2 := r2) hOK hx hf q3.1 (by omega) c2 hv3 hk3 (zRef_mono a5 (fun y hy => k2 y (k1 y hy)) (fun y hy => (c4 y (k1 y hy)).trans (b4 y hy))) (fun _ => ⟨zRef_mono b5 k2 c4, c5⟩)
    exact ⟨m4, p4, X4, Y4, E4, d1, d2, zFc_tr (zFc_tr (zFc_tr a3 b3) c3) d3, fun z hz0 => (d4 z (k2 z (k1 z (k0 z hz0)))).trans ((c4 z (k1 z (k0 z hz0))).trans ((b4 z (k0 z hz0)).trans (a4 z hz0)))⟩
  · have hz : zB (V x 1 ≤ nI f ∧ nI f ≤ V x 2) = 0 := zB_f hir
    have hm1 : zmany V x f ≤ 1 := by
      unfold zmany
      rw [if_neg hir]
      exact Nat.min_le_left _ _
    have e2 : zin3 V f rec x C 2 = zin3 V f rec x C 1 := (zin3_s (i := 1)).trans (if_neg (by omega))
    have e3 : zin3 V f rec x C 3 = zin3 V f rec x C 1 := ((zin3_s (i := 2)).trans (if_neg (by omega))).trans e2
    rw [if_pos hz, z_cr5, Option.bind_some]
    unfold fb_X9_make_58
    rw [if_pos hz, z_cr5, Option.bind_some]
    rw [e3] at hk3 ⊢
    obtain ⟨m4, p4, X4, Y4, E4, d1, d2, d3, d4⟩ := f_fin (n := n) (sa := sa) (r0 := r0) (r1 := 192) (r2 := 192) hOK hx hf q1.1 (show (zin3 V f rec x C 1).1 1 < 2 ^ 31 by omega) a2 hv1 hk3 a5 (fun h => absurd h hir)
    exact ⟨m4, p4, X4, Y4, E4, d1, d2, zFc_tr a3 d3, fun z hz0 => (d4 z (k0 z hz0)).trans (a4 z hz0)⟩
theorem f_ask_hit {sa : Option Nat → Int32 → Int32 → Int32 → ax_S → Option (Option Nat × ax_S)} (hN : N ≤ 12) (hx : x < N) (he : e < 12) (hc : zCa m p X Y C E) (hv : zEnv m N V) (hk : C.2.1 x f ≠ 0) : ∃ m', fo_X9_ask sa (some 9) (nI x) (nI f) (nI e) (zC n m p) = some (some (54 + 2 * E x f), zC n m' p) ∧ zCa m' p X Y (zhit C x f) E ∧ zFc m m' := by
  obtain ⟨m1, a1, a2, a3⟩ := f_hit (n := n) hc hk
  have hE := (zCX_val hc hk).1
  refine ⟨m1, ?_, a2, a3⟩
  unfold fo_X9_ask
  rw [z_cr, show zR p 9 0 = some 10 from rfl, Option.bind_some, z_gs, Option.bind_some, f_has z10 hv.1.1, Option.bind_some, zB_t ⟨z_pos (by omega), z_le_pred (by omega) hx⟩]
  dsimp only
  rw [if_neg (show ¬ (1 : Int32) = 0 by decide), if_pos (show nI e < (12 : Int32) from nI_lt (b := 12) he (by omega)), z_cr, show zR p 9 1 = some 51 from rfl, Option.bind_some, z_cs, Option.bind_some, f_find1 hc hk, Option.bind_some]
  dsimp only
  rw [if_neg (by simp), z_cr, show zR p 9 1 = some 51 from rfl, Option.bind_some, z_cs, Option.bind_some, a1, Option.bind_some, z_p3 hE, Option.bind_some]
theorem f_ask_rank {rk : Nat → Nat} (hOK : zOK N V) (hrk : zrkOK N V rk) (hf : f < 100) (k : Nat) : ∀ (d e x : Nat) (C : zSt) (m : Nat → Nat → Int32) (p X Y : Nat → Nat) (E : Nat → Nat → Nat), x < N → rk x < d → e + d ≤ 12 → zI5 N f U0 C → (zask V f d x C).1 1 < 2 ^ 31 → zCa m p X Y C E → zEnv m N V →
    ∃ m' p' X' Y' E', fr_X9_ask (d + (k + 1)) (some 9) (nI x) (nI f) (nI e) (zC n m p) = some (some (54 + 2 * E' x f), zC n m' p') ∧ zCa m' p' X' Y' (zask V f d x C) E' ∧ zFc m m' ∧ ∀ z, U0 < C.2.1 z f → E' z f = E z f := by
  intro d
  induction d with
  | zero => intro e x C m p X Y E _ h; omega
  | succ d ih =>
    intro e x C m p X Y E hx hr hed hI hb hc hv
    have hfr : fr_X9_ask (d + 1 + (k + 1)) (some 9) (nI x) (nI f) (nI e) (zC n m p) = fo_X9_ask (fr_X9_ask (d + (k + 1))) (some 9) (nI x) (nI f) (nI e) (zC n m p) := by
      rw [show d + 1 + (k + 1) = (d + (k + 1)) + 1 by omega]
      rfl
    rw [hfr]
    unfold zask at hb ⊢
    by_cases hk : C.2.1 x f ≠ 0
    · rw [if_pos hk] at hb ⊢
      obtain ⟨m1, a1, a2, a3⟩ := f_ask_hit (sa := fr_X9_ask (d + (k + 1))) (n := n) (e := e) hOK.1 hx (by omega) hc hv hk
      exact ⟨m1, p, X, Y, E, a1, a2, a3, fun z _ => rfl⟩
    · rw [if_neg hk] at hb ⊢
      refine f_ask_step hOK hrk hx hf (by omega) (fun U y C hy hyx h => zask_ok hOK hrk hf d y C hy (by omega) h) ⟨fun m p h1 => ?_, fun y hy hyx C m p X Y E h1 h2 h3 h4 => ?_⟩ hI (by omega) hb hc hv
      · rw [show d + (k + 1) = (d + k) + 1 by omega]
        exact f_ask_none h1
      · exact ih (e + 1) y C m p X Y E hy (by have h5 : rk y < rk x := hyx; omega) (by omega) h1 h2 h3 h4
/-- the class asks for a picture -/
theorem f_ask (hOK : zOK N V) (hx : x < N) (hf : f < 100) (hI : zI5 N f U0 C) (hb : (zask V f 12 x C).1 1 < 2 ^ 31) (hc : zCa m p X Y C E) (hv : zEnv m N V) : ∃ m' p' X' Y' E', fn_X9_ask (some 9) (nI x) (nI f) 0 (zC n m p) = some (some (54 + 2 * E' x f), zC n m' p') ∧ zCa m' p' X' Y' (zask V f 12 x C) E' ∧ zFc m m' ∧ ∀ z, U0 < C.2.1 z f → E' z f = E z f := by
  obtain ⟨rk, hrk⟩ := zrk_ex hOK
  have hN := hOK.1
  exact f_ask_rank (k := 1) hOK hrk hf 12 0 x C m p X Y E hx (by have := hrk.1 x hx; omega) (by omega) hI hb hc hv
end CASK2
