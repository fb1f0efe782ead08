/-! ===== the class asks ===== -/
def zCa (m : Nat → Nat → Int32) (p X Y : Nat → Nat) (C : zSt) (E : Nat → Nat → Nat) : Prop := zCX m p X Y C.1 C.2.1 C.2.2 E
def zEnv (m : Nat → Nat → Int32) (N : Nat) (V : Nat → Nat → Int32) : Prop := zGC m 10 N V ∧ ∀ k, k < 96 → m 192 k = 0
def zFc (m m' : Nat → Nat → Int32) : Prop := ∀ a, a < 51 ∨ 149 ≤ a → m' a = m a
theorem zEnv_fc {m m' : Nat → Nat → Int32} {N : Nat} {V : Nat → Nat → Int32} (hN : N ≤ 12) (h : zEnv m N V) (hf : zFc m m') : zEnv m' N V := ⟨zGC_f1 h.1 hN (fun a ha => hf a (Or.inl ha)), fun k hk => by rw [hf 192 (Or.inr (by omega))]; exact h.2 k hk⟩
theorem zFc_tr {m1 m2 m3 : Nat → Nat → Int32} (h1 : zFc m1 m2) (h2 : zFc m2 m3) : zFc m1 m3 := fun a ha => (h2 a ha).trans (h1 a ha)
theorem zrk_ex {N : Nat} {V : Nat → Nat → Int32} (h : zOK N V) : ∃ rk, zrkOK N V rk := by
  have h0 : ∀ i : Nat, ∃ t : Nat, i < N → t < N ∧ zord N V t = i := by
    intro i
    by_cases hi : i < N
    · obtain ⟨t, ht⟩ := zord_sur h hi
      exact ⟨t, fun _ => ht⟩
    · exact ⟨0, fun q => absurd q hi⟩
  obtain ⟨g, hg⟩ := Classical.axiomOfChoice h0
  refine ⟨g, fun i hi => (hg i hi).1, fun i j k hi hj hk e => ?_⟩
  obtain ⟨a1, a2⟩ := hg i hi
  obtain ⟨b1, b2⟩ := hg j hj
  rw [← a2] at e
  obtain ⟨s, hs, es⟩ := zord_top h a1 hj hk e
  by_cases hsg : g j = s
  · omega
  · exfalso
    rcases Nat.lt_or_gt_of_ne hsg with q | q
    · exact zord_inj h q (by omega) (b2.trans es.symm)
    · exact zord_inj h q b1 (es.trans b2.symm)
section CASK
variable {n N f U0 x e : Nat} {m : Nat → Nat → Int32} {p X Y : Nat → Nat} {E : Nat → Nat → Nat} {C : zSt} {V : Nat → Nat → Int32}
theorem zCX_8 {c : Nat → Nat} {K E : Nat → Nat → Nat} {W : Nat → Nat → Nat → Int32} {t : Nat} (h : zCX m p X Y c K W E) : zCX m p X Y (va_up c 8 t) K W E := by
  obtain ⟨h1, h2, h3, h4⟩ := h
  refine ⟨h1, fun i a b => by rw [va_up_ne _ _ (by omega)]; exact h2 i a b, ?_, ?_⟩
  · rw [va_up_ne _ _ (by omega)]; exact h3
  · rw [va_up_ne _ _ (by omega)]; exact h4
theorem zCX_val {c : Nat → Nat} {K E : Nat → Nat → Nat} {W : Nat → Nat → Nat → Int32} {y g : Nat} (h : zCX m p X Y c K W E) (hk : K y g ≠ 0) : E y g < 48 ∧ ∀ k, k < 96 → m (54 + 2 * E y g) k = W y g k := by
  obtain ⟨hp, hc, h48, hP⟩ := h
  obtain ⟨j, hj, rfl, rfl⟩ := hP.2.2 y g hk
  obtain ⟨a1, a2, a3, a4, a5, a6, a7, a8⟩ := hP.1 j hj
  rw [← a7]
  exact ⟨hp.1 j (by omega), a8⟩
theorem f_ask_none {sa : Option Nat → Int32 → Int32 → Int32 → ax_S → Option (Option Nat × ax_S)} {y z : Int32} (hm : m 10 1 = nI N) : fo_X9_ask sa (some 9) (-1005) y z (zC n m p) = some (some 192, zC n m p) := by
  unfold fo_X9_ask
  rw [z_cr, show zR p 9 0 = some 10 from rfl, Option.bind_some, z_gs, Option.bind_some, f_has z10 hm, Option.bind_some, zB_f (fun q => absurd q.1 (by decide))]
  dsimp only
  rw [if_pos rfl, z_cr, show zR p 9 5 = some 192 from rfl, Option.bind_some]
/-- what an array stands for -/
def zRef (N f U0 : Nat) (V : Nat → Nat → Int32) (C : zSt) (E : Nat → Nat → Nat) (x i r : Nat) : Prop := (V x (3 + i) = -1005 ∧ r = 192) ∨ ∃ y, y < N ∧ V x (3 + i) = nI y ∧ U0 < C.2.1 y f ∧ r = 54 + 2 * E y f
/-- the new picture is let in and painted -/
theorem f_fin {sa : Option Nat → Int32 → Int32 → Int32 → ax_S → Option (Option Nat × ax_S)} {r0 r1 r2 : Nat} (hOK : zOK N V) (hx : x < N) (hf : f < 100) (hI : zI5 N f U0 C) (hb : C.1 1 < 2 ^ 31) (hc : zCa m p X Y C E) (hv : zEnv m N V) (hk : C.2.1 x f = 0) (h0 : zRef N f U0 V C E x 0 r0) (h12 : zir V x (nI f) → zRef N f U0 V C E x 1 r1 ∧ zRef N f U0 V C E x 2 r2) :
    ∃ m' p' X' Y' E', fb_X9_make_87 sa (some 9) (some (10 + 5 + 3 * x)) (nI x) (nI f) (zB (V x 1 ≤ nI f ∧ nI f ≤ V x 2)) (some r0) (some r1) (some r2) (zC n m p) = some (some (54 + 2 * E' x f), zC n m' p') ∧ zCa m' p' X' Y' (zadm C x f (zpc V x (nI f) (zw V C x f))) E' ∧ zFc m m' ∧ ∀ y, U0 < C.2.1 y f → E' y f = E y f := by
  have hN := hOK.1
  have hper := (zadm_ok (u := fun _ => 0) hI hN hx hf hk (fun k _ => ⟨0, by omega, rfl⟩)).2.2.1
  obtain ⟨⟨hU, hU0⟩, hkey, hfr, hE, hS, hR, hR2⟩ := hI
  obtain ⟨m1, p1, X1, Y1, q, hq, a1, a2, a3, a4⟩ := f_admit (n := n) (x := x) (y := f) hc hU hb hk (by omega) hf (by omega) hR2
  have hv1 := zEnv_fc hN hv (show zFc m m1 from a3)
  have hne : ∀ y, U0 < C.2.1 y f → y ≠ x := fun y hy z => by rw [z, hk] at hy; omega
  have hEn : ∀ y, U0 < C.2.1 y f → ax_u2 E x f q y f = E y f := fun y hy => if_neg (fun z => hne y hy z.1)
  have hxf : ax_u2 E x f q x f = q := ax_u2_self
  obtain ⟨hb1, hb2⟩ := zGB_node (p := p1) z10 (show x < 12 by omega)
  obtain ⟨b9, b1, t0, t1, t2, q3, q4⟩ := zNB_ok (n := n) (p := p1) hb1
  have hrow : ∀ i r, zRef N f U0 V C E x i r → zRow r ∧ r ≠ 54 + 2 * q ∧ ∀ k, k < 96 → m1 r k = zw V C x f i k := by
    intro i r hr
    rcases hr with ⟨g1, rfl⟩ | ⟨y, g1, g2, g3, rfl⟩
    · refine ⟨Or.inl rfl, by omega, fun k hk => ?_⟩
      rw [hv1.2 k hk]
      unfold zw
      rw [if_pos g1]
    · have gK : ax_u2 (zroK C.1 C.2.1) x f (C.1 1 + 1) y f ≠ 0 := by
        rw [show ax_u2 (zroK C.1 C.2.1) x f (C.1 1 + 1) y f = zroK C.1 C.2.1 y f from if_neg (fun z => hne y g3 z.1)]
        exact hper y g3
      obtain ⟨w1, w2⟩ := zCX_val a2 gK
      rw [hEn y g3] at w1 w2
      refine ⟨Or.inr ⟨_, w1, rfl⟩, fun z => a4 y f (hper y g3) (by omega), fun k hk => ?_⟩
      rw [w2 k hk]
      unfold zw
      rw [g2, if_neg (nI_ne_none (by omega)), nI_clamp (by omega)]
      exact congrFun (show ax_u2 C.2.2 x f _ y f = C.2.2 y f from if_neg (fun z => hne y g3 z.1)) k
  have hro : zRow (54 + 2 * q) := Or.inr ⟨q, hq, rfl⟩
  obtain ⟨o1, o2, o3, o4⟩ := zRow_ok (n := n) hro
  -- what is painted
  have hpaint : ∃ m2, (fb_X9_make_87 sa (some 9) (some (10 + 5 + 3 * x)) (nI x) (nI f) (zB (V x 1 ≤ nI f ∧ nI f ≤ V x 2)) (some r0) (some r1) (some r2) (zC n m p) = some (some (54 + 2 * q), zC n m2 p1)) ∧ (∀ a, a ≠ 54 + 2 * q → m2 a = m1 a) ∧ ∀ k, k < 96 → m2 (54 + 2 * q) k = zpc V x (nI f) (zw V C x f) k := by
    obtain ⟨s1, s2, s3⟩ := hrow 0 r0 h0
    unfold fb_X9_make_87
    rw [z_cr, show zR p 9 1 = some 51 from rfl, Option.bind_some, z_cs, Option.bind_some, a1, Option.bind_some]
    dsimp only
    by_cases hir : zir V x (nI f)
    · obtain ⟨u1, u2, u3⟩ := hrow 1 r1 (h12 hir).1
      obtain ⟨v1, v2, v3⟩ := hrow 2 r2 (h12 hir).2
      obtain ⟨m2, e1, e2, e3⟩ := f_paint (n := n) (p := p1) (m := m1) (V := V) (x := x) (f := nI f) (w := zw V C x f) hb1 (by omega) s1 u1 v1 hro s2 u2 v2 (zOK_par hOK hx) (hv1.1.2.1 x 0 hx (by omega)) (fun q hq => hv1.1.2.2.2 x q hx hq) (fun k hk => ⟨s3 k hk, u3 k hk, v3 k hk⟩)
      refine ⟨m2, ?_, e2, fun k hk => ?_⟩
      · rw [zB_t (show V x 1 ≤ nI f ∧ nI f ≤ V x 2 from hir), if_neg (by decide), z_p3 hq, Option.bind_some, e1, Option.bind_some, z_p3 hq, Option.bind_some]
      · rw [e3 k hk]
        unfold zpc
        rw [if_pos hir]
    · obtain ⟨k1, k2, k3, k4⟩ := zRow_ok (n := n) s1
      have hcy := z_cy (n := n) (p := p1) (m := m1) (a := r0) (d := 54 + 2 * q) (l := 96) k2 k1 o2 o1 s2 (by rw [k3]) (by rw [o3]) (by rw [k3]; exact Nat.le_refl _) (by rw [o3]; exact Nat.le_refl _) (by omega)
      refine ⟨fun c j => if c = 54 + 2 * q then (if j < 96 then m1 r0 j else m1 (54 + 2 * q) j) else m1 c j, ?_, fun a ha => ?_, fun k hk => ?_⟩
      · rw [zB_f (show ¬ (V x 1 ≤ nI f ∧ nI f ≤ V x 2) from hir), if_pos rfl, z_p3 hq, Option.bind_some, show (96 : Int32) = nI 96 from rfl, hcy, Option.bind_some, z_p3 hq, Option.bind_some]
      · funext j
        exact if_neg ha
      · show (if 54 + 2 * q = 54 + 2 * q then (if k < 96 then m1 r0 k else _) else _) = _
        rw [if_pos rfl, if_pos hk, s3 k hk]
        unfold zpc
        rw [if_neg hir]
  obtain ⟨m2, e1, e2, e3⟩ := hpaint
  have hK' : ax_u2 (zroK C.1 C.2.1) x f (C.1 1 + 1) x f ≠ 0 := by rw [ax_u2_self]; omega
  have hw := zCX_w (m' := m2) (w := zpc V x (nI f) (zw V C x f)) a2 hK' (by rw [hxf]; exact e2) (by rw [hxf]; exact e3)
  have hW2 : ax_u2 (ax_u2 C.2.2 x f (fun k => m1 (54 + 2 * q) k)) x f (zpc V x (nI f) (zw V C x f)) = ax_u2 C.2.2 x f (zpc V x (nI f) (zw V C x f)) := by
    funext a b
    unfold ax_u2
    split <;> rfl
  rw [hW2] at hw
  exact ⟨m2, p1, X1, Y1, ax_u2 E x f q, by rw [hxf]; exact e1, zCX_8 hw, fun a ha => by rw [e2 a (by omega)]; exact a3 a ha, hEn⟩
/-- asking for a lower node goes well -/
def zIH (n N f U0 e : Nat) (V : Nat → Nat → Int32) (sa : Option Nat → Int32 → Int32 → Int32 → ax_S → Option (Option Nat × ax_S)) (rec : Nat → zSt → zSt) (P : Nat → Prop) : Prop := (∀ m p, m 10 1 = nI N → sa (some 9) (-1005) (nI f) (nI (e + 1)) (zC n m p) = some (some 192, zC n m p)) ∧
  ∀ y, y < N → P y → ∀ C m p X Y E, zI5 N f U0 C → (rec y C).1 1 < 2 ^ 31 → zCa m p X Y C E → zEnv m N V → ∃ m' p' X' Y' E', sa (some 9) (nI y) (nI f) (nI (e + 1)) (zC n m p) = some (some (54 + 2 * E' y f), zC n m' p') ∧ zCa m' p' X' Y' (rec y C) E' ∧ zFc m m' ∧ ∀ z, U0 < C.2.1 z f → E' z f = E z f
theorem f_inp {sa : Option Nat → Int32 → Int32 → Int32 → ax_S → Option (Option Nat × ax_S)} {rec : Nat → zSt → zSt} {rk : Nat → Nat} {i : Nat} {C0 : zSt} (hOK : zOK N V) (hrk : zrkOK N V rk) (hx : x < N) (hi : i < 3) (hir : i = 0 ∨ zir V x (nI f)) (hrec : ∀ y C, y < N → rk y < rk x → zI5 N f U0 C → zR5 N f U0 rk y C (rec y C)) (hIH : zIH n N f U0 e V sa rec (fun y => rk y < rk x)) (hC : C = zin3 V f rec x C0 i) (hI : zI5 N f U0 C) (hb : (zin3 V f rec x C0 (i + 1)).1 1 < 2 ^ 31) (hc : zCa m p X Y C E) (hv : zEnv m N V) :
    ∃ m' p' X' Y' E' r, sa (some 9) (V x (3 + i)) (nI f) (nI (e + 1)) (zC n m p) = some (some r, zC n m' p') ∧ zCa m' p' X' Y' (zin3 V f rec x C0 (i + 1)) E' ∧ zFc m m' ∧ (∀ z, U0 < C.2.1 z f → E' z f = E z f) ∧ zRef N f U0 V (zin3 V f rec x C0 (i + 1)) E' x i r := by
  have hN := hOK.1
  have hz : zin3 V f rec x C0 (i + 1) = if i < zmany V x f then zinp V rec x i C else C := by
    rw [hC]
    rfl
  rw [hz] at hb ⊢
  rcases (hOK.2.1 x hx).2.2 i hi with hn | ⟨j, hj, he⟩
  · have hn' : V x (3 + i) = -1005 := hn
    refine ⟨m, p, X, Y, E, 192, by rw [hn']; exact hIH.1 m p hv.1.1, ?_, fun _ _ => rfl, fun _ _ => rfl, Or.inl ⟨hn', rfl⟩⟩
    split
    · unfold zinp
      rw [if_pos hn']
      exact zCX_8 hc
    · exact hc
  · have he' : V x (3 + i) = nI j := he
    have hm : i < zmany V x f := by
      by_cases hm : i < zmany V x f
      · exact hm
      · have := zmany_no hOK hx hi hm hir
        rw [he'] at this
        exact absurd this (nI_ne_none (by omega))
    rw [if_pos hm] at hb ⊢
    obtain ⟨z1, z2⟩ := zinp_ok (i := i) hOK hrk hx hi hrec hI
    have hzi : zinp V rec x i C = rec j (zT1 C) := by
      unfold zinp
      rw [he', if_neg (nI_ne_none (by omega)), nI_clamp (by omega)]
    have hI1 : zI5 N f U0 (zT1 C) := by
      obtain ⟨e1, e2, e3, e8⟩ := zT1_c C
      obtain ⟨⟨hU, hU0⟩, hkey, hfr, hE, hS, hR, hR2⟩ := hI
      exact ⟨⟨by rw [e1]; exact hU, by rw [e1]; exact hU0⟩, hkey, hfr, by rw [e2]; exact hE, by rw [e2, e3]; exact hS, by rw [e3]; exact hR, by rw [e3]; exact hR2⟩
    obtain ⟨m1, p1, X1, Y1, E1, a1, a2, a3, a4⟩ := hIH.2 j hj (hrk.2 x j i hx hj hi he) (zT1 C) m p X Y E hI1 (by rw [← hzi]; exact hb) (zCX_8 hc) hv
    refine ⟨m1, p1, X1, Y1, E1, 54 + 2 * E1 j f, by rw [he']; exact a1, by rw [hzi]; exact a2, a3, a4, Or.inr ⟨j, hj, he', z2 j hj he', rfl⟩⟩
theorem z_gi9 : ax_sh (zC n m p) 6 (some 9) = some (9, 6) := z_sh (by omega) rfl
theorem z_nin {i : Nat} (hv : zEnv m N V) (hN : N ≤ 12) (hx : x < N) (hi : i < 3) : (ax_gr (zC n m p) 2 3 (some (10 + 5 + 3 * x)) = some (some (10 + 5 + 3 * x + 1))) ∧ ax_al (zC n m p) 9 (some (10 + 5 + 3 * x + 1)) (nI i) = some (V x (3 + i)) := by
  obtain ⟨hb1, hb2⟩ := zGB_node (p := p) z10 (show x < 12 by omega)
  obtain ⟨b9, b1, t0, t1, t2, q3, q4⟩ := zNB_ok (n := n) (p := p) hb1
  exact ⟨by rw [z_gr (by omega) (by rw [t0]), q3], by rw [z_al (by omega) (by rw [t1]) (by rw [t1]; exact hi) (by omega), hv.1.2.2.1 x i hx hi]⟩
theorem z_g22 (hv : zEnv m N V) (hN : N ≤ 12) (hx : x < N) : ax_gi (zC n m p) 2 1 (some (10 + 5 + 3 * x)) = some (V x 1) ∧ ax_gi (zC n m p) 2 2 (some (10 + 5 + 3 * x)) = some (V x 2) := by
  obtain ⟨hb1, hb2⟩ := zGB_node (p := p) z10 (show x < 12 by omega)
  obtain ⟨b9, b1, t0, t1, t2, q3, q4⟩ := zNB_ok (n := n) (p := p) hb1
  exact ⟨by rw [z_gi (by omega) (by rw [t0]), hv.1.2.1 x 1 hx (by omega)], by rw [z_gi (by omega) (by rw [t0]), hv.1.2.1 x 2 hx (by omega)]⟩
theorem z_eta {α β : Type} (o : Option (α × β)) : (o.bind fun q => some (q.1, q.2)) = o := by
  cases o <;> rfl
/-- what asking does where the picture isn't kept -/
theorem f_ask_miss {sa : Option Nat → Int32 → Int32 → Int32 → ax_S → Option (Option Nat × ax_S)} (hN : N ≤ 12) (hx : x < N) (hf : f < 100) (he : e < 12) (hc : zCa m p X Y C E) (hv : zEnv m N V) (hk : C.2.1 x f = 0) : fo_X9_ask sa (some 9) (nI x) (nI f) (nI e) (zC n m p) = (sa (some 9) (V x (3 + 0)) (nI f) (nI (e + 1)) (zC n m p)).bind fun q36 =>
    if zB (V x 1 ≤ nI f ∧ nI f ≤ V x 2) = 0 then (ax_gr q36.2 6 5 (some 9)).bind fun r38 => fb_X9_make_58 sa (some 9) (some (10 + 5 + 3 * x)) (nI x) (nI f) (nI e) (zB (V x 1 ≤ nI f ∧ nI f ≤ V x 2)) q36.1 r38 q36.2
    else (ax_gr q36.2 2 3 (some (10 + 5 + 3 * x))).bind fun r39 => (ax_al q36.2 9 r39 1).bind fun x40 => (ax_sh q36.2 6 (some 9)).bind fun w41 => (sa (some 9) x40 (nI f) (nI e + 1) q36.2).bind fun q42 => fb_X9_make_58 sa (some 9) (some (10 + 5 + 3 * x)) (nI x) (nI f) (nI e) (zB (V x 1 ≤ nI f ∧ nI f ≤ V x 2)) q36.1 q42.1 q42.2 := by
  obtain ⟨i1, i2⟩ := z_nin (n := n) (p := p) (i := 0) hv hN hx (by omega)
  obtain ⟨g1, g2⟩ := z_g22 (n := n) (p := p) hv hN hx
  rw [nI_0] at i2
  unfold fo_X9_ask
  rw [z_cr, show zR p 9 0 = some 10 from rfl, Option.bind_some, z_gs, Option.bind_some, f_has z10 hv.1.1, Option.bind_some, zB_t ⟨z_pos (by omega), z_le_pred (by omega) hx⟩]
  dsimp only
  rw [if_neg (show ¬ (1 : Int32) = 0 by decide), if_pos (show nI e < (12 : Int32) from nI_lt (b := 12) he (by omega)), z_cr, show zR p 9 1 = some 51 from rfl, Option.bind_some, z_cs, Option.bind_some, f_find0 hc (by omega) (by omega) hk, Option.bind_some]
  dsimp only
  rw [if_pos rfl, z_cr, show zR p 9 0 = some 10 from rfl, Option.bind_some, z_gr0, show zR p 10 0 = some (10 + 1) from rfl, Option.bind_some, z_nodes z10 (by omega), Option.bind_some, z_gi9, Option.bind_some, z_eta]
  unfold fo_X9_make
  rw [g1, Option.bind_some, g2, Option.bind_some, f_isIn, Option.bind_some]
  dsimp only
  rw [i1, Option.bind_some, i2, Option.bind_some, z_gi9, Option.bind_some, nI_1]
end CASK
