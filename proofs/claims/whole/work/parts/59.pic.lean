/-! ===== the model asks: the pile of nodes that wait ===== -/
/-- t rounds of the loop lead from m to m' -/
def zRun (n : Nat) (a1 : Int32) (f : Nat) (p : Nat → Nat) (t : Nat) (m m' : Nat → Nat → Int32) : Prop := ∀ fu, fb_X10_picture_11 (fu + t) (some 275) a1 (nI f) (zC n m p) = fb_X10_picture_11 fu (some 275) a1 (nI f) (zC n m' p)
def zTop (m : Nat → Nat → Int32) (w x j : Nat) : Prop := m 275 18 = nI (w + 1) ∧ m 288 w = nI x ∧ m 289 w = nI j
section PIC
variable {n N f U0 x j w s t fu d : Nat} {a1 : Int32} {m m1 m2 m3 : Nat → Nat → Int32} {p X Y : Nat → Nat} {C : zSt} {V : Nat → Nat → Int32}
theorem zRun_tr (h1 : zRun n a1 f p s m1 m2) (h2 : zRun n a1 f p t m2 m3) : zRun n a1 f p (s + t) m1 m3 := fun fu => by
  rw [show fu + (s + t) = (fu + t) + s by omega, h1, h2]
theorem f_pic_un (hOK : zOK N V) (hG : zGM m N V) (hM : zMT m) (hx : x < N) (hw : w < 13) (h : zTop m w x j) : fb_X10_picture_11 (fu + 1) (some 275) a1 (nI f) (zC n m p) = fb_X10_picture_83 (fb_X10_picture_11 fu) (some 275) a1 (nI f) (nI x) (nI j) (nI (zmany V x f)) (zC n m p) := by
  have hN := hOK.1
  obtain ⟨h18, h288, h289⟩ := h
  obtain ⟨kd, hkd, hv⟩ := z_kind hOK hx
  have hkind : m 276 (1 + 10 * x) = nI kd := (hG.2.1 x 0 hx (by omega)).trans hv
  have hmt : ax_al (zC n m p) 9 (some 285) (nI kd) = some (nI (zin kd)) := by
    rw [z_al (t := 9) (a := 285) (by omega) rfl (by exact hkd) (by omega), (hM kd hkd).1]
  have hz : (V x 0).toNatClampNeg = kd := by rw [hv, nI_clamp (by omega)]
  have hzin := (zin_lt kd hkd).1
  conv => lhs; unfold fb_X10_picture_11
  rw [z_m1, h18, Option.bind_some, if_neg (nI_nle (by omega) (by omega)), z_m16, Option.bind_some, Option.bind_some, nI_pred, z_a8 hw, h288, Option.bind_some, z_m17, Option.bind_some, Option.bind_some, nI_pred, z_a89 hw, h289, Option.bind_some, z_mo 0, Option.bind_some, f_mrange hG hN hx, Option.bind_some]
  by_cases hir : zir V x (nI f)
  · rw [zB_t (show V x 1 ≤ nI f ∧ nI f ≤ V x 2 from hir)]
    dsimp only
    rw [if_neg (by decide), z_m13, Option.bind_some, z_mo 0, Option.bind_some, f_mkind (by omega), hkind, Option.bind_some]
    dsimp only
    rw [hmt, Option.bind_some]
    unfold zmany
    rw [if_pos hir, hz]
  · rw [zB_f (show ¬ (V x 1 ≤ nI f ∧ nI f ≤ V x 2) from hir)]
    dsimp only
    rw [if_pos rfl, z_m13, Option.bind_some, z_mo 0, Option.bind_some, f_mkind (by omega), hkind, Option.bind_some]
    dsimp only
    rw [hmt, Option.bind_some]
    unfold zmany
    rw [if_neg hir, hz]
    by_cases h0 : zin kd = 0
    · rw [h0, if_pos (by decide)]
      rfl
    · rw [if_neg (nI_nle (by omega) (by omega)), show min 1 (zin kd) = 1 by omega]
      rfl
section K11
variable {k11 : Option Nat → Int32 → Int32 → ax_S → Option (Int32 × ax_S)} {M : Nat}
theorem f_83n (hN : N ≤ 12) (hG : zGM m N V) (hx : x < N) (hw : w < 13) (h : zTop m w x j) (hj : j < M) (hM : M ≤ 3) (hn : V x (3 + j) = -1005) : fb_X10_picture_83 k11 (some 275) a1 (nI f) (nI x) (nI j) (nI M) (zC n m p) = k11 (some 275) a1 (nI f) (zC n (ax_u2 m 289 w (nI (j + 1))) p) := by
  obtain ⟨h18, h288, h289⟩ := h
  have hz : zI V x j = -1005 := hn
  have hG' : zGM (ax_u2 m 289 w (nI (j + 1))) N V := zGM_fr hG (zu2_row (by omega))
  unfold fb_X10_picture_83
  rw [if_neg (nI_ge hj (by omega)), z_m17, Option.bind_some, z_m1, h18, Option.bind_some, nI_pred, z_a89 hw, h289, Option.bind_some, nI_1, z_s89 hw, Option.bind_some, z_mr, show zR p 275 0 = some 276 from rfl, Option.bind_some]
  unfold fn_X10_at
  rw [Option.bind_some]
  dsimp only
  rw [z_vin hG' hN hx (by omega), hz, Option.bind_some, if_pos (by decide)]
theorem f_83s {y : Nat} (hN : N ≤ 12) (hG : zGM m N V) (hx : x < N) (hy : y < N) (hw : w < 13) (h : zTop m w x j) (hj : j < M) (hM : M ≤ 3) (hn : V x (3 + j) = nI y) : fb_X10_picture_83 k11 (some 275) a1 (nI f) (nI x) (nI j) (nI M) (zC n m p) = (fn_X10_asks (some 275) (nI y) (nI f) (zC n (ax_u2 m 289 w (nI (j + 1))) p)).bind fun q15 => k11 (some 275) a1 (nI f) q15 := by
  obtain ⟨h18, h288, h289⟩ := h
  have hz : zI V x j = nI y := hn
  have hG' : zGM (ax_u2 m 289 w (nI (j + 1))) N V := zGM_fr hG (zu2_row (by omega))
  unfold fb_X10_picture_83
  rw [if_neg (nI_ge hj (by omega)), z_m17, Option.bind_some, z_m1, h18, Option.bind_some, nI_pred, z_a89 hw, h289, Option.bind_some, nI_1, z_s89 hw, Option.bind_some, z_mr, show zR p 275 0 = some 276 from rfl, Option.bind_some]
  unfold fn_X10_at
  rw [Option.bind_some]
  dsimp only
  rw [z_vin hG' hN hx (by omega), hz, Option.bind_some, if_neg (nI_pos (by omega)), z_mo 0, Option.bind_some]
theorem f_83m (hj : M ≤ j) (hj2 : j < 2 ^ 31) (hmk : fn_X10_makes (some 275) (nI x) (nI f) (zC n m p) = some (zC n m2 p)) (h18 : m2 275 18 = nI (w + 1)) : fb_X10_picture_83 k11 (some 275) a1 (nI f) (nI x) (nI j) (nI M) (zC n m p) = k11 (some 275) a1 (nI f) (zC n (ax_u2 m2 275 18 (nI w)) p) := by
  unfold fb_X10_picture_83
  rw [if_pos (nI_le hj hj2), z_mo 0, Option.bind_some, hmk, Option.bind_some, z_m1, h18, Option.bind_some, nI_pred, z_m2, Option.bind_some]
end K11
theorem zht_wt (c : Nat → Nat) (e : Nat) : ∀ i, 1 ≤ i → i < 8 → zWt (zhtC (va_up c 8 e)) w i = zhtC (zWt c w) i := by
  intro i h1 h2
  have hc : i = 1 ∨ i = 2 ∨ i = 3 ∨ i = 4 ∨ i = 5 ∨ i = 6 ∨ i = 7 := by omega
  rcases hc with rfl | rfl | rfl | rfl | rfl | rfl | rfl <;> simp [zhtC, zWt, va_up]
theorem zT1_wt (c : Nat → Nat) (e : Nat) : ∀ i, 1 ≤ i → i < 8 → zWt (va_up c 8 e) (w + 1) i = va_up (zWt c w) 5 (zWt c w 5 + 1) i := by
  intro i h1 h2
  have hc : i = 1 ∨ i = 2 ∨ i = 3 ∨ i = 4 ∨ i = 5 ∨ i = 6 ∨ i = 7 := by omega
  rcases hc with rfl | rfl | rfl | rfl | rfl | rfl | rfl <;> simp [zWt, va_up]
  omega
theorem zWt_8 (c : Nat → Nat) (e : Nat) : ∀ i, 1 ≤ i → i < 8 → zWt (va_up c 8 e) w i = zWt c w i := by
  intro i h1 h2
  have hc : i = 1 ∨ i = 2 ∨ i = 3 ∨ i = 4 ∨ i = 5 ∨ i = 6 ∨ i = 7 := by omega
  rcases hc with rfl | rfl | rfl | rfl | rfl | rfl | rfl <;> simp [zWt, va_up]
theorem zin3_many {rec : Nat → zSt → zSt} (h : zmany V x f ≤ 3) : zin3 V f rec x C 3 = zin3 V f rec x C (zmany V x f) := by
  have hc : zmany V x f = 0 ∨ zmany V x f = 1 ∨ zmany V x f = 2 ∨ zmany V x f = 3 := by omega
  have e3 : ¬ 2 < zmany V x f → zin3 V f rec x C 3 = zin3 V f rec x C 2 := fun h => (zin3_s (i := 2)).trans (if_neg h)
  have e2 : ¬ 1 < zmany V x f → zin3 V f rec x C 2 = zin3 V f rec x C 1 := fun h => (zin3_s (i := 1)).trans (if_neg h)
  have e1 : ¬ 0 < zmany V x f → zin3 V f rec x C 1 = zin3 V f rec x C 0 := fun h => (zin3_s (i := 0)).trans (if_neg h)
  rcases hc with hc | hc | hc | hc
  · rw [e3 (by omega), e2 (by omega), e1 (by omega), hc]
  · rw [e3 (by omega), e2 (by omega), hc]
  · rw [e3 (by omega), hc]
  · rw [hc]
/-- asking for a lower node goes well -/
def zIHm (n N f U0 : Nat) (a1 : Int32) (p : Nat → Nat) (V : Nat → Nat → Int32) (rk : Nat → Nat) (d : Nat) : Prop := ∀ (y : Nat) (C : zSt) (m : Nat → Nat → Int32) (X Y : Nat → Nat) (w : Nat), y < N → rk y < d → w + d ≤ 13 → zI5 N f U0 C → C.2.1 y f = 0 → (zask V f d y C).1 1 < 2 ^ 31 → zMa m X Y C (w + 1) → zGM m N V → zMT m → zTop m w y 0 → ∃ m' X' Y', zRun n a1 f p ((zask V f d y C).1 8 - C.1 8) m m' ∧ zMa m' X' Y' (zask V f d y C) w ∧ zFp m m' ∧ m' 275 18 = nI w ∧ zBel w m m'
theorem f_pic_in {rk : Nat → Nat} (hOK : zOK N V) (hrk : zrkOK N V rk) (hx : x < N) (hf : f < 100) (IH : zIHm n N f U0 a1 p V rk d) (hr : rk x < d + 1) (hwd : w + (d + 1) ≤ 13) (hI : zI5 N f U0 C) (hG : zGM m N V) (hM : zMT m) (h : zMa m X Y C (w + 1)) (ht : zTop m w x 0) : ∀ j, j ≤ zmany V x f → (zin3 V f (zask V f d) x C j).1 1 < 2 ^ 31 →
    ∃ m' X' Y', zRun n a1 f p ((zin3 V f (zask V f d) x C j).1 8 - C.1 8) m m' ∧ zMa m' X' Y' (zin3 V f (zask V f d) x C j) (w + 1) ∧ zFp m m' ∧ zTop m' w x j ∧ zBel w m m' := by
  have hN := hOK.1
  have hm3 := zmany_le (f := f) hOK hx
  have hrec : zRecOK N f rk x (zask V f d) := fun U y C hy hyx h => zask_ok hOK hrk hf d y C hy (by omega) h
  intro j
  induction j with
  | zero =>
    intro _ _
    refine ⟨m, X, Y, ?_, h, zFp_rf, ht, fun _ _ => ⟨rfl, rfl⟩⟩
    rw [show (zin3 V f (zask V f d) x C 0).1 8 - C.1 8 = 0 from Nat.sub_self _]
    intro fu
    rfl
  | succ j ih =>
    intro hj hb
    obtain ⟨b, hb', q1, -⟩ := zin3_ok (f := f) (U0 := U0) (C := C) hOK hrk hx (hrec U0) hI j (by omega)
    have hg := (zin3_step (i := j) hOK hrk hx hrec (by omega) q1.1).2
    obtain ⟨m1, X1, Y1, r1, ma1, f1, t1, b1⟩ := ih (by omega) (by omega)
    have hs : zin3 V f (zask V f d) x C (j + 1) = zinp V (zask V f d) x j (zin3 V f (zask V f d) x C j) := zin3_s.trans (if_pos (by omega))
    rw [hs] at hb ⊢
    have hst := zinp_ok (i := j) hOK hrk hx (by omega) (hrec U0) q1.1
    generalize zin3 V f (zask V f d) x C j = Cj at *
    have h8 := q1.2.2.2.2.2.1
    have hG1 := zGM_fp hG f1
    have hM1 := zMT_fp hM f1
    have hw13 : w < 13 := by omega
    obtain ⟨e1, e2, e3, e8⟩ := zT1_c Cj
    have hstep := fun fu => f_pic_un (n := n) (p := p) (f := f) (a1 := a1) (fu := fu) hOK hG1 hM1 hx hw13 t1
    generalize hm2 : ax_u2 m1 289 w (nI (j + 1)) = m2
    have u2 : ∀ a, a ≠ 289 → m2 a = m1 a := fun a ha => by rw [← hm2]; exact zu2_row ha
    have fp2 : zFp m1 m2 := ⟨fun a ha => u2 a (by omega), fun k _ _ _ _ => by rw [u2 _ (by omega)]⟩
    have bl2 : zBel w m1 m2 := fun i hi => ⟨by rw [u2 _ (by omega)], by rw [← hm2, ax_u2_nk (by omega)]⟩
    have t2 : zTop m2 w x (j + 1) := ⟨by rw [u2 _ (by omega)]; exact t1.1, by rw [u2 _ (by omega)]; exact t1.2.1, by rw [← hm2, ax_u2_self]⟩
    have ma2 : zMa m2 X1 Y1 Cj (w + 1) := zMX_fr ma1 (fun a _ _ => u2 a (by omega)) (fun k _ => by rw [u2 _ (by omega)])
    rcases (hOK.2.1 x hx).2.2 j (by omega) with hn | ⟨y, hy, he⟩
    · have hn' : V x (3 + j) = -1005 := hn
      have hz : zinp V (zask V f d) x j Cj = zT1 Cj := by
        unfold zinp
        rw [if_pos hn']
      rw [hz]
      refine ⟨m2, X1, Y1, ?_, zMX_cc ma2 (zWt_8 _ _), zFp_tr f1 fp2, t2, zBel_tr b1 bl2⟩
      rw [show (zT1 Cj).1 8 - C.1 8 = (Cj.1 8 - C.1 8) + 1 by omega]
      refine zRun_tr r1 (fun fu => ?_)
      rw [hstep, f_83n hN hG1 hx hw13 t1 (by omega) hm3 hn', hm2]
    · have he' : V x (3 + j) = nI y := he
      have hyx := hrk.2 x y j hx hy (by omega) he
      have hz : zinp V (zask V f d) x j Cj = zask V f d y (zT1 Cj) := by
        unfold zinp
        rw [he', if_neg (nI_ne_none (by omega)), nI_clamp (by omega)]
      rw [hz] at hb hst ⊢
      have h88 : (zT1 Cj).1 8 ≤ (zask V f d y (zT1 Cj)).1 8 := by
        have := hst.1.2.2.2.2.2.1
        omega
      by_cases hk : Cj.2.1 y f ≠ 0
      · obtain ⟨d', hd'⟩ : ∃ d', d = d' + 1 := ⟨d - 1, by omega⟩
        have hzk : zask V f d y (zT1 Cj) = zhit (zT1 Cj) y f := by
          rw [hd']
          unfold zask
          rw [if_pos (show (zT1 Cj).2.1 y f ≠ 0 from hk)]
        rw [hzk]
        obtain ⟨m3, a1, a2, a3⟩ := f_masks_hit (n := n) (p := p) ma2 hk
        refine ⟨m3, X1, Y1, ?_, ?_, zFp_tr f1 (zFp_tr fp2 (zFp_fm a3)), ⟨by rw [a3.2 18 (by omega) (by omega) (by omega)]; exact t2.1, by rw [a3.1 _ (by omega)]; exact t2.2.1, by rw [a3.1 _ (by omega)]; exact t2.2.2⟩, zBel_tr b1 (zBel_tr bl2 (zBel_fm a3))⟩
        · have e9 : (zhit (zT1 Cj) y f).1 8 = (zT1 Cj).1 8 := by simp [zhit, zhtC, va_up]
          rw [show (zhit (zT1 Cj) y f).1 8 - C.1 8 = (Cj.1 8 - C.1 8) + 1 by omega]
          refine zRun_tr r1 (fun fu => ?_)
          rw [hstep, f_83s hN hG1 hx hy hw13 t1 (by omega) hm3 he', hm2, a1, Option.bind_some]
        · exact zMX_cc a2 (zht_wt _ _)
      · have hk0 : Cj.2.1 y f = 0 := by omega
        have hI1 : zI5 N f U0 (zT1 Cj) := by
          obtain ⟨⟨hU, hU0⟩, hkey, hfr, hE, hS, hR, hR2⟩ := q1.1
          exact ⟨⟨by rw [e1]; exact hU, by rw [e1]; exact hU0⟩, hkey, hfr, by rw [e2]; exact hE, by rw [e2, e3]; exact hS, by rw [e3]; exact hR, by rw [e3]; exact hR2⟩
        obtain ⟨m3, a1, a2, a3, a4, a5, a6, a7⟩ := f_masks_miss (n := n) (p := p) (w := w + 1) ma2 (show y < 2 ^ 31 by omega) (show f < 2 ^ 31 by omega) hk0 (by omega) t2.1
        obtain ⟨m4, X4, Y4, c1, c2, c3, c4, c5⟩ := IH y (zT1 Cj) m3 X1 Y1 (w + 1) hy (by omega) (by omega) hI1 hk0 hb (zMX_cc a2 (zT1_wt _ _)) (zGM_fp (zGM_fp hG1 fp2) a3) (zMT_fp (zMT_fp hM1 fp2) a3) ⟨a5, a6, by rw [a7]; exact nI_0.symm⟩
        have hb4 := zBel_tr a4 c5
        refine ⟨m4, X4, Y4, ?_, c2, zFp_tr f1 (zFp_tr fp2 (zFp_tr a3 c3)), ⟨c4, by rw [(hb4 w (by omega)).1]; exact t2.2.1, by rw [(hb4 w (by omega)).2]; exact t2.2.2⟩, zBel_tr b1 (zBel_tr bl2 (zBel_le hb4 (by omega)))⟩
        rw [show (zask V f d y (zT1 Cj)).1 8 - C.1 8 = (Cj.1 8 - C.1 8) + (1 + ((zask V f d y (zT1 Cj)).1 8 - (zT1 Cj).1 8)) by omega]
        refine zRun_tr r1 (zRun_tr (m2 := m3) (fun fu => ?_) c1)
        rw [hstep, f_83s hN hG1 hx hy hw13 t1 (by omega) hm3 he', hm2, a1, Option.bind_some]
theorem f_pic_rank {rk : Nat → Nat} (hOK : zOK N V) (hrk : zrkOK N V rk) (hf : f < 100) : ∀ d, zIHm n N f U0 a1 p V rk d := by
  intro d
  induction d with
  | zero => intro x C m X Y w hx h; omega
  | succ d ih =>
    intro x C m X Y w hx hr hwd hI hk hb h hG hM ht
    have hN := hOK.1
    have hm3 := zmany_le (f := f) hOK hx
    have hrec : zRecOK N f rk x (zask V f d) := fun U y C hy hyx h => zask_ok hOK hrk hf d y C hy (by omega) h
    have hz : zask V f (d + 1) x C = zadm (zin3 V f (zask V f d) x C 3) x f (zpc V x (nI f) (zw V (zin3 V f (zask V f d) x C 3) x f)) := by
      conv => lhs; unfold zask
      rw [if_neg (show ¬ C.2.1 x f ≠ 0 from fun q => q hk)]
    rw [hz] at hb ⊢
    obtain ⟨b, hb', q1, q2⟩ := zin3_ok (f := f) (U0 := U0) (C := C) hOK hrk hx (hrec U0) hI 3 (by omega)
    have hp := f_pic_in hOK hrk hx hf ih hr hwd hI hG hM h ht (zmany V x f) (Nat.le_refl _)
    rw [← zin3_many hm3] at hp
    generalize zin3 V f (zask V f d) x C 3 = C3 at *
    obtain ⟨cc1, cc3, cc8, cc2⟩ := zadm_c (C := C3) (x := x) (f := f) (zpc V x (nI f) (zw V C3 x f))
    obtain ⟨m1, X1, Y1, r1, ma1, f1, t1, b1⟩ := hp (by omega)
    have hk3 : C3.2.1 x f = 0 := by
      by_cases hz : C3.2.1 x f = 0
      · exact hz
      · have := (q1.2.2.1 x f hk hz).2
        omega
    have hG1 := zGM_fp hG f1
    have hM1 := zMT_fp hM f1
    have h8 := q1.2.2.2.2.2.1
    obtain ⟨m2, X2, Y2, a1, a2, a3⟩ := f_mmakes (n := n) (p := p) hOK hG1 hx hf q1.1 (by omega) ma1 hk3 (fun i hi hir => by
      rcases (hOK.2.1 x hx).2.2 i hi with hn | ⟨y, hy, he⟩
      · exact Or.inl hn
      · by_cases hm : i < zmany V x f
        · exact Or.inr ⟨y, hy, he, q2 i hi hm y hy he⟩
        · exact Or.inl (zmany_no hOK hx hi hm hir))
    have h18 : m2 275 18 = nI (w + 1) := by rw [a3.2 18 (by omega) (by omega) (by omega)]; exact t1.1
    generalize hm3' : ax_u2 m2 275 18 (nI w) = m3
    have u3 : ∀ a, a ≠ 275 → m3 a = m2 a := fun a ha => by rw [← hm3']; exact zu2_row ha
    have u3k : ∀ k, k ≠ 18 → m3 275 k = m2 275 k := fun k hk => by rw [← hm3', ax_u2_nk hk]
    refine ⟨m3, X2, Y2, ?_, zMX_fr a2 (fun a _ _ => u3 a (by omega)) (fun k hk => u3k k (by omega)), zFp_tr f1 (zFp_tr (zFp_fm a3) ⟨fun a ha => u3 a (by omega), fun k _ _ _ hk => u3k k hk⟩), by rw [← hm3', ax_u2_self], zBel_tr b1 (zBel_tr (zBel_fm a3) (fun i hi => by rw [u3 _ (by omega), u3 _ (by omega)]; exact ⟨rfl, rfl⟩))⟩
    rw [show (zadm C3 x f (zpc V x (nI f) (zw V C3 x f))).1 8 - C.1 8 = (C3.1 8 - C.1 8) + 1 by omega]
    refine zRun_tr r1 (fun fu => ?_)
    rw [f_pic_un hOK hG1 hM1 hx (by omega) t1, f_83m (Nat.le_refl _) (by omega) a1 h18, hm3']
/-- the model asks for a picture -/
theorem f_picture (hOK : zOK N V) (hx : x < N) (hf : f < 100) (hI : zI5 N f U0 C) (hb : (zask V f 12 x C).1 1 < 2 ^ 31) (h : zMa m X Y C 0) (hG : zGM m N V) (hM : zMT m) : ∃ m' X' Y' j, fn_X10_picture (some 275) (nI x) (nI f) (zC n m p) = some (nI j, zC n m' p) ∧ j < (zask V f 12 x C).1 2 ∧ X' j = x ∧ Y' j = f ∧ zMa m' X' Y' (zask V f 12 x C) 0 ∧ zFp m m' := by
  obtain ⟨rk, hrk⟩ := zrk_ex hOK
  have hN := hOK.1
  have hrx := hrk.1 x hx
  obtain ⟨z1, z2, z3, z4, z5, z6, z7, z8⟩ := zask_ok hOK hrk hf 12 x C hx (by omega) hI
  have hcn := zcn_le (K := (zask V f 12 x C).2.1) (U0 := U0) (f := f) 12
  have hkx : (zask V f 12 x C).2.1 x f ≠ 0 := by omega
  generalize hm0 : ax_u2 m 275 18 (nI 0) = m0
  have u0 : ∀ a, a ≠ 275 → m0 a = m a := fun a ha => by rw [← hm0]; exact zu2_row ha
  have u0k : ∀ k, k ≠ 18 → m0 275 k = m 275 k := fun k hk => by rw [← hm0, ax_u2_nk hk]
  have fp0 : zFp m m0 := ⟨fun a ha => u0 a (by omega), fun k _ _ _ hk => u0k k hk⟩
  have ma0 : zMa m0 X Y C 0 := zMX_fr h (fun a _ _ => u0 a (by omega)) (fun k hk => u0k k (by omega))
  have h0 : fn_X10_picture (some 275) (nI x) (nI f) (zC n m p) = (fn_X10_asks (some 275) (nI x) (nI f) (zC n m0 p)).bind fun q40 => fb_X10_picture_11 10000 (some 275) (nI x) (nI f) q40 := by
    unfold fn_X10_picture
    rw [show (0 : Int32) = nI 0 from nI_0.symm, z_m2, hm0, Option.bind_some, z_mo 0, Option.bind_some]
  have hend : ∀ (m1 : Nat → Nat → Int32) (X1 Y1 : Nat → Nat) (t : Nat), t < 10000 → m1 275 18 = nI 0 → zMa m1 X1 Y1 (zask V f 12 x C) 0 → zFp m m1 → (∃ m2, fn_X10_asks (some 275) (nI x) (nI f) (zC n m0 p) = some (zC n m2 p) ∧ zRun n (nI x) f p t m2 m1) → ∃ m' X' Y' j, fn_X10_picture (some 275) (nI x) (nI f) (zC n m p) = some (nI j, zC n m' p) ∧ j < (zask V f 12 x C).1 2 ∧ X' j = x ∧ Y' j = f ∧ zMa m' X' Y' (zask V f 12 x C) 0 ∧ zFp m m' := by
    intro m1 X1 Y1 t ht h18 ma1 fp1 hr
    obtain ⟨m2, r1, r2⟩ := hr
    obtain ⟨j, j1, j2, j3, j4, -⟩ := f_mfindK (n := n) (p := p) ma1 hkx
    refine ⟨m1, X1, Y1, j, ?_, by have := (zWt_c (zask V f 12 x C).1 0).2.1; omega, j2, j3, ma1, fp1⟩
    rw [h0, r1, Option.bind_some, show (10000 : Nat) = (9999 - t + 1) + t by omega, r2]
    unfold fb_X10_picture_11
    rw [z_m1, h18, Option.bind_some, if_pos (by decide), z_mo 0, Option.bind_some, j4, Option.bind_some]
  by_cases hk : C.2.1 x f ≠ 0
  · have hzk : zask V f 12 x C = zhit C x f := by
      unfold zask
      rw [if_pos hk]
    obtain ⟨m3, a1, a2, a3⟩ := f_masks_hit (n := n) (p := p) ma0 hk
    refine hend m3 X Y 0 (by omega) (by rw [a3.2 18 (by omega) (by omega) (by omega), ← hm0, ax_u2_self]) ?_ (zFp_tr fp0 (zFp_fm a3)) ⟨m3, a1, fun fu => rfl⟩
    rw [hzk]
    refine zMX_cc a2 (fun i h1 h2 => ?_)
    have hc : i = 1 ∨ i = 2 ∨ i = 3 ∨ i = 4 ∨ i = 5 ∨ i = 6 ∨ i = 7 := by omega
    rcases hc with rfl | rfl | rfl | rfl | rfl | rfl | rfl <;> simp [zhit, zhtC, zWt, va_up]
  · have hk0 : C.2.1 x f = 0 := by omega
    obtain ⟨m3, a1, a2, a3, a4, a5, a6, a7⟩ := f_masks_miss (n := n) (p := p) (w := 0) ma0 (show x < 2 ^ 31 by omega) (show f < 2 ^ 31 by omega) hk0 (by omega) (by rw [← hm0, ax_u2_self])
    have hG3 := zGM_fp (zGM_fp hG fp0) a3
    have hM3 := zMT_fp (zMT_fp hM fp0) a3
    obtain ⟨m4, X4, Y4, c1, c2, c3, c4, c5⟩ := f_pic_rank (n := n) (p := p) (a1 := nI x) hOK hrk hf 12 x C m3 X Y 0 hx (by omega) (by omega) hI hk0 hb (zMX_cc a2 (fun i h1 h2 => by
      have hc : i = 1 ∨ i = 2 ∨ i = 3 ∨ i = 4 ∨ i = 5 ∨ i = 6 ∨ i = 7 := by omega
      rcases hc with rfl | rfl | rfl | rfl | rfl | rfl | rfl <;> simp [zWt, va_up])) hG3 hM3 ⟨a5, a6, by rw [a7]; exact nI_0.symm⟩
    exact hend m4 X4 Y4 _ (by omega) c4 c2 (zFp_tr fp0 (zFp_tr a3 c3)) ⟨m3, a1, c1⟩
end PIC
