/-! ===== calls: setRange, connect ===== -/
section CALLS6
variable {n N L B i k : Nat} {m m' : Nat → Nat → Int32} {p X Y c T : Nat → Nat} {V : Nat → Nat → Int32} {C : zSt} {E K : Nat → Nat → Nat} {W : Nat → Nat → Nat → Int32} {x y z : Int32} {S : Nat → Option (Nat × (Nat → Nat → Int32))}
theorem f_void10e (hG : zGM m N V) (hV : zOK N V) (hi : i < N) (h : zMa m X Y C 0) (a0 a1 b0 b1 : Int32) : ∃ m' X' Y' k, k ≤ C.1 2 ∧ fn_X10_voids (some 275) (nI i) a0 a1 b0 b1 (zC n m p) = some (nI (C.1 2 - k), zC n m' p) ∧ zMa m' X' Y' (zvoid C (zvm (zfd N V i N) a0 a1 b0 b1) k) 0 ∧ zE k (zKf C.2.1 (zvm (zfd N V i N) a0 a1 b0 b1)) ∧ zFm m m' := by
  rw [zMa_0] at h
  obtain ⟨m', X', Y', j, h1, h2, h3, h4⟩ := f_mvoid (n := n) (p := p) hG hV hi h a0 a1 b0 b1
  have hP := h3.2.2.2
  rw [va_up_ne (j := 2) _ _ (by omega), va_up_self] at hP
  exact ⟨m', X', Y', j, h1, h2, zMa_0.mpr h3, ⟨_, _, _, _, _, _, _, hP⟩, h4⟩
theorem zvoid_two {s o1 o2 f l : Int32} {k1 kk : Nat} (h1 : k1 ≤ C.1 2) (h2 : kk ≤ k1) (h : zMa m X Y (zvoid (zvoid C (zvm s o1 o2 f l) k1) (zvm s f l o1 o2) kk) 0) : zMa m X Y (zvoid C (zvb s o1 o2 f l) kk) 0 := by
  rw [zMa_0] at h ⊢
  have e : (zvoid C (zvb s o1 o2 f l) kk).2.1 = (zvoid (zvoid C (zvm s o1 o2 f l) k1) (zvm s f l o1 o2) kk).2.1 := (zKf_two C.2.1 s o1 o2 f l).symm
  rw [e]
  refine zMX_cc h (fun i hi1 hi2 => ?_)
  have hc : i = 1 ∨ i = 2 ∨ i = 3 ∨ i = 4 ∨ i = 5 ∨ i = 6 ∨ i = 7 := by omega
  rcases hc with rfl | rfl | rfl | rfl | rfl | rfl | rfl <;> simp [zvoid, va_up]
  omega
theorem c_setRange : zop n (fn_X9_setRange (some 9) x y z) (fn_X10_setRange (some 275) x y z) := zop_mk (fun m p A B h1 h2 h3 hB => by
  obtain ⟨⟨N, V⟩, C, ⟨L, T⟩, S⟩ := A
  obtain ⟨h10, X, Y, E, hc⟩ := id h1
  obtain ⟨a1, a2, a3, a4, a5, a6⟩ := id h3
  have hT := h10.1
  have hN := a1.1
  have hG := h10.2.1.2.1
  have hO := h10.2.1.2.2
  by_cases hx : 0 ≤ x ∧ x ≤ nI N - 1
  · obtain ⟨i, hi, rfl⟩ := z_inlt (by omega) hx.1 hx.2
    by_cases hy : 0 ≤ y ∧ y ≤ 99
    · by_cases hz : y ≤ z ∧ z ≤ 99
      · obtain ⟨f, hf, rfl⟩ := z_in (N := 99) (by omega) hy.1 hy.2
        obtain ⟨l, hl, rfl⟩ := z_in (N := 99) (by omega) (Int32.le_trans hy.1 hz.1) hz.2
        have hfl : f ≤ l := (nI_leI (by omega) (by omega)).mp hz.1
        obtain ⟨hb, -⟩ := zGB_node (p := p) z10 (show i < 12 by omega)
        obtain ⟨b9, b1, t0, t1, t2, q3, q4⟩ := zNB_ok (n := n) (p := p) hb
        have hV1 := zOK_rng (i := i) a1 hfl hl
        have hI1 : zSameI V (zVset (zVset V i 1 (nI f)) i 2 (nI l)) := fun a k hk => (zSameI_set (w := 2) (by omega) a k hk).trans (zSameI_set (w := 1) (by omega) a k hk)
        have e10 : (if (1 : Nat) < 3 then 0 else if 1 < 6 then 1 else 2) = 0 := rfl
        have e11 : (if (1 : Nat) < 3 then 1 else if 1 < 6 then 1 - 3 else 1 - 6) = 1 := rfl
        have e20 : (if (2 : Nat) < 3 then 0 else if 2 < 6 then 1 else 2) = 0 := rfl
        have e21 : (if (2 : Nat) < 3 then 2 else if 2 < 6 then 2 - 3 else 2 - 6) = 2 := rfl
        have hG0 : zGC (ax_u2 m (10 + 5 + 3 * i) 1 (nI f)) 10 N (zVset V i 1 (nI f)) := zGC_set hG hN hi (fun a b hne => by rw [e10, e11] at hne; exact if_neg hne) (by rw [e10, e11]; exact ax_u2_self) (by omega)
        have hG1 : zGC (ax_u2 (ax_u2 m (10 + 5 + 3 * i) 1 (nI f)) (10 + 5 + 3 * i) 2 (nI l)) 10 N (zVset (zVset V i 1 (nI f)) i 2 (nI l)) := zGC_set hG0 hN hi (fun a b hne => by rw [e20, e21] at hne; exact if_neg hne) (by rw [e20, e21]; exact ax_u2_self) (by omega)
        generalize hm0 : ax_u2 m (10 + 5 + 3 * i) 1 (nI f) = m0 at hG1
        generalize hm1 : ax_u2 m0 (10 + 5 + 3 * i) 2 (nI l) = m1 at hG1
        have e1 : ∀ a, a ≠ 10 + 5 + 3 * i → m1 a = m a := fun a ha => by rw [← hm1, zu2_row ha, ← hm0, zu2_row ha]
        have hO1 : zOC m1 10 N (zVset (zVset V i 1 (nI f)) i 2 (nI l)) := zOC_cg hO hI1 ⟨e1 _ (by omega), e1 _ (by omega), e1 _ (by omega)⟩
        generalize hV1e : zVset (zVset V i 1 (nI f)) i 2 (nI l) = V1 at hV1 hI1 hG1 hO1
        obtain ⟨m2, p2, X2, Y2, kk, k0, v1, v2, v3, v4⟩ := f_void9 (n := n) (zCX_fr (m' := m1) hc (fun a _ _ => e1 a (by omega))) (zfd N V1 i N) (V i 1) (V i 2) (nI f) (nI l)
        obtain ⟨i1, i2⟩ := zI5_void a2 k0 v3
        obtain ⟨f1, f2⟩ := zCls_ch h10 (fun a ha => e1 a (by omega)) v4 hN hG1 hO1
        refine ⟨nI (C.1 2 - kk), ((N, V1), zvoid C (zvb (zfd N V1 i N) (V i 1) (V i 2) (nI f) (nI l)) kk, (L, T), S), ⟨m2, p2, ?_, f1, f2, X2, Y2, E, v2⟩, fun m p h2 => ?_, hV1, i1, by rw [i2]; omega, a4, a5, a6⟩
        · unfold fn_X9_setRange
          rw [z_cr, show zR p 9 0 = some 10 from rfl, Option.bind_some, z_gs, Option.bind_some, f_has z10 hG.1, zB_t hx, Option.bind_some]
          dsimp only
          rw [if_neg (by decide), f_isFrame, zB_t hy, Option.bind_some]
          dsimp only
          rw [if_neg (by decide), f_isIn, zB_t hz, Option.bind_some]
          dsimp only
          rw [if_neg (by decide), z_cr, show zR p 9 0 = some 10 from rfl, Option.bind_some, z_gr0, show zR p 10 0 = some (10 + 1) from rfl, Option.bind_some, z_nodes z10 (by omega), Option.bind_some, z_gi (a := 10 + 5 + 3 * i) (t := 2) (k := 1) (by omega) (by rw [t0]), hG.2.1 i 1 hi (by omega), Option.bind_some, z_gi (a := 10 + 5 + 3 * i) (t := 2) (k := 2) (by omega) (by rw [t0]), hG.2.1 i 2 hi (by omega), Option.bind_some, z_pi (a := 10 + 5 + 3 * i) (t := 2) (by omega) (by rw [t0]), hm0, Option.bind_some, z_pi (a := 10 + 5 + 3 * i) (t := 2) (by omega) (by rw [t0]), hm1, Option.bind_some, z_cr, show zR p 9 1 = some 51 from rfl, Option.bind_some, z_cr, show zR p 9 0 = some 10 from rfl, Option.bind_some, z_gs, Option.bind_some, f_dependents z10 hG1 hN (fun t ht => (hO1.1 t ht).1) i, Option.bind_some]
          dsimp only
          rw [z_cs, Option.bind_some, v1, Option.bind_some]
        · obtain ⟨h20, X', Y', hm⟩ := h2
          have hGM := h20.2.1
          have hGM0 : zGM (ax_u2 m 276 (1 + 10 * i + 1) (nI f)) N (zVset V i 1 (nI f)) := zGM_set hGM hi (fun b hb => ax_u2_nk hb) ax_u2_self (by omega) (by omega)
          have hGM1 : zGM (ax_u2 (ax_u2 m 276 (1 + 10 * i + 1) (nI f)) 276 (1 + 10 * i + 2) (nI l)) N (zVset (zVset V i 1 (nI f)) i 2 (nI l)) := zGM_set hGM0 hi (fun b hb => ax_u2_nk hb) ax_u2_self (by omega) (by omega)
          rw [hV1e] at hGM1
          generalize hm30 : ax_u2 m 276 (1 + 10 * i + 1) (nI f) = m30 at hGM1
          generalize hm3 : ax_u2 m30 276 (1 + 10 * i + 2) (nI l) = m3 at hGM1
          have e3 : ∀ a, a ≠ 276 → m3 a = m a := fun a ha => by rw [← hm3, zu2_row ha, ← hm30, zu2_row ha]
          obtain ⟨m4, X4, Y4, k1, k1l, w1, w2, w3, w4⟩ := f_void10e (n := n) (p := p) hGM1 hV1 hi (zMX_fr (m' := m3) hm (fun a _ _ => e3 a (by omega)) (fun _ _ => by rw [e3 275 (by omega)])) (V i 1) (V i 2) (nI f) (nI l)
          have hGM4 := zGM_fr hGM1 (w4.1 276 (by omega))
          obtain ⟨m5, X5, Y5, k2, k2l, u1, u2, u3, u4⟩ := f_void10e (n := n) (p := p) hGM4 hV1 hi w2 (nI f) (nI l) (V i 1) (V i 2)
          have c12 : (zvoid C (zvm (zfd N V1 i N) (V i 1) (V i 2) (nI f) (nI l)) k1).1 2 = k1 := by simp [zvoid, va_up]
          rw [c12] at k2l u1
          have u3' : zE k2 (zKf C.2.1 (zvb (zfd N V1 i N) (V i 1) (V i 2) (nI f) (nI l))) := by
            rw [← zKf_two]
            exact u3
          obtain rfl : k2 = kk := zE_u v3 u3'
          obtain ⟨g1, g2⟩ := zMdl_ch h20 e3 (zFm_tr w4 u4) hGM1
          refine ⟨m5, ?_, g1, g2, X5, Y5, zvoid_two k1l k2l u2⟩
          unfold fn_X10_setRange
          rw [z_mo 0, Option.bind_some, f_mNode hGM.1, zB_t hx, Option.bind_some]
          dsimp only
          rw [if_neg (by decide), f_in, zB_t hy, Option.bind_some]
          dsimp only
          rw [if_neg (by decide), f_in, zB_t hz, Option.bind_some]
          dsimp only
          rw [if_neg (by decide), z_m0, Option.bind_some]
          unfold fn_X10_at
          rw [Option.bind_some]
          dsimp only
          rw [z_at1 (by omega), hGM.2.1 i 1 hi (by omega), Option.bind_some, z_m0, Option.bind_some, Option.bind_some]
          dsimp only
          rw [z_at2 (by omega), hGM.2.1 i 2 hi (by omega), Option.bind_some, z_m0, Option.bind_some, Option.bind_some]
          dsimp only
          rw [z_as1 (by omega), hm30, Option.bind_some, z_m0, Option.bind_some, Option.bind_some]
          dsimp only
          rw [z_as2 (by omega), hm3, Option.bind_some, z_mo 0, Option.bind_some, w1, Option.bind_some]
          dsimp only
          rw [z_mo 0, Option.bind_some, u1, Option.bind_some]
          dsimp only
          rw [nI_add, show C.1 2 - k1 + (k1 - k2) = C.1 2 - k2 by omega]
      · refine ⟨-1002, ((N, V), C, (L, T), S), ⟨m, p, ?_, zFK_rf, h1⟩, fun m p h2 => ⟨m, ?_, zFM_rf, h2⟩, zAbs_mono h3 (by omega)⟩
        · unfold fn_X9_setRange
          rw [z_cr, show zR p 9 0 = some 10 from rfl, Option.bind_some, z_gs, Option.bind_some, f_has z10 hG.1, zB_t hx, Option.bind_some]
          dsimp only
          rw [if_neg (by decide), f_isFrame, zB_t hy, Option.bind_some]
          dsimp only
          rw [if_neg (by decide), f_isIn, zB_f hz, Option.bind_some]
          dsimp only
          rw [if_pos rfl]
        · unfold fn_X10_setRange
          rw [z_mo 0, Option.bind_some, f_mNode h2.1.2.1.1, zB_t hx, Option.bind_some]
          dsimp only
          rw [if_neg (by decide), f_in, zB_t hy, Option.bind_some]
          dsimp only
          rw [if_neg (by decide), f_in, zB_f hz, Option.bind_some]
          dsimp only
          rw [if_pos rfl]
    · refine ⟨-1002, ((N, V), C, (L, T), S), ⟨m, p, ?_, zFK_rf, h1⟩, fun m p h2 => ⟨m, ?_, zFM_rf, h2⟩, zAbs_mono h3 (by omega)⟩
      · unfold fn_X9_setRange
        rw [z_cr, show zR p 9 0 = some 10 from rfl, Option.bind_some, z_gs, Option.bind_some, f_has z10 hG.1, zB_t hx, Option.bind_some]
        dsimp only
        rw [if_neg (by decide), f_isFrame, zB_f hy, Option.bind_some]
        dsimp only
        rw [if_pos rfl]
      · unfold fn_X10_setRange
        rw [z_mo 0, Option.bind_some, f_mNode h2.1.2.1.1, zB_t hx, Option.bind_some]
        dsimp only
        rw [if_neg (by decide), f_in, zB_f hy, Option.bind_some]
        dsimp only
        rw [if_pos rfl]
  · refine ⟨-1001, ((N, V), C, (L, T), S), ⟨m, p, ?_, zFK_rf, h1⟩, fun m p h2 => ⟨m, ?_, zFM_rf, h2⟩, zAbs_mono h3 (by omega)⟩
    · unfold fn_X9_setRange
      rw [z_cr, show zR p 9 0 = some 10 from rfl, Option.bind_some, z_gs, Option.bind_some, f_has z10 hG.1, zB_f hx, Option.bind_some]
      dsimp only
      rw [if_pos rfl]
    · unfold fn_X10_setRange
      rw [z_mo 0, Option.bind_some, f_mNode h2.1.2.1.1, zB_f hx, Option.bind_some]
      dsimp only
      rw [if_pos rfl])
/-- the range of frames that a new connection concerns -/
def zr0 (V : Nat → Nat → Int32) (i c : Nat) : Int32 := if c = 0 then 0 else V i 1
def zr1 (V : Nat → Nat → Int32) (i c : Nat) : Int32 := if c = 0 then 99 else V i 2
def zbc9 (N : Nat) (V : Nat → Nat → Int32) (i c : Nat) : Nat → Nat → Bool := zvb (zfd N V i N) (zr0 V i c) (zr1 V i c) 1 0
theorem zIlink {d : Nat} : ∀ b k, b ≠ i → k < 3 → zI (zVset V i (3 + d) x) b k = zI V b k := fun b k hb _ => ax_u2_ne hb _
theorem f_conn64 {d : Nat} (hT : zT m) (hG : zGC m 10 N V) (h : zOK N V) (hi : i < N) (hk : k < 7) (hV : V i 0 = nI k) (hd : d < zin k) (hd3 : d < 3) (hx : x = -1005 ∨ ∃ j, j < N ∧ x = nI j ∧ ¬ zdep N V i j) (hc : zCa m p X Y C E) : ∃ m' p' X' Y' kk, kk ≤ C.1 2 ∧ fb_X9_connect_64 (some 9) (nI i) (nI d) x (zfd N V i N) (zC n m p) = some (nI (C.1 2 - kk), zC n m' p') ∧ zCa m' p' X' Y' (zvoid C (zbc9 N V i d) kk) E ∧ zE kk (zKf C.2.1 (zbc9 N V i d)) ∧ (∀ a, a < 10 ∨ 149 ≤ a → m' a = m a) ∧ zGC m' 10 N (zVset V i (3 + d) x) ∧ zOC m' 10 N (zVset V i (3 + d) x) := by
  have hN := h.1
  obtain ⟨m1, l1, l2, l3, l4⟩ := f_link (n := n) (p := p) z10 hT hG h hi hk hV hd hd3 hx
  obtain ⟨m2, p2, X2, Y2, kk, k0, v1, v2, v3, v4⟩ := f_void9 (n := n) (zCX_fr (m' := m1) hc (fun a ha _ => l2 a (by omega))) (zfd N V i N) (zr0 V i d) (zr1 V i d) 1 0
  refine ⟨m2, p2, X2, Y2, kk, k0, ?_, v2, v3, fun a ha => by rw [v4 a (by omega), l2 a (by omega)], zGC_f1 l3 hN (fun a ha => v4 a (by omega)), zOC_f1 l4 (fun a ha => v4 a (by omega))⟩
  obtain ⟨hb, -⟩ := zGB_node (p := p) z10 (show i < 12 by omega)
  obtain ⟨b9, b1, t0, t1, t2, q3, q4⟩ := zNB_ok (n := n) (p := p) hb
  unfold fb_X9_connect_64
  rw [z_cr, show zR p 9 0 = some 10 from rfl, Option.bind_some, z_gs, Option.bind_some, l1, Option.bind_some]
  by_cases hd0 : d = 0
  · subst hd0
    have r0 : zr0 V i 0 = 0 := if_pos rfl
    have r1 : zr1 V i 0 = 99 := if_pos rfl
    rw [r0, r1] at v1
    rw [if_pos nI_0, z_cr, show zR p 9 1 = some 51 from rfl, Option.bind_some, z_cs, Option.bind_some, f_makeVoid, v1, Option.bind_some]
  · have r0 : zr0 V i d = V i 1 := if_neg hd0
    have r1 : zr1 V i d = V i 2 := if_neg hd0
    rw [r0, r1] at v1
    have g1 : m1 (10 + 5 + 3 * i) 1 = V i 1 := (l3.2.1 i 1 hi (by omega)).trans (ax_u2_nk (by omega))
    have g2 : m1 (10 + 5 + 3 * i) 2 = V i 2 := (l3.2.1 i 2 hi (by omega)).trans (ax_u2_nk (by omega))
    rw [if_neg (show ¬ nI d = 0 from nI_ne0 (by omega) (by omega)), z_cr, show zR p 9 0 = some 10 from rfl, Option.bind_some, z_gr0, show zR p 10 0 = some (10 + 1) from rfl, Option.bind_some, z_nodes z10 (by omega), Option.bind_some, z_cr, show zR p 9 1 = some 51 from rfl, Option.bind_some, z_gi (a := 10 + 5 + 3 * i) (t := 2) (k := 1) (by omega) (by rw [t0]), g1, Option.bind_some, z_gi (a := 10 + 5 + 3 * i) (t := 2) (k := 2) (by omega) (by rw [t0]), g2, Option.bind_some, z_cs, Option.bind_some, f_makeVoid, v1, Option.bind_some]
theorem f_conn52 {d kk : Nat} (hG : zGM m N V) (h : zOK N V) (h' : zOK N (zVset V i (3 + d) x)) (hi : i < N) (hd3 : d < 3) (hm : zMa m X Y C 0) (hE : zE kk (zKf C.2.1 (zbc9 N V i d))) : ∃ m1 m' X' Y', fb_X10_connect_52 (some 275) (nI i) (nI d) x (zC n m p) = some (nI (C.1 2 - kk), zC n m' p) ∧ zMa m' X' Y' (zvoid C (zbc9 N V i d) kk) 0 ∧ (∀ a, a ≠ 276 → m1 a = m a) ∧ zFm m1 m' ∧ zGM m1 N (zVset V i (3 + d) x) := by
  have hN := h.1
  have hGM1 : zGM (ax_u2 m 276 (1 + 10 * i + (3 + d)) x) N (zVset V i (3 + d) x) := zGM_set hG hi (fun b hb => ax_u2_nk hb) ax_u2_self (by omega) (by omega)
  generalize hm1 : ax_u2 m 276 (1 + 10 * i + (3 + d)) x = m1 at hGM1
  have e1 : ∀ a, a ≠ 276 → m1 a = m a := fun a ha => by rw [← hm1]; exact zu2_row ha
  obtain ⟨m2, X2, Y2, w1, w2, w3⟩ := f_void10 (n := n) (p := p) hGM1 h' hi (zMX_fr (m' := m1) hm (fun a _ _ => e1 a (by omega)) (fun _ _ => by rw [e1 275 (by omega)])) (zr0 V i d) (zr1 V i d) 1 0 (b := zbc9 N V i d) (by unfold zbc9; rw [zvb_vm, zfd_link h h' hi zIlink]) hE
  refine ⟨m1, m2, X2, Y2, ?_, w2, e1, w3, hGM1⟩
  unfold fb_X10_connect_52 fn_X10_at
  rw [z_m0, Option.bind_some, Option.bind_some]
  dsimp only
  rw [z_vis (by omega) hd3, hm1, Option.bind_some]
  by_cases hd0 : d = 0
  · subst hd0
    have r0 : zr0 V i 0 = 0 := if_pos rfl
    have r1 : zr1 V i 0 = 99 := if_pos rfl
    rw [r0, r1] at w1
    rw [if_pos nI_0, z_mo 0, Option.bind_some, w1, Option.bind_some]
  · have r0 : zr0 V i d = V i 1 := if_neg hd0
    have r1 : zr1 V i d = V i 2 := if_neg hd0
    rw [r0, r1] at w1
    have g1 : m1 276 (1 + 10 * i + 1) = V i 1 := (hGM1.2.1 i 1 hi (by omega)).trans (ax_u2_nk (by omega))
    have g2 : m1 276 (1 + 10 * i + 2) = V i 2 := (hGM1.2.1 i 2 hi (by omega)).trans (ax_u2_nk (by omega))
    rw [if_neg (show ¬ nI d = 0 from nI_ne0 (by omega) (by omega)), z_m0, Option.bind_some, Option.bind_some]
    dsimp only
    rw [z_at1 (by omega), g1, Option.bind_some, z_m0, Option.bind_some, Option.bind_some]
    dsimp only
    rw [z_at2 (by omega), g2, Option.bind_some, z_mo 0, Option.bind_some, w1, Option.bind_some]
theorem c_connect : zop n (fn_X9_connect (some 9) x y z) (fn_X10_connect (some 275) x y z) := zop_mk (fun m p A B h1 h2 h3 hB => by
  obtain ⟨⟨N, V⟩, C, ⟨L, T⟩, S⟩ := A
  obtain ⟨h10, X, Y, E, hc⟩ := id h1
  obtain ⟨a1, a2, a3, a4, a5, a6⟩ := id h3
  have hT := h10.1
  have hN := a1.1
  have hG := h10.2.1.2.1
  have hO := h10.2.1.2.2
  by_cases hx : 0 ≤ x ∧ x ≤ nI N - 1
  · obtain ⟨i, hi, rfl⟩ := z_inlt (by omega) hx.1 hx.2
    obtain ⟨k, hk, hv⟩ := z_kind a1 hi
    have hp3 := (zin_lt k hk).1
    obtain ⟨dep1, dep2⟩ := zfd_dep a1 hi
    by_cases hy : 0 ≤ y ∧ y ≤ nI (zin k) - 1
    · obtain ⟨d, hd, rfl⟩ := z_inlt (by omega) hy.1 hy.2
      -- where the connection is made
      have hgo : (z = -1005 ∨ ∃ j, j < N ∧ z = nI j ∧ ¬ zdep N V i j) → (∀ m p, zCls0 m N V L T S → fn_X9_connect (some 9) (nI i) (nI d) z (zC n m p) = fb_X9_connect_64 (some 9) (nI i) (nI d) z (zfd N V i N) (zC n m p)) → (∀ m p, zMdl0 m N V L T S → fn_X10_connect (some 275) (nI i) (nI d) z (zC n m p) = fb_X10_connect_52 (some 275) (nI i) (nI d) z (zC n m p)) → ∃ r A', (∃ m1 p1, fn_X9_connect (some 9) (nI i) (nI d) z (zC n m p) = some (r, zC n m1 p1) ∧ zFK m m1 ∧ zCls m1 p1 A') ∧ (∀ m p, zMdl m ((N, V), C, (L, T), S) → ∃ m2, fn_X10_connect (some 275) (nI i) (nI d) z (zC n m p) = some (r, zC n m2 p) ∧ zFM m m2 ∧ zMdl m2 A') ∧ zAbs (B + 100) A' := by
        intro hz hcl hml
        obtain ⟨m2, p2, X2, Y2, kk, k0, w1, w2, w3, w4, w5, w6⟩ := f_conn64 (n := n) hT hG a1 hi hk hv hd (by omega) hz hc
        have hV1 := zOK_link a1 hi (show d < 3 by omega) (fun k' hk' e => by
          have : k' = k := nI_inj (by omega) (by omega) (e.symm.trans hv)
          subst this
          exact hd) hz
        obtain ⟨i1, i2⟩ := zI5_void a2 k0 w3
        refine ⟨nI (C.1 2 - kk), ((N, zVset V i (3 + d) z), zvoid C (zbc9 N V i d) kk, (L, T), S), ⟨m2, p2, (hcl m p h10).trans w1, fun a ha => w4 a (by omega), zCls0_g h10 (fun a ha => w4 a (by omega)) hN w5 w6, X2, Y2, E, w2⟩, fun m p h2 => ?_, hV1, i1, by rw [i2]; omega, a4, a5, a6⟩
        obtain ⟨h20, X', Y', hm⟩ := h2
        obtain ⟨m3, m4, X4, Y4, u1, u2, u3, u4, u5⟩ := f_conn52 (n := n) (p := p) h20.2.1 a1 hV1 hi (by omega) hm w3
        obtain ⟨g1, g2⟩ := zMdl_ch h20 u3 u4 u5
        exact ⟨m4, (hml m p h20).trans u1, g1, g2, X4, Y4, u2⟩
      have hpre : ∀ m p, zCls0 m N V L T S → fn_X9_connect (some 9) (nI i) (nI d) z (zC n m p) = if z = -1005 then fb_X9_connect_34 (some 9) (nI i) (nI d) z (zC n m p) else if zB (0 ≤ z ∧ z ≤ nI N - 1) = 0 then some (-1001, zC n m p) else fb_X9_connect_34 (some 9) (nI i) (nI d) z (zC n m p) := by
        intro m p h
        unfold fn_X9_connect
        rw [z_cr, show zR p 9 0 = some 10 from rfl, Option.bind_some, z_gs, Option.bind_some, f_hasInput z10 h.1 h.2.1.2.1 hN hi hk hv, zB_t hy, Option.bind_some]
        dsimp only
        rw [if_neg (by decide), z_cr, show zR p 9 0 = some 10 from rfl, Option.bind_some, z_gs, Option.bind_some, f_has z10 h.2.1.2.1.1, Option.bind_some]
      have hprm : ∀ m p, zMdl0 m N V L T S → fn_X10_connect (some 275) (nI i) (nI d) z (zC n m p) = if z = -1005 then fb_X10_connect_28 (some 275) (nI i) (nI d) z (zC n m p) else if zB (0 ≤ z ∧ z ≤ nI N - 1) = 0 then some (-1001, zC n m p) else fb_X10_connect_28 (some 275) (nI i) (nI d) z (zC n m p) := by
        intro m p h
        unfold fn_X10_connect
        rw [z_mo 0, Option.bind_some, f_mInput h.1 h.2.1 hN hi hk hv, zB_t hy, Option.bind_some]
        dsimp only
        rw [if_neg (by decide), z_mo 0, Option.bind_some, f_mNode h.2.1.1, Option.bind_some]
      have h34 : ∀ m p, zCls0 m N V L T S → fb_X9_connect_34 (some 9) (nI i) (nI d) z (zC n m p) = if z = -1005 then fb_X9_connect_64 (some 9) (nI i) (nI d) z (zfd N V i N) (zC n m p) else if zB ((0 ≤ z ∧ z ≤ 11) ∧ (zfd N V i N >>> (z &&& 31)) &&& 1 = 1) = 0 then fb_X9_connect_64 (some 9) (nI i) (nI d) z (zfd N V i N) (zC n m p) else some (-1003, zC n m p) := by
        intro m p h
        unfold fb_X9_connect_34
        rw [z_cr, show zR p 9 0 = some 10 from rfl, Option.bind_some, z_gs, Option.bind_some, f_dependents z10 h.2.1.2.1 hN (fun t ht => (h.2.1.2.2.1 t ht).1) i, Option.bind_some]
        dsimp only
        rw [f_contains, Option.bind_some]
      have h28 : ∀ m p, zMdl0 m N V L T S → fb_X10_connect_28 (some 275) (nI i) (nI d) z (zC n m p) = if z = -1005 then fb_X10_connect_52 (some 275) (nI i) (nI d) z (zC n m p) else if (zfd N V i N >>> (z &&& 31)) &&& 1 = 1 then some (-1003, zC n m p) else fb_X10_connect_52 (some 275) (nI i) (nI d) z (zC n m p) := by
        intro m p h
        unfold fb_X10_connect_28
        rw [z_mo 0, Option.bind_some, f_mdep h.2.1 a1 hi, Option.bind_some]
      by_cases hz0 : z = -1005
      · exact hgo (Or.inl hz0) (fun m p h => by rw [hpre m p h, if_pos hz0, h34 m p h, if_pos hz0]) (fun m p h => by rw [hprm m p h, if_pos hz0, h28 m p h, if_pos hz0])
      · by_cases hz : 0 ≤ z ∧ z ≤ nI N - 1
        · obtain ⟨j, hj, rfl⟩ := z_inlt (by omega) hz.1 hz.2
          by_cases hdj : (zfd N V i N >>> (nI j &&& 31)) &&& 1 = 1
          · refine ⟨-1003, ((N, V), C, (L, T), S), ⟨m, p, ?_, zFK_rf, h1⟩, fun m p h2 => ⟨m, ?_, zFM_rf, h2⟩, zAbs_mono h3 (by omega)⟩
            · rw [hpre m p h10, if_neg hz0, zB_t hz, if_neg (by decide), h34 m p h10, if_neg hz0, zB_t ⟨⟨hz.1, nI_le (b := 11) (by omega) (by omega)⟩, hdj⟩, if_neg (by decide)]
            · rw [hprm m p h2.1, if_neg hz0, zB_t hz, if_neg (by decide), h28 m p h2.1, if_neg hz0, if_pos hdj]
          · exact hgo (Or.inr ⟨j, hj, rfl, fun q => hdj ((dep2 j (by omega)).mpr ⟨hj, q⟩)⟩) (fun m p h => by rw [hpre m p h, if_neg hz0, zB_t hz, if_neg (by decide), h34 m p h, if_neg hz0, zB_f (fun q => hdj q.2), if_pos rfl]) (fun m p h => by rw [hprm m p h, if_neg hz0, zB_t hz, if_neg (by decide), h28 m p h, if_neg hz0, if_neg hdj])
        · refine ⟨-1001, ((N, V), C, (L, T), S), ⟨m, p, ?_, zFK_rf, h1⟩, fun m p h2 => ⟨m, ?_, zFM_rf, h2⟩, zAbs_mono h3 (by omega)⟩
          · rw [hpre m p h10, if_neg hz0, zB_f hz, if_pos rfl]
          · rw [hprm m p h2.1, if_neg hz0, zB_f hz, if_pos rfl]
    · refine ⟨-1001, ((N, V), C, (L, T), S), ⟨m, p, ?_, zFK_rf, h1⟩, fun m p h2 => ⟨m, ?_, zFM_rf, h2⟩, zAbs_mono h3 (by omega)⟩
      · unfold fn_X9_connect
        rw [z_cr, show zR p 9 0 = some 10 from rfl, Option.bind_some, z_gs, Option.bind_some, f_hasInput z10 hT hG hN hi hk hv, zB_f hy, Option.bind_some]
        dsimp only
        rw [if_pos rfl]
      · unfold fn_X10_connect
        rw [z_mo 0, Option.bind_some, f_mInput h2.1.1 h2.1.2.1 hN hi hk hv, zB_f hy, Option.bind_some]
        dsimp only
        rw [if_pos rfl]
  · refine ⟨-1001, ((N, V), C, (L, T), S), ⟨m, p, ?_, zFK_rf, h1⟩, fun m p h2 => ⟨m, ?_, zFM_rf, h2⟩, zAbs_mono h3 (by omega)⟩
    · unfold fn_X9_connect
      rw [z_cr, show zR p 9 0 = some 10 from rfl, Option.bind_some, z_gs, Option.bind_some, f_hasInput_no z10 hG.1 hx, Option.bind_some]
      dsimp only
      rw [if_pos rfl]
    · unfold fn_X10_connect
      rw [z_mo 0, Option.bind_some, f_mInput_no h2.1.2.1.1 hx, Option.bind_some]
      dsimp only
      rw [if_pos rfl])
end CALLS6
