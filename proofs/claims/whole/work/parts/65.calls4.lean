/-! ===== calls: set, setRange, connect ===== -/
section CALLS5
variable {n N L B i k : Nat} {m m' : Nat → Nat → Int32} {p X Y c T : Nat → Nat} {V : Nat → Nat → Int32} {C : zSt} {E K : Nat → Nat → Nat} {W : Nat → Nat → Nat → Int32} {x y z : Int32} {S : Nat → Option (Nat × (Nat → Nat → Int32))}
theorem z_vps {q : Nat} (hi : i < 12) (hq : q < 4) : ax_as (zC n m p) 9 (some 276) (1 + 10 * nI i + (6 + nI q)) z = some (zC n (ax_u2 m 276 (1 + 10 * i + (6 + q)) z) p) := by
  rw [show (6 : Int32) = nI 6 from rfl, nI_add, z_at, z_vs (by omega)]
theorem z_vis {q : Nat} (hi : i < 12) (hq : q < 3) : ax_as (zC n m p) 9 (some 276) (1 + 10 * nI i + (3 + nI q)) z = some (zC n (ax_u2 m 276 (1 + 10 * i + (3 + q)) z) p) := by
  rw [show (3 : Int32) = nI 3 from rfl, nI_add, z_at, z_vs (by omega)]
theorem z_at1 (hi : i < 12) : ax_al (zC n m p) 9 (some 276) (1 + 10 * nI i + 1) = some (m 276 (1 + 10 * i + 1)) := by
  rw [show (1 : Int32) + 10 * nI i + 1 = nI (1 + 10 * i + 1) from z_at i 1, z_v (by omega)]
theorem z_at2 (hi : i < 12) : ax_al (zC n m p) 9 (some 276) (1 + 10 * nI i + 2) = some (m 276 (1 + 10 * i + 2)) := by
  rw [show (1 : Int32) + 10 * nI i + 2 = nI (1 + 10 * i + 2) from z_at i 2, z_v (by omega)]
theorem z_as1 (hi : i < 12) : ax_as (zC n m p) 9 (some 276) (1 + 10 * nI i + 1) z = some (zC n (ax_u2 m 276 (1 + 10 * i + 1) z) p) := by
  rw [show (1 : Int32) + 10 * nI i + 1 = nI (1 + 10 * i + 1) from z_at i 1, z_vs (by omega)]
theorem z_as2 (hi : i < 12) : ax_as (zC n m p) 9 (some 276) (1 + 10 * nI i + 2) z = some (zC n (ax_u2 m 276 (1 + 10 * i + 2) z) p) := by
  rw [show (1 : Int32) + 10 * nI i + 2 = nI (1 + 10 * i + 2) from z_at i 2, z_vs (by omega)]
/-- the state of the class behind a change of the graph and a void -/
theorem zCls_ch {V' : Nat → Nat → Int32} {m1 m2 : Nat → Nat → Int32} (h10 : zCls0 m N V L T S) (hf : ∀ a, a < 10 ∨ 51 ≤ a → m1 a = m a) (h2 : ∀ a, a ≠ 51 → m2 a = m1 a) (hN : N ≤ 12) (hG : zGC m1 10 N V') (hO : zOC m1 10 N V') : zFK m m2 ∧ zCls0 m2 N V' L T S :=
  ⟨fun a ha => by rw [h2 a (by omega), hf a (by omega)], zCls0_g h10 (fun a ha => by rw [h2 a (by omega), hf a (by omega)]) hN (zGC_f1 hG hN (fun a ha => h2 a (by omega))) (zOC_f1 hO (fun a ha => h2 a (by omega)))⟩
theorem zMdl_ch {V' : Nat → Nat → Int32} {m1 m2 : Nat → Nat → Int32} (h20 : zMdl0 m N V L T S) (hf : ∀ a, a ≠ 276 → m1 a = m a) (h2 : zFm m1 m2) (hG : zGM m1 N V') : zFM m m2 ∧ zMdl0 m2 N V' L T S :=
  ⟨fun a ha => by rw [h2.1 a (by omega), hf a (by omega)], zMdl0_g h20 (fun a ha => by rw [h2.1 a (by omega), hf a (by omega)]) (by rw [h2.2 12 (by omega) (by omega) (by omega), hf 275 (by omega)]) (zGM_fr hG (h2.1 276 (by omega)))⟩
theorem c_set : zop n (fn_X9_set (some 9) x y z) (fn_X10_set (some 275) x y z) := zop_mk (fun m p A B h1 h2 h3 hB => by
  obtain ⟨⟨N, V⟩, C, ⟨L, T⟩, S⟩ := A
  obtain ⟨h10, X, Y, E, hc⟩ := id h1
  obtain ⟨a1, a2, a3, a4, a5, a6⟩ := id h3
  have hT := h10.1
  have hN := a1.1
  have hG := h10.2.1.2.1
  have hO := h10.2.1.2.2
  by_cases hx : 0 ≤ x ∧ x ≤ nI N - 1
  · obtain ⟨i, hi, rfl⟩ := z_inlt (by omega) hx.1 hx.2
    obtain ⟨k, hk, hv⟩ := z_kind a1 hi
    have hp4 := (zin_lt k hk).2
    by_cases hy : 0 ≤ y ∧ y ≤ nI (zpn k) - 1
    · obtain ⟨q, hq, rfl⟩ := z_inlt (by omega) hy.1 hy.2
      obtain ⟨hb, -⟩ := zGB_node (p := p) z10 (show i < 12 by omega)
      obtain ⟨b9, b1, t0, t1, t2, q3, q4⟩ := zNB_ok (n := n) (p := p) hb
      by_cases hz : zlo k q ≤ z ∧ z ≤ zhi k q
      · have hi1 : (if 6 + q < 3 then 0 else if 6 + q < 6 then 1 else 2) = 2 := by rw [if_neg (by omega), if_neg (by omega)]
        have hi2 : (if 6 + q < 3 then 6 + q else if 6 + q < 6 then 6 + q - 3 else 6 + q - 6) = q := by rw [if_neg (by omega), if_neg (by omega)]; omega
        have hV1 := zOK_set (i := i) (w := 6 + q) (x := z) a1 (by omega) (fun k' hk' e _ => by
          have : k' = k := nI_inj (by omega) (by omega) (e.symm.trans hv)
          subst this
          rw [show 6 + q - 6 = q by omega]
          exact hz)
        have hI1 : zSameI V (zVset V i (6 + q) z) := zSameI_set (by omega)
        have hG1 : zGC (ax_u2 m (10 + 5 + 3 * i + 2) q z) 10 N (zVset V i (6 + q) z) := zGC_set hG hN hi (fun a b hne => by rw [hi1, hi2] at hne; exact if_neg hne) (by rw [hi1, hi2]; exact ax_u2_self) (by omega)
        generalize hm1 : ax_u2 m (10 + 5 + 3 * i + 2) q z = m1 at hG1
        have e1 : ∀ a, a ≠ 10 + 5 + 3 * i + 2 → m1 a = m a := fun a ha => by rw [← hm1]; exact zu2_row ha
        have hO1 : zOC m1 10 N (zVset V i (6 + q) z) := zOC_cg hO hI1 ⟨e1 _ (by omega), e1 _ (by omega), e1 _ (by omega)⟩
        generalize hV1e : zVset V i (6 + q) z = V1 at hV1 hI1 hG1 hO1
        obtain ⟨m2, p2, X2, Y2, kk, k0, v1, v2, v3, v4⟩ := f_void9 (n := n) (zCX_fr (m' := m1) hc (fun a _ _ => e1 a (by omega))) (zfd N V1 i N) (V1 i 1) (V1 i 2) 1 0
        obtain ⟨i1, i2⟩ := zI5_void a2 k0 v3
        obtain ⟨f1, f2⟩ := zCls_ch h10 (fun a ha => e1 a (by omega)) v4 hN hG1 hO1
        refine ⟨nI (C.1 2 - kk), ((N, V1), zvoid C (zvb (zfd N V1 i N) (V1 i 1) (V1 i 2) 1 0) kk, (L, T), S), ⟨m2, p2, ?_, f1, f2, X2, Y2, E, v2⟩, fun m p h2 => ?_, hV1, i1, by rw [i2]; omega, a4, a5, a6⟩
        · unfold fn_X9_set
          rw [z_cr, show zR p 9 0 = some 10 from rfl, Option.bind_some, z_gs, Option.bind_some, f_hasParameter z10 hT hG hN hi hk hv, zB_t hy, Option.bind_some]
          dsimp only
          rw [if_neg (by decide), z_cr, show zR p 9 0 = some 10 from rfl, Option.bind_some, z_gr0, show zR p 10 0 = some (10 + 1) from rfl, Option.bind_some, z_nodes z10 (by omega), Option.bind_some, z_gi (a := 10 + 5 + 3 * i) (t := 2) (by omega) (by rw [t0]), hG.2.1 i 0 hi (by omega), hv, Option.bind_some, f_lowest hT hk (by omega), Option.bind_some]
          dsimp only
          rw [f_highest hT hk (by omega), Option.bind_some]
          dsimp only
          rw [f_isIn, zB_t hz, Option.bind_some]
          dsimp only
          rw [if_neg (by decide), z_gr (a := 10 + 5 + 3 * i) (t := 2) (by omega) (by rw [t0]), q4, Option.bind_some, z_as (a := 10 + 5 + 3 * i + 2) (t := 9) (by omega) (by omega) (by rw [t2]) (by rw [t2]; show q < 4; omega) (by omega), hm1, Option.bind_some, z_cr, show zR p 9 1 = some 51 from rfl, Option.bind_some, z_cr, show zR p 9 0 = some 10 from rfl, Option.bind_some, z_gs, Option.bind_some, f_dependents z10 hG1 hN (fun t ht => (hO1.1 t ht).1) i, Option.bind_some]
          dsimp only
          rw [z_gi (a := 10 + 5 + 3 * i) (t := 2) (by omega) (by rw [t0]), hG1.2.1 i 1 hi (by omega), Option.bind_some, z_gi (a := 10 + 5 + 3 * i) (t := 2) (by omega) (by rw [t0]), hG1.2.1 i 2 hi (by omega), Option.bind_some, z_cs, Option.bind_some, f_makeVoid, v1, Option.bind_some]
        · obtain ⟨h20, X', Y', hm⟩ := h2
          have hM := h20.1
          have hGM := h20.2.1
          have hkind : m 276 (1 + 10 * i) = nI k := (hGM.2.1 i 0 hi (by omega)).trans hv
          have hGM1 : zGM (ax_u2 m 276 (1 + 10 * i + (6 + q)) z) N (zVset V i (6 + q) z) := zGM_set hGM hi (fun b hb => ax_u2_nk hb) ax_u2_self (by omega) (by omega)
          rw [hV1e] at hGM1
          generalize hmm : ax_u2 m 276 (1 + 10 * i + (6 + q)) z = m3 at hGM1
          have e3 : ∀ a, a ≠ 276 → m3 a = m a := fun a ha => by rw [← hmm]; exact zu2_row ha
          obtain ⟨m4, X4, Y4, w1, w2, w3⟩ := f_void10 (n := n) (p := p) hGM1 hV1 hi (zMX_fr (m' := m3) hm (fun a _ _ => e3 a (by omega)) (fun _ _ => by rw [e3 275 (by omega)])) (V1 i 1) (V1 i 2) 1 0 (b := zvb (zfd N V1 i N) (V1 i 1) (V1 i 2) 1 0) (by rw [zvb_vm]) v3
          obtain ⟨g1, g2⟩ := zMdl_ch h20 e3 w3 hGM1
          refine ⟨m4, ?_, g1, g2, X4, Y4, w2⟩
          unfold fn_X10_set
          rw [z_mo 0, Option.bind_some, f_mParameter hM hGM hN hi hk hv, zB_t hy, Option.bind_some]
          dsimp only
          rw [if_neg (by decide), z_mo 0, Option.bind_some, f_mkind (by omega), hkind, Option.bind_some]
          dsimp only
          rw [f_low hk hq, Option.bind_some]
          dsimp only
          rw [z_mo 0, Option.bind_some, f_mkind (by omega), hkind, Option.bind_some]
          dsimp only
          rw [f_high hk hq, Option.bind_some]
          dsimp only
          rw [f_in, zB_t hz, Option.bind_some]
          dsimp only
          rw [if_neg (by decide), z_m0, Option.bind_some]
          unfold fn_X10_at
          rw [Option.bind_some]
          dsimp only
          rw [z_vps (by omega) (by omega), hmm, Option.bind_some, z_m0, Option.bind_some, Option.bind_some]
          dsimp only
          rw [z_at1 (by omega), hGM1.2.1 i 1 hi (by omega), Option.bind_some, z_m0, Option.bind_some, Option.bind_some]
          dsimp only
          rw [z_at2 (by omega), hGM1.2.1 i 2 hi (by omega), Option.bind_some, z_mo 0, Option.bind_some, w1, Option.bind_some]
      · refine ⟨-1002, ((N, V), C, (L, T), S), ⟨m, p, ?_, zFK_rf, h1⟩, fun m p h2 => ⟨m, ?_, zFM_rf, h2⟩, zAbs_mono h3 (by omega)⟩
        · unfold fn_X9_set
          rw [z_cr, show zR p 9 0 = some 10 from rfl, Option.bind_some, z_gs, Option.bind_some, f_hasParameter z10 hT hG hN hi hk hv, zB_t hy, Option.bind_some]
          dsimp only
          rw [if_neg (by decide), z_cr, show zR p 9 0 = some 10 from rfl, Option.bind_some, z_gr0, show zR p 10 0 = some (10 + 1) from rfl, Option.bind_some, z_nodes z10 (by omega), Option.bind_some, z_gi (a := 10 + 5 + 3 * i) (t := 2) (by omega) (by rw [t0]), hG.2.1 i 0 hi (by omega), hv, Option.bind_some, f_lowest hT hk (by omega), Option.bind_some]
          dsimp only
          rw [f_highest hT hk (by omega), Option.bind_some]
          dsimp only
          rw [f_isIn, zB_f hz, Option.bind_some]
          dsimp only
          rw [if_pos rfl]
        · have hGM := h2.1.2.1
          have hkind : m 276 (1 + 10 * i) = nI k := (hGM.2.1 i 0 hi (by omega)).trans hv
          unfold fn_X10_set
          rw [z_mo 0, Option.bind_some, f_mParameter h2.1.1 hGM hN hi hk hv, zB_t hy, Option.bind_some]
          dsimp only
          rw [if_neg (by decide), z_mo 0, Option.bind_some, f_mkind (by omega), hkind, Option.bind_some]
          dsimp only
          rw [f_low hk hq, Option.bind_some]
          dsimp only
          rw [z_mo 0, Option.bind_some, f_mkind (by omega), hkind, Option.bind_some]
          dsimp only
          rw [f_high hk hq, Option.bind_some]
          dsimp only
          rw [f_in, zB_f hz, Option.bind_some]
          dsimp only
          rw [if_pos rfl]
    · refine ⟨-1001, ((N, V), C, (L, T), S), ⟨m, p, ?_, zFK_rf, h1⟩, fun m p h2 => ⟨m, ?_, zFM_rf, h2⟩, zAbs_mono h3 (by omega)⟩
      · unfold fn_X9_set
        rw [z_cr, show zR p 9 0 = some 10 from rfl, Option.bind_some, z_gs, Option.bind_some, f_hasParameter z10 hT hG hN hi hk hv, zB_f hy, Option.bind_some]
        dsimp only
        rw [if_pos rfl]
      · unfold fn_X10_set
        rw [z_mo 0, Option.bind_some, f_mParameter h2.1.1 h2.1.2.1 hN hi hk hv, zB_f hy, Option.bind_some]
        dsimp only
        rw [if_pos rfl]
  · refine ⟨-1001, ((N, V), C, (L, T), S), ⟨m, p, ?_, zFK_rf, h1⟩, fun m p h2 => ⟨m, ?_, zFM_rf, h2⟩, zAbs_mono h3 (by omega)⟩
    · unfold fn_X9_set
      rw [z_cr, show zR p 9 0 = some 10 from rfl, Option.bind_some, z_gs, Option.bind_some, f_hasParameter_no z10 hG.1 hx, Option.bind_some]
      dsimp only
      rw [if_pos rfl]
    · unfold fn_X10_set
      rw [z_mo 0, Option.bind_some, f_mParameter_no h2.1.2.1.1 hx, Option.bind_some]
      dsimp only
      rw [if_pos rfl])
end CALLS5
