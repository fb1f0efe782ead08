/-! ===== calls: setRoom, append, clearText, addNode, save, restore ===== -/
section CALLS3
variable {n N L B : Nat} {m m' : Nat → Nat → Int32} {p X Y c T : Nat → Nat} {V : Nat → Nat → Int32} {C : zSt} {E K : Nat → Nat → Nat} {W : Nat → Nat → Nat → Int32} {x y : Int32} {S : Nat → Option (Nat × (Nat → Nat → Int32))}
theorem zE_pos {U s : Nat} (h : zE s K) (hU : zU K U) (h0 : 0 < s) : K (zmk K).1 (zmk K).2 ≠ 0 := by
  obtain ⟨X, Y, f, v, e, W, E, hP⟩ := h
  obtain ⟨a, b, e1, e2, e3⟩ := zmin_ex _ (X 0) (Y 0) rfl (hP.1 0 h0).2.2.2.2.1
  rw [zmk_is hU e1 e3]
  exact e1
theorem zrm_ok : ∀ (d : Nat) (c : Nat → Nat) (K : Nat → Nat → Nat), d ≤ c 2 → zU K (c 1) → zE (c 2) K → zU (zrmK d K) (c 1) ∧ zE (c 2 - d) (zrmK d K) ∧ (∀ y g, zrmK d K y g ≠ 0 → K y g ≠ 0) ∧ zrmC d c 1 = c 1 ∧ zrmC d c 2 = c 2 - d ∧ zrmC d c 3 = c 3 := by
  intro d
  induction d with
  | zero => intro c K _ hU hE; exact ⟨hU, hE, fun _ _ h => h, rfl, rfl, rfl⟩
  | succ d ih =>
    intro c K hd hU hE
    obtain ⟨z1, z2, z3⟩ := zdrC_1 c
    have hpos := zE_pos hE hU (by omega)
    obtain ⟨a1, a2, a3, a4, a5, a6⟩ := ih (zdrC c) (zdrK K) (by omega) (by rw [z1]; exact zU_rm hU) (by rw [z2]; exact (zE_rm hE hpos).2)
    refine ⟨by rw [← z1]; exact a1, ?_, fun y g h => ?_, a4.trans z1, ?_, a6.trans z3⟩
    · rw [show c 2 - (d + 1) = zdrC c 2 - d by omega]
      exact a2
    · have h1 := a3 y g h
      rw [zdrK_ne h1] at h1
      exact h1
    · show zrmC d (zdrC c) 2 = _
      rw [a5]
      omega
noncomputable def zrom (C : zSt) (r : Nat) : zSt := (zrmC (C.1 2 - r) (va_up C.1 3 r), zrmK (C.1 2 - r) C.2.1, C.2.2)
theorem zI5_rom {r : Nat} (h : zI5 N 0 (C.1 1) C) (h1 : 12 ≤ r) (h2 : r ≤ 48) : zI5 N 0 ((zrom C r).1 1) (zrom C r) ∧ (zrom C r).1 1 = C.1 1 := by
  obtain ⟨⟨hU, hU0⟩, hkey, hfr, hE, hS, hR, hR2⟩ := h
  have u1 : va_up C.1 3 r 1 = C.1 1 := va_up_ne _ _ (by omega)
  have u2 : va_up C.1 3 r 2 = C.1 2 := va_up_ne _ _ (by omega)
  have u3 : va_up C.1 3 r 3 = r := va_up_self _ _ _
  obtain ⟨a1, a2, a3, a4, a5, a6⟩ := zrm_ok (C.1 2 - r) (va_up C.1 3 r) C.2.1 (by omega) (by rw [u1]; exact hU) (by rw [u2]; exact hE)
  rw [u1] at a1 a4
  rw [u2] at a2 a5
  rw [u3] at a6
  have e1 : (zrom C r).1 1 = C.1 1 := a4
  have e2 : (zrom C r).1 2 = C.1 2 - (C.1 2 - r) := a5
  have e3 : (zrom C r).1 3 = r := a6
  refine ⟨⟨⟨by rw [e1]; exact a1, Nat.le_refl _⟩, fun y g hy => ?_, fun y g hy => ?_, by rw [e2]; exact a2, by omega, by omega, by omega⟩, e1⟩
  · obtain ⟨b1, b2, b3⟩ := hkey y g (a3 y g hy)
    exact ⟨b1, b2, b3⟩
  · have := a1.1 y g
    rw [e1] at hy
    have h' : C.1 1 < zrmK (C.1 2 - r) C.2.1 y g := hy
    omega
theorem c_setRoom : zop n (fn_X9_setRoom (some 9) x) (fn_X10_setRoom (some 275) x) := zop_mk (fun m p A B h1 h2 h3 hB => by
  obtain ⟨⟨N, V⟩, C, ⟨L, T⟩, S⟩ := A
  obtain ⟨h10, X, Y, E, hc⟩ := id h1
  obtain ⟨a1, a2, a3, a4, a5, a6⟩ := id h3
  by_cases hx : 12 ≤ x ∧ x ≤ 48
  · obtain ⟨r, hr, rfl⟩ := z_in (N := 48) (by omega) (Int32.le_trans (by decide) hx.1) hx.2
    have hr12 : 12 ≤ r := (nI_leI (a := 12) (by omega) (by omega)).mp hx.1
    obtain ⟨m1, p1, X1, Y1, b1, b2, b3⟩ := f_changeRoom (n := n) hc a2.1.1 (by omega) hr
    obtain ⟨i1, i2⟩ := zI5_rom a2 hr12 hr
    refine ⟨nI (C.1 3), ((N, V), zrom C r, (L, T), S), ⟨m1, p1, ?_, fun a ha => b3 a (by omega), zCls0_cg h10 (fun a _ _ => b3 a (by omega)), X1, Y1, E, b2⟩, fun m p h2 => ?_, a1, i1, by rw [i2]; omega, a4, a5, a6⟩
    · unfold fn_X9_setRoom
      rw [f_isIn, zB_t hx, Option.bind_some]
      dsimp only
      rw [if_neg (by decide), z_cr, show zR p 9 1 = some 51 from rfl, Option.bind_some, z_c1, hc.2.1 3 (by omega) (by omega), Option.bind_some, Option.bind_some, z_cs, Option.bind_some, b1, Option.bind_some]
    · obtain ⟨h20, X', Y', hm⟩ := h2
      rw [zMa_0] at hm
      have hm3 := hm.1.2.2
      have hmr : zMX (ax_u2 m 275 3 (nI r)) X' Y' (va_up C.1 3 r) C.2.1 C.2.2 := by
        obtain ⟨⟨c1, c2, c3⟩, ⟨d1, d2, d3, d4⟩, h48, hP⟩ := hm
        have u : ∀ k, k ≠ 3 → va_up C.1 3 r k = C.1 k := fun k hk => va_up_ne _ _ hk
        refine ⟨⟨by rw [ax_u2_nk (by omega), u _ (by omega)]; exact c1, by rw [ax_u2_nk (by omega), u _ (by omega)]; exact c2, by rw [ax_u2_self, va_up_self]⟩, ⟨by rw [zu2_row (by omega), u _ (by omega)]; exact d1, by rw [zu2_row (by omega), u _ (by omega)]; exact d2, by rw [zu2_row (by omega), u _ (by omega)]; exact d3, by rw [zu2_row (by omega), u _ (by omega)]; exact d4⟩, by rw [u _ (by omega)]; exact h48, ?_⟩
        rw [u _ (by omega)]
        exact zP_congr hP (fun w j hw hj => by show ax_u2 m 275 _ _ (279 + w) j = _; rw [zu2_row (by omega)]; rfl) (fun j k hj hk => by show ax_u2 m 275 _ _ 282 _ = _; rw [zu2_row (by omega)]; rfl) (fun j hj => rfl)
      obtain ⟨m2, X2, Y2, d1, d2, d3⟩ := f_makesRoom (n := n) (p := p) hr hmr (by rw [va_up_ne _ _ (by omega)]; omega) (by rw [va_up_ne _ _ (by omega)]; exact a2.1.1)
      rw [va_up_ne (j := 2) _ _ (by omega)] at d2
      refine ⟨m2, ?_, fun a ha => by rw [d3.1 a (by omega)]; exact zu2_row (by omega), zMdl0_cg h20 (fun a ha => by rw [d3.1 a (by omega)]; exact zu2_row (by omega)) (by rw [d3.2 12 (by omega) (by omega) (by omega), ax_u2_nk (by omega)]), X2, Y2, zMa_0.mpr d2⟩
      unfold fn_X10_setRoom
      rw [f_in, zB_t hx, Option.bind_some]
      dsimp only
      rw [if_neg (by decide), z_m1, hm3, Option.bind_some, z_m2, Option.bind_some, z_mo 0, Option.bind_some, d1, Option.bind_some]
  · refine ⟨-1002, ((N, V), C, (L, T), S), ⟨m, p, ?_, zFK_rf, h1⟩, fun m p h2 => ⟨m, ?_, zFM_rf, h2⟩, zAbs_mono h3 (by omega)⟩
    · unfold fn_X9_setRoom
      rw [f_isIn, zB_f hx, Option.bind_some]
      dsimp only
      rw [if_pos rfl]
    · unfold fn_X10_setRoom
      rw [f_in, zB_f hx, Option.bind_some]
      dsimp only
      rw [if_pos rfl])
theorem z_t1 {k : Nat} : ax_gi (zC n m p) 5 k (some 150) = some (m 150 k) := z_gi (by omega) rfl
theorem z_t2 {k : Nat} : ax_pi (zC n m p) 5 k (some 150) x = some (zC n (ax_u2 m 150 k x) p) := z_pi (by omega) rfl
theorem z_t0 : ax_gr (zC n m p) 5 0 (some 150) = some (some 151) := z_gr (by omega) rfl
theorem z_ts {j : Nat} (hj : j < 80) : ax_as (zC n m p) 8 (some 151) (nI j) x = some (zC n (ax_u2 m 151 j x) p) := z_as (by omega) (by omega) rfl (by exact hj) (by omega)
theorem z_ta {j : Nat} (hj : j < 80) : ax_al (zC n m p) 8 (some 151) (nI j) = some (m 151 j) := z_al (by omega) rfl (by exact hj) (by omega)
theorem z_tsh : ax_sh (zC n m p) 5 (some 150) = some (150, 2) := z_sh (by omega) rfl
theorem z_rr {k : Nat} : ax_gr (zC n m p) 4 k (some 149) = some (zR p 149 k) := z_gr (by omega) rfl
theorem z_rd {k : Nat} : ax_gi (zC n m p) 4 k (some 149) = some (m 149 k) := z_gi (by omega) rfl
theorem z_rp {k : Nat} : ax_pi (zC n m p) 4 k (some 149) x = some (zC n (ax_u2 m 149 k x) p) := z_pi (by omega) rfl
theorem z_rsh : ax_sh (zC n m p) 4 (some 149) = some (149, 7) := z_sh (by omega) rfl
theorem z_m11 : ax_gr (zC n m p) 7 11 (some 275) = some (some 284) := z_gr (by omega) rfl
theorem z_ma {j : Nat} (hj : j < 80) : ax_al (zC n m p) 9 (some 284) (nI j) = some (m 284 j) := z_al (by omega) rfl (by exact hj) (by omega)
theorem z_ms {j : Nat} (hj : j < 80) : ax_as (zC n m p) 9 (some 284) (nI j) x = some (zC n (ax_u2 m 284 j x) p) := z_as (by omega) (by omega) rfl (by exact hj) (by omega)
theorem z_byte : ∀ j : Nat, j < 128 → ((nI j).toInt8.toInt32).toInt8.toInt32 = nI j := by decide +kernel
theorem zCls0_t {L' : Nat} {T' : Nat → Nat} (h : zCls0 m N V L T S) (hf : ∀ a, a < 150 ∨ (151 < a ∧ a < 275) → m' a = m a) (t1 : m' 150 1 = nI L') (t2 : ∀ j, j < L' → m' 151 j = nI (T' j)) : zCls0 m' N V L' T' S := by
  obtain ⟨hT, ⟨hN, hG, hO⟩, hB, -, hS⟩ := h
  exact ⟨fun a j ha => by rw [hf a (by omega)]; exact hT a j ha, ⟨hN, zGC_f1 hG hN (fun a ha => hf a (by omega)), zOC_f1 hO (fun a ha => hf a (by omega))⟩, fun k hk => by rw [hf _ (by omega)]; exact hB k hk, ⟨t1, t2⟩, fun s hs => zSlC_cg hs (hS s hs) ⟨hf _ (by omega), fun a h1 h2 => hf a (by omega)⟩⟩
theorem zMdl0_t {L' : Nat} {T' : Nat → Nat} (h : zMdl0 m N V L T S) (hf : ∀ a, (275 < a ∧ a < 279) ∨ 284 < a ∧ a < 287 → m' a = m a) (t1 : m' 275 12 = nI L') (t2 : ∀ j, j < L' → m' 284 j = nI (T' j)) : zMdl0 m' N V L' T' S := by
  obtain ⟨hT, hG, -, hS⟩ := h
  exact ⟨fun k hk => by rw [hf 285 (by omega), hf 286 (by omega)]; exact hT k hk, zGM_fr hG (hf 276 (by omega)), ⟨t1, t2⟩, fun s hs => zSlM_cg (hS s hs) ⟨hf 277 (by omega), hf 278 (by omega)⟩⟩
theorem c_append : zop n (fn_X9_append (some 9) x) (fn_X10_append (some 275) x) := zop_mk (fun m p A B h1 h2 h3 hB => by
  obtain ⟨⟨N, V⟩, C, ⟨L, T⟩, S⟩ := A
  obtain ⟨h10, X, Y, E, hc⟩ := id h1
  obtain ⟨a1, a2, a3, a4, a5, a6⟩ := id h3
  by_cases hx : 0 ≤ x ∧ x ≤ 127
  · obtain ⟨j, hj, rfl⟩ := z_in (N := 127) (by omega) hx.1 hx.2
    obtain ⟨t1, t2⟩ := h10.2.2.2.1
    have hcl : fn_X9_append (some 9) (nI j) (zC n m p) = fn_X8_put (some 150) (nI j) (zC n m p) := by
      unfold fn_X9_append
      rw [f_isIn, zB_t hx, Option.bind_some]
      dsimp only
      rw [if_neg (by decide), z_cr, show zR p 9 2 = some 149 from rfl, Option.bind_some, z_rr, show zR p 149 0 = some 150 from rfl, Option.bind_some, z_tsh, Option.bind_some]
      cases fn_X8_put (some 150) (nI j) (zC n m p) <;> rfl
    by_cases hL : L < 80
    · refine ⟨nI (L + 1), ((N, V), C, (L + 1, va_up T L j), S), ⟨ax_u2 (ax_u2 m 151 L (nI j)) 150 1 (nI (L + 1)), p, ?_, fun a ha => by rw [zu2_row (by omega), zu2_row (by omega)], zCls0_t h10 (fun a ha => by rw [zu2_row (by omega), zu2_row (by omega)]) (by rw [ax_u2_self]) (fun i hi => ?_), X, Y, E, zCX_fr hc (fun a ha hb => by rw [zu2_row (by omega), zu2_row (by omega)])⟩, fun m p h2 => ?_, a1, a2, by omega, by omega, fun i => ?_, a6⟩
      · rw [hcl]
        unfold fn_X8_put
        rw [z_t1, t1, Option.bind_some, if_pos (show nI L < (80 : Int32) from nI_lt (b := 80) hL (by omega)), z_t0, Option.bind_some, Option.bind_some, z_byte j (by omega), z_ts hL, Option.bind_some, z_t1, zu2_row (show 150 ≠ 151 by omega), t1, Option.bind_some, nI_1, z_t2, Option.bind_some, z_t1, ax_u2_self, Option.bind_some]
      · rw [zu2_row (by omega)]
        by_cases hi2 : i = L
        · subst hi2
          rw [ax_u2_self, va_up_self]
        · rw [ax_u2_nk hi2, va_up_ne _ _ hi2]
          exact t2 i (by omega)
      · obtain ⟨h20, X', Y', hm⟩ := h2
        obtain ⟨s1, s2⟩ := h20.2.2.1
        refine ⟨ax_u2 (ax_u2 m 284 L (nI j)) 275 12 (nI (L + 1)), ?_, fun a ha => by rw [zu2_row (by omega), zu2_row (by omega)], zMdl0_t h20 (fun a ha => by rw [zu2_row (by omega), zu2_row (by omega)]) (by rw [ax_u2_self]) (fun i hi => ?_), X', Y', zMX_fr hm (fun a _ _ => by rw [zu2_row (by omega), zu2_row (by omega)]) (fun k hk => by rw [ax_u2_nk (by omega), zu2_row (by omega)])⟩
        · unfold fn_X10_append
          rw [f_in, zB_t hx, Option.bind_some]
          dsimp only
          rw [if_neg (by decide), z_m1, s1, Option.bind_some, if_neg (show ¬ nI L = (80 : Int32) from fun e => absurd (nI_inj (b := 80) (by omega) (by omega) e) (by omega)), z_m11, Option.bind_some, Option.bind_some, z_ms hL, Option.bind_some, z_m1, zu2_row (show 275 ≠ 284 by omega), s1, Option.bind_some, nI_1, z_m2, Option.bind_some, z_m1, ax_u2_self, Option.bind_some]
        · rw [zu2_row (by omega)]
          by_cases hi2 : i = L
          · subst hi2
            rw [ax_u2_self, va_up_self]
          · rw [ax_u2_nk hi2, va_up_ne _ _ hi2]
            exact s2 i (by omega)
      · by_cases hi2 : i = L
        · subst hi2
          rw [va_up_self]
          omega
        · rw [va_up_ne _ _ hi2]
          exact a5 i
    · have hL80 : L = 80 := by omega
      subst hL80
      refine ⟨-1004, ((N, V), C, (80, T), S), ⟨m, p, ?_, zFK_rf, h1⟩, fun m p h2 => ⟨m, ?_, zFM_rf, h2⟩, zAbs_mono h3 (by omega)⟩
      · rw [hcl]
        unfold fn_X8_put
        rw [z_t1, t1, Option.bind_some, if_neg (by decide)]
      · unfold fn_X10_append
        rw [f_in, zB_t hx, Option.bind_some]
        dsimp only
        rw [if_neg (by decide), z_m1, h2.1.2.2.1.1, Option.bind_some, if_pos (by decide)]
  · refine ⟨-1002, ((N, V), C, (L, T), S), ⟨m, p, ?_, zFK_rf, h1⟩, fun m p h2 => ⟨m, ?_, zFM_rf, h2⟩, zAbs_mono h3 (by omega)⟩
    · unfold fn_X9_append
      rw [f_isIn, zB_f hx, Option.bind_some]
      dsimp only
      rw [if_pos rfl]
    · unfold fn_X10_append
      rw [f_in, zB_f hx, Option.bind_some]
      dsimp only
      rw [if_pos rfl])
theorem c_clearText : zop n (fn_X9_clearText (some 9)) (fn_X10_clearText (some 275)) := zop_mk (fun m p A B h1 h2 h3 hB => by
  obtain ⟨⟨N, V⟩, C, ⟨L, T⟩, S⟩ := A
  obtain ⟨h10, X, Y, E, hc⟩ := id h1
  obtain ⟨a1, a2, a3, a4, a5, a6⟩ := id h3
  refine ⟨nI L, ((N, V), C, (0, T), S), ⟨ax_u2 m 150 1 0, p, ?_, fun a ha => zu2_row (by omega), zCls0_t h10 (fun a ha => zu2_row (by omega)) (by rw [ax_u2_self]; exact nI_0.symm) (fun i hi => by omega), X, Y, E, zCX_fr hc (fun a ha hb => zu2_row (by omega))⟩, fun m p h2 => ?_, a1, a2, by omega, by omega, a5, a6⟩
  · unfold fn_X9_clearText fn_X8_empty
    rw [z_cr, show zR p 9 2 = some 149 from rfl, Option.bind_some, z_rr, show zR p 149 0 = some 150 from rfl, Option.bind_some, z_t1, h10.2.2.2.1.1, Option.bind_some, Option.bind_some, z_rr, show zR p 149 0 = some 150 from rfl, Option.bind_some, z_tsh, Option.bind_some, z_t2, Option.bind_some, Option.bind_some]
  · obtain ⟨h20, X', Y', hm⟩ := h2
    refine ⟨ax_u2 m 275 12 0, ?_, fun a ha => zu2_row (by omega), zMdl0_t h20 (fun a ha => zu2_row (by omega)) (by rw [ax_u2_self]; exact nI_0.symm) (fun i hi => by omega), X', Y', zMX_fr hm (fun a _ _ => zu2_row (by omega)) (fun k hk => ax_u2_nk (by omega))⟩
    unfold fn_X10_clearText
    rw [z_m1, h20.2.2.1.1, Option.bind_some, z_m2, Option.bind_some])
end CALLS3
