/-! ===== calls: addNode, save, restore ===== -/
theorem zSlC_cg2 {m m' : Nat → Nat → Int32} {s : Nat} : ∀ {o : Option (Nat × (Nat → Nat → Int32))}, zSlC m s o → (m' 191 s = m 191 s ∧ ∀ a, 193 + 41 * s ≤ a → a < 193 + 41 * s + 41 → m' a = m a) → zSlC m' s o
  | none, h, hf => by show m' 191 s = 0; rw [hf.1]; exact h
  | some (N, V), h, hf => by show m' 191 s = 1 ∧ _; rw [hf.1]; exact ⟨h.1, h.2.1, zGC_cg h.2.2 h.2.1 (fun a ha hb => hf.2 a ha hb)⟩
theorem zGMr_cg {r r' : Nat → Int32} {N : Nat} {V : Nat → Nat → Int32} (h : zGMr r N V) (hN : N ≤ 12) (hf : ∀ k, k < 121 → r' k = r k) : zGMr r' N V := ⟨by rw [hf 0 (by omega)]; exact h.1, fun i w hi hw => by rw [hf _ (by omega)]; exact h.2.1 i w hi hw, fun i k q hi hk e hq => by have := (zin_lt k hk).2; rw [hf _ (by omega)]; exact h.2.2 i k q hi hk e hq⟩
theorem zSlM_cg2 {m m' : Nat → Nat → Int32} {s : Nat} : ∀ {o : Option (Nat × (Nat → Nat → Int32))}, zSlM m s o → (m' 278 s = m 278 s ∧ ∀ k, k < 121 → m' 277 (121 * s + k) = m 277 (121 * s + k)) → zSlM m' s o
  | none, h, hf => by show m' 278 s = 0; rw [hf.1]; exact h
  | some (N, V), h, hf => by show m' 278 s = 1 ∧ _ ∧ zGMr (fun k => m' 277 (121 * s + k)) N V; rw [hf.1]; exact ⟨h.1, h.2.1, zGMr_cg h.2.2 h.2.1 (fun k hk => hf.2 k hk)⟩
section CALLS4
variable {n N L B s : Nat} {m m' : Nat → Nat → Int32} {p X Y c T : Nat → Nat} {V : Nat → Nat → Int32} {C : zSt} {E K : Nat → Nat → Nat} {W : Nat → Nat → Nat → Int32} {x y : Int32} {S : Nat → Option (Nat × (Nat → Nat → Int32))}
theorem zI5_N {N' f U : Nat} (h : zI5 N f U C) (hN : N ≤ N') : zI5 N' f U C := ⟨h.1, fun y g hk => ⟨by have := (h.2.1 y g hk).1; omega, (h.2.1 y g hk).2⟩, h.2.2⟩
theorem c_addNode : zop n (fn_X9_addNode (some 9) x) (fn_X10_addNode (some 275) x) := zop_mk (fun m p A B h1 h2 h3 hB => by
  obtain ⟨⟨N, V⟩, C, ⟨L, T⟩, S⟩ := A
  obtain ⟨h10, X, Y, E, hc⟩ := id h1
  obtain ⟨a1, a2, a3, a4, a5, a6⟩ := id h3
  have hN := a1.1
  have hG := h10.2.1.2.1
  by_cases hx : 0 ≤ x ∧ x ≤ 6
  · obtain ⟨k, hk, rfl⟩ := z_in (N := 6) (by omega) hx.1 hx.2
    have c9 : fn_X9_addNode (some 9) (nI k) (zC n m p) = (fn_X1_add (some 10) (nI k) (zC n m p)).bind fun q5 => some (q5.1, q5.2) := by
      unfold fn_X9_addNode
      rw [f_isIn, zB_t hx, Option.bind_some]
      dsimp only
      rw [if_neg (by decide), z_cr, show zR p 9 0 = some 10 from rfl, Option.bind_some, z_gs, Option.bind_some]
    by_cases hfull : N = 12
    · subst hfull
      refine ⟨-1004, ((12, V), C, (L, T), S), ⟨m, p, ?_, zFK_rf, h1⟩, fun m p h2 => ⟨m, ?_, zFM_rf, h2⟩, zAbs_mono h3 (by omega)⟩
      · rw [c9, f_add_full z10 hG.1]
        rfl
      · unfold fn_X10_addNode
        rw [f_in, zB_t hx, Option.bind_some]
        dsimp only
        rw [if_neg (by decide), z_m0, Option.bind_some, z_v0, h2.1.2.1.1, Option.bind_some, if_pos (by decide)]
    · have hN2 : N < 12 := by omega
      obtain ⟨m1, b1, b2, b3, b4⟩ := f_add (n := n) (p := p) z10 h10.1 hG a1 hN2 (k := k) (by omega)
      refine ⟨nI N, ((N + 1, zVadd N V k), C, (L, T), S), ⟨m1, p, ?_, fun a ha => b2 a (by omega), zCls0_g h10 (fun a ha => b2 a (by omega)) (by omega) b3 b4, X, Y, E, zCX_fr hc (fun a ha hb => b2 a (by omega))⟩, fun m p h2 => ?_, zOK_add a1 hN2 (by omega), zI5_N a2 (by omega), by omega, a4, a5, a6⟩
      · rw [c9, b1]
        rfl
      · obtain ⟨h20, X', Y', hm⟩ := h2
        obtain ⟨m2, d1, d2, d3, -⟩ := f_madds (n := n) (p := p) h20.2.1 hN2 (k := k) (by omega)
        refine ⟨m2, ?_, fun a ha => d2 a (by omega), zMdl0_g h20 (fun a ha => d2 a (by omega)) (by rw [d2 275 (by omega)]) d3, X', Y', zMX_fr hm (fun a _ _ => d2 a (by omega)) (fun k _ => by rw [d2 275 (by omega)])⟩
        unfold fn_X10_addNode
        rw [f_in, zB_t hx, Option.bind_some]
        dsimp only
        rw [if_neg (by decide), z_m0, Option.bind_some, z_v0, h20.2.1.1, Option.bind_some, if_neg (show ¬ nI N = (12 : Int32) from fun e => hfull (nI_inj (b := 12) (by omega) (by omega) e)), z_mo 0, Option.bind_some, d1, Option.bind_some]
  · refine ⟨-1002, ((N, V), C, (L, T), S), ⟨m, p, ?_, zFK_rf, h1⟩, fun m p h2 => ⟨m, ?_, zFM_rf, h2⟩, zAbs_mono h3 (by omega)⟩
    · unfold fn_X9_addNode
      rw [f_isIn, zB_f hx]
      rfl
    · unfold fn_X10_addNode
      rw [f_in, zB_f hx]
      rfl)
theorem z_slot (hs : s < 2) : ax_ar (zC n m p) 11 (some 190) (nI s) = some (some (193 + 41 * s)) := by
  rw [z_ar (t := 11) (a := 190) (by omega) rfl (by exact hs) (by omega)]
  have hc : s = 0 ∨ s = 1 := by omega
  rcases hc with rfl | rfl <;> rfl
theorem z_sGB (hs : s < 2) : zGB (193 + 41 * s) := by
  have hc : s = 0 ∨ s = 1 := by omega
  rcases hc with rfl | rfl
  · exact Or.inr (Or.inl rfl)
  · exact Or.inr (Or.inr rfl)
theorem z_sv (hs : s < 2) : ax_as (zC n m p) 10 (some 191) (nI s) x = some (zC n (ax_u2 m 191 s x) p) := z_as (by omega) (by omega) rfl (by exact hs) (by omega)
theorem z_sr (hs : s < 2) : ax_al (zC n m p) 10 (some 191) (nI s) = some (m 191 s) := z_al (by omega) rfl (by exact hs) (by omega)
theorem z_kv (hs : s < 2) : ax_as (zC n m p) 10 (some 278) (nI s) x = some (zC n (ax_u2 m 278 s x) p) := z_as (by omega) (by omega) rfl (by exact hs) (by omega)
theorem z_kr (hs : s < 2) : ax_al (zC n m p) 10 (some 278) (nI s) = some (m 278 s) := z_al (by omega) rfl (by exact hs) (by omega)
theorem z_121 (a b : Nat) : (121 : Int32) * nI a + nI b = nI (121 * a + b) := by
  rw [show (121 : Int32) = nI 121 from rfl, pk_mul, nI_add]
theorem z_ke {j : Nat} (hs : s < 2) (hj : j < 121) : ax_as (zC n m p) 9 (some 277) (121 * nI s + nI j) x = some (zC n (ax_u2 m 277 (121 * s + j) x) p) := by
  rw [z_121]
  exact z_as (by omega) (by omega) rfl (by show 121 * s + j < 242; omega) (by omega)
theorem z_kl {j : Nat} (hs : s < 2) (hj : j < 121) : ax_al (zC n m p) 9 (some 277) (121 * nI s + nI j) = some (m 277 (121 * s + j)) := by
  rw [z_121]
  exact z_al (by omega) rfl (by show 121 * s + j < 242; omega) (by omega)
theorem z_mk1 : ax_gr (zC n m p) 7 1 (some 275) = some (some 277) := z_gr (by omega) rfl
theorem z_mk2 : ax_gr (zC n m p) 7 2 (some 275) = some (some 278) := z_gr (by omega) rfl
theorem f_msave_lp (hs : s < 2) : ∀ (d j fu : Nat) (m : Nat → Nat → Int32), j + d = 121 → d < fu → ∃ m', fb_X10_save_15 fu (some 275) (nI s) (nI j) (zC n m p) = some (m 276 0, zC n m' p) ∧ m' 278 s = 1 ∧ (∀ t, t ≠ s → m' 278 t = m 278 t) ∧ (∀ a, a ≠ 277 → a ≠ 278 → m' a = m a) ∧ ∀ q, m' 277 q = if 121 * s + j ≤ q ∧ q < 121 * s + 121 then m 276 (q - 121 * s) else m 277 q := by
  intro d
  induction d with
  | zero =>
    intro j fu m hj hf
    obtain ⟨fu, rfl⟩ : ∃ k, fu = k + 1 := ⟨fu - 1, by omega⟩
    obtain rfl : j = 121 := by omega
    refine ⟨ax_u2 m 278 s 1, ?_, ax_u2_self, fun t ht => ax_u2_nk ht, fun a _ h2 => zu2_row h2, fun q => by rw [if_neg (by omega), zu2_row (by omega)]⟩
    unfold fb_X10_save_15
    rw [if_pos (show (121 : Int32) ≤ nI 121 by decide), z_mk2, Option.bind_some, z_kv hs, Option.bind_some, z_m0, Option.bind_some, z_v0, zu2_row (show 276 ≠ 278 by omega), Option.bind_some]
  | succ d ih =>
    intro j fu m hj hf
    obtain ⟨fu, rfl⟩ : ∃ k, fu = k + 1 := ⟨fu - 1, by omega⟩
    obtain ⟨m', e1, e2, e3, e4, e5⟩ := ih (j + 1) fu (ax_u2 m 277 (121 * s + j) (m 276 j)) (by omega) (by omega)
    refine ⟨m', ?_, e2, fun t ht => by rw [e3 t ht, zu2_row (by omega)], fun a h1 h2 => by rw [e4 a h1 h2, zu2_row h1], fun q => ?_⟩
    · unfold fb_X10_save_15
      rw [if_neg (show ¬ (121 : Int32) ≤ nI j from nI_ge (b := 121) (by omega) (by omega)), z_mk1, Option.bind_some, z_m0, Option.bind_some, z_v (by omega), Option.bind_some, z_ke hs (by omega), Option.bind_some, nI_1, e1, zu2_row (show 276 ≠ 277 by omega)]
    · rw [e5 q, zu2_row (show 276 ≠ 277 by omega)]
      by_cases hq : q = 121 * s + j
      · subst hq
        rw [if_neg (by omega), ax_u2_self, if_pos (by omega), show 121 * s + j - 121 * s = j by omega]
      · rw [ax_u2_nk hq]
        by_cases h1 : 121 * s + j ≤ q ∧ q < 121 * s + 121
        · rw [if_pos h1, if_pos (by omega)]
        · rw [if_neg h1, if_neg (by omega)]
theorem f_mrest_lp (hs : s < 2) : ∀ (d j fu : Nat) (m : Nat → Nat → Int32), j + d = 121 → d < fu → ∃ m', fb_X10_restore_28 fu (some 275) (nI s) (nI j) (zC n m p) = some (m' 276 0, zC n (ax_u2 m' 275 4 0) p) ∧ (∀ a, a ≠ 276 → m' a = m a) ∧ (∀ q, j ≤ q → q < 121 → m' 276 q = m 277 (121 * s + q)) ∧ ∀ q, q < j → m' 276 q = m 276 q := by
  intro d
  induction d with
  | zero =>
    intro j fu m hj hf
    obtain ⟨fu, rfl⟩ : ∃ k, fu = k + 1 := ⟨fu - 1, by omega⟩
    obtain rfl : j = 121 := by omega
    refine ⟨m, ?_, fun _ _ => rfl, fun q h1 h2 => by omega, fun _ _ => rfl⟩
    unfold fb_X10_restore_28
    rw [if_pos (show (121 : Int32) ≤ nI 121 by decide), z_m2, Option.bind_some, z_m0, Option.bind_some, z_v0, zu2_row (show 276 ≠ 275 by omega), Option.bind_some]
  | succ d ih =>
    intro j fu m hj hf
    obtain ⟨fu, rfl⟩ : ∃ k, fu = k + 1 := ⟨fu - 1, by omega⟩
    obtain ⟨m', e1, e2, e3, e4⟩ := ih (j + 1) fu (ax_u2 m 276 j (m 277 (121 * s + j))) (by omega) (by omega)
    refine ⟨m', ?_, fun a ha => by rw [e2 a ha, zu2_row ha], fun q h1 h2 => ?_, fun q hq => by rw [e4 q (by omega), ax_u2_nk (by omega)]⟩
    · unfold fb_X10_restore_28
      rw [if_neg (show ¬ (121 : Int32) ≤ nI j from nI_ge (b := 121) (by omega) (by omega)), z_m0, Option.bind_some, z_mk1, Option.bind_some, z_kl hs (by omega), Option.bind_some, z_vs (by omega), Option.bind_some, nI_1, e1]
    · by_cases hq : q = j
      · subst hq
        rw [e4 q (by omega), ax_u2_self]
      · rw [e3 q (by omega) h2, zu2_row (by omega)]
theorem c_save : zop n (fn_X9_save (some 9) x) (fn_X10_save (some 275) x) := zop_mk (fun m p A B h1 h2 h3 hB => by
  obtain ⟨⟨N, V⟩, C, ⟨L, T⟩, S⟩ := A
  obtain ⟨h10, X, Y, E, hc⟩ := id h1
  obtain ⟨a1, a2, a3, a4, a5, a6⟩ := id h3
  have hN := a1.1
  have hG := h10.2.1.2.1
  by_cases hx : 0 ≤ x ∧ x ≤ 1
  · obtain ⟨s, hs, rfl⟩ := z_in (N := 1) (by omega) hx.1 hx.2
    have hs2 : s < 2 := by omega
    obtain ⟨m1, b1, b2, b3, b4⟩ := f_gcopy (n := n) (p := p) (z_sGB hs2) z10 (by omega) a1 hG
    have u1 : ∀ a, a ≠ 191 → ax_u2 m1 191 s 1 a = m1 a := fun a ha => zu2_row ha
    have hfr : ∀ a, a < 191 ∨ a = 192 → ax_u2 m1 191 s 1 a = m a := fun a ha => by rw [u1 a (by omega), b2 a (by omega)]
    refine ⟨nI N, ((N, V), C, (L, T), va_up S s (some (N, V))), ⟨ax_u2 m1 191 s 1, p, ?_, fun a ha => by rw [u1 a (by omega), b2 a (by omega)], ?_, X, Y, E, zCX_fr hc (fun a ha hb => hfr a (by omega))⟩, fun m p h2 => ?_, a1, a2, by omega, a4, a5, fun t M W ht => ?_⟩
    · unfold fn_X9_save
      rw [f_isIn, zB_t hx, Option.bind_some]
      dsimp only
      rw [if_neg (by decide), z_cr, show zR p 9 3 = some 190 from rfl, Option.bind_some, z_slot hs2, Option.bind_some, z_cr, show zR p 9 0 = some 10 from rfl, Option.bind_some, z_sh (t := 1) (a := 193 + 41 * s) (by omega) (by rw [(zGB_ok (n := n) (p := p) (z_sGB hs2)).2.2.1]), Option.bind_some, b1, Option.bind_some, z_cr, show zR p 9 4 = some 191 from rfl, Option.bind_some, z_sv hs2, Option.bind_some, z_cr, show zR p 9 0 = some 10 from rfl, Option.bind_some, z_g1, hfr 10 (by omega), hG.1, Option.bind_some]
    · obtain ⟨hT, ⟨-, -, hO⟩, hBl, ⟨t1, t2⟩, hS⟩ := h10
      refine ⟨fun a j ha => by rw [hfr a (by omega)]; exact hT a j ha, ⟨hN, zGC_f1 hG hN (fun a ha => hfr a (by omega)), zOC_f1 hO (fun a ha => hfr a (by omega))⟩, fun k hk => by rw [hfr _ (by omega)]; exact hBl k hk, ⟨by rw [hfr _ (by omega)]; exact t1, fun j hj => by rw [hfr _ (by omega)]; exact t2 j hj⟩, fun t ht => ?_⟩
      by_cases hts : t = s
      · subst hts
        rw [va_up_self]
        exact ⟨ax_u2_self, hN, zGC_cg b3 hN (fun a ha hb => u1 a (by omega))⟩
      · rw [va_up_ne _ _ hts]
        exact zSlC_cg2 (hS t ht) ⟨by rw [ax_u2_nk hts, b2 191 (by omega)], fun a ha hb => by rw [u1 a (by omega), b2 a (by omega)]⟩
    · obtain ⟨h20, X', Y', hm⟩ := h2
      obtain ⟨m2, d1, d2, d3, d4, d5⟩ := f_msave_lp (n := n) (p := p) hs2 121 0 10000 m rfl (by omega)
      refine ⟨m2, ?_, fun a ha => d4 a (by omega) (by omega), ?_, X', Y', zMX_fr hm (fun a _ _ => d4 a (by omega) (by omega)) (fun k _ => by rw [d4 275 (by omega) (by omega)])⟩
      · unfold fn_X10_save
        rw [f_in, zB_t hx, Option.bind_some]
        dsimp only
        rw [if_neg (by decide)]
        rw [nI_0] at d1
        rw [d1, h20.2.1.1]
      · obtain ⟨hT, hGM, ⟨t1, t2⟩, hS⟩ := h20
        refine ⟨fun k hk => by rw [d4 285 (by omega) (by omega), d4 286 (by omega) (by omega)]; exact hT k hk, zGM_fr hGM (d4 276 (by omega) (by omega)), ⟨by rw [d4 275 (by omega) (by omega)]; exact t1, fun j hj => by rw [d4 284 (by omega) (by omega)]; exact t2 j hj⟩, fun t ht => ?_⟩
        by_cases hts : t = s
        · subst hts
          rw [va_up_self]
          refine ⟨d2, hN, zGMr_cg (zGM_r.mp hGM) hN (fun k hk => ?_)⟩
          show m2 277 (121 * t + k) = _
          rw [d5, if_pos (by omega), show 121 * t + k - 121 * t = k by omega]
        · rw [va_up_ne _ _ hts]
          exact zSlM_cg2 (hS t ht) ⟨d3 t hts, fun k hk => by rw [d5, if_neg (by omega)]⟩
    · by_cases hts : t = s
      · subst hts
        rw [va_up_self] at ht
        cases ht
        exact a1
      · rw [va_up_ne _ _ hts] at ht
        exact a6 t M W ht
  · refine ⟨-1001, ((N, V), C, (L, T), S), ⟨m, p, ?_, zFK_rf, h1⟩, fun m p h2 => ⟨m, ?_, zFM_rf, h2⟩, zAbs_mono h3 (by omega)⟩
    · unfold fn_X9_save
      rw [f_isIn, zB_f hx]
      rfl
    · unfold fn_X10_save
      rw [f_in, zB_f hx]
      rfl)
theorem c_restore : zop n (fn_X9_restore (some 9) x) (fn_X10_restore (some 275) x) := zop_mk (fun m p A B h1 h2 h3 hB => by
  obtain ⟨⟨N, V⟩, C, ⟨L, T⟩, S⟩ := A
  obtain ⟨h10, X, Y, E, hc⟩ := id h1
  obtain ⟨a1, a2, a3, a4, a5, a6⟩ := id h3
  by_cases hx : 0 ≤ x ∧ x ≤ 1
  · obtain ⟨s, hs, rfl⟩ := z_in (N := 1) (by omega) hx.1 hx.2
    have hs2 : s < 2 := by omega
    have hSc := h10.2.2.2.2 s hs2
    rcases hSs : S s with _ | ⟨M, W⟩
    · rw [hSs] at hSc
      have hfl : m 191 s = 0 := hSc
      refine ⟨-1003, ((N, V), C, (L, T), S), ⟨m, p, ?_, zFK_rf, h1⟩, fun m p h2 => ⟨m, ?_, zFM_rf, h2⟩, zAbs_mono h3 (by omega)⟩
      · unfold fn_X9_restore
        rw [f_isIn, zB_t hx, Option.bind_some]
        dsimp only
        rw [if_neg (by decide), z_cr, show zR p 9 4 = some 191 from rfl, Option.bind_some, z_sr hs2, hfl, Option.bind_some, if_pos rfl]
      · have hSm := h2.1.2.2.2 s hs2
        rw [hSs] at hSm
        have hfm : m 278 s = 0 := hSm
        unfold fn_X10_restore
        rw [f_in, zB_t hx, Option.bind_some]
        dsimp only
        rw [if_neg (by decide), z_mk2, Option.bind_some, z_kr hs2, hfm, Option.bind_some, if_pos rfl]
    · rw [hSs] at hSc
      obtain ⟨hfl, hM, hGs⟩ := hSc
      have hW := a6 s M W hSs
      obtain ⟨m1, b1, b2, b3, b4⟩ := f_gcopy (n := n) (p := p) z10 (z_sGB hs2) (by omega) hW hGs
      have u1 : ∀ a, a ≠ 51 → ax_u2 m1 51 2 0 a = m1 a := fun a ha => zu2_row ha
      refine ⟨nI M, ((M, W), zcl C, (L, T), S), ⟨ax_u2 m1 51 2 0, p, ?_, fun a ha => by rw [u1 a (by omega), b2 a (by omega)], zCls0_g h10 (fun a ha => by rw [u1 a (by omega), b2 a (by omega)]) hM (zGC_f1 b3 hM (fun a ha => u1 a (by omega))) (zOC_f1 b4 (fun a ha => u1 a (by omega))), X, Y, E, zCa_cl (zCX_fr hc (fun a ha hb => b2 a (by omega)))⟩, fun m p h2 => ?_, hW, zI5_cl a2, by rw [zcl_1]; omega, a4, a5, a6⟩
      · unfold fn_X9_restore
        rw [f_isIn, zB_t hx, Option.bind_some]
        dsimp only
        rw [if_neg (by decide), z_cr, show zR p 9 4 = some 191 from rfl, Option.bind_some, z_sr hs2, hfl, Option.bind_some, if_neg (by decide), z_cr, show zR p 9 0 = some 10 from rfl, Option.bind_some, z_cr, show zR p 9 3 = some 190 from rfl, Option.bind_some, z_slot hs2, Option.bind_some, z_gs, Option.bind_some, b1, Option.bind_some, z_cr, show zR p 9 1 = some 51 from rfl, Option.bind_some, z_cs, Option.bind_some, f_empty, Option.bind_some, z_cr, show zR p 9 0 = some 10 from rfl, Option.bind_some, z_g1, u1 10 (by omega), b3.1, Option.bind_some]
      · obtain ⟨h20, X', Y', hm⟩ := h2
        have hSm := h20.2.2.2 s hs2
        rw [hSs] at hSm
        obtain ⟨hfm, -, hGr⟩ := hSm
        obtain ⟨m2, d1, d2, d3, -⟩ := f_mrest_lp (n := n) (p := p) hs2 121 0 10000 m rfl (by omega)
        have hG2 : zGM m2 M W := zGM_r.mpr (zGMr_cg hGr hM (fun k hk => d3 k (by omega) hk))
        have u2 : ∀ a, a ≠ 275 → ax_u2 m2 275 4 0 a = m2 a := fun a ha => zu2_row ha
        refine ⟨ax_u2 m2 275 4 0, ?_, fun a ha => by rw [u2 a (by omega), d2 a (by omega)], zMdl0_g h20 (fun a ha => by rw [u2 a (by omega), d2 a (by omega)]) (by rw [ax_u2_nk (by omega), d2 275 (by omega)]) (zGM_fr hG2 (u2 276 (by omega))), X', Y', zMa_cl (zMX_fr hm (fun a _ _ => d2 a (by omega)) (fun k _ => by rw [d2 275 (by omega)]))⟩
        unfold fn_X10_restore
        rw [f_in, zB_t hx, Option.bind_some]
        dsimp only
        rw [nI_0] at d1
        rw [if_neg (by decide), z_mk2, Option.bind_some, z_kr hs2, hfm, Option.bind_some, if_neg (by decide), d1, hG2.1]
  · refine ⟨-1001, ((N, V), C, (L, T), S), ⟨m, p, ?_, zFK_rf, h1⟩, fun m p h2 => ⟨m, ?_, zFM_rf, h2⟩, zAbs_mono h3 (by omega)⟩
    · unfold fn_X9_restore
      rw [f_isIn, zB_f hx]
      rfl
    · unfold fn_X10_restore
      rw [f_in, zB_f hx]
      rfl)
end CALLS4
