/-! ===== calls: faultPosition, faultDepth ===== -/
def zop7 {α : Type} (n : Nat) (F G : ax_S → Option (α × ax_S)) : Prop := ∀ (m : Nat → Nat → Int32) (p : Nat → Nat) (A : zA) (B : Nat), (∀ j, j < 8 → m 7 j = ax_chars.getD j 0) → zCls m p A → zMdl m A → zAbs B A → B < 2 ^ 30 → ∃ r m1 p1 m2 A', F (zC n m p) = some (r, zC n m1 p1) ∧ G (zC n m1 p1) = some (r, zC n m2 p1) ∧ zFK m m1 ∧ zFM m1 m2 ∧ zCls m1 p1 A' ∧ zMdl m2 A' ∧ zAbs (B + 100) A'
theorem zop7_of {α : Type} {n : Nat} {F G : ax_S → Option (α × ax_S)} (h : zop n F G) : zop7 n F G := fun m p A B _ h1 h2 h3 h4 => h m p A B h1 h2 h3 h4
theorem zop7_mk {α : Type} {n : Nat} {F G : ax_S → Option (α × ax_S)} (h : ∀ (m : Nat → Nat → Int32) (p : Nat → Nat) (A : zA) (B : Nat), (∀ j, j < 8 → m 7 j = ax_chars.getD j 0) → zCls m p A → zMdl m A → zAbs B A → B < 2 ^ 30 → ∃ r A', (∃ m1 p1, F (zC n m p) = some (r, zC n m1 p1) ∧ zFK m m1 ∧ zCls m1 p1 A') ∧ (∀ m p, zMdl m A → ∃ m2, G (zC n m p) = some (r, zC n m2 p) ∧ zFM m m2 ∧ zMdl m2 A') ∧ zAbs (B + 100) A') : zop7 n F G := by
  intro m p A B h7 h1 h2 h3 h4
  obtain ⟨r, A', ⟨m1, p1, a1, a2, a3⟩, hm, hA⟩ := h m p A B h7 h1 h2 h3 h4
  obtain ⟨m2, b1, b2, b3⟩ := hm m1 p1 (zMdl_fr h2 a2)
  exact ⟨r, m1, p1, m2, A', a1, b1, a2, b2, a3, b3, hA⟩
section FAULTS
variable {n L N P F B k i e : Nat} {m m' : Nat → Nat → Int32} {p T X Y : Nat → Nat} {V : Nat → Nat → Int32} {C : zSt} {E : Nat → Nat → Nat} {S : Nat → Option (Nat × (Nat → Nat → Int32))}
theorem zCls0_fx (h : zCls0 m N V L T S) (hf : zFx m m') : zCls0 m' N V L T S := by
  obtain ⟨hT, ⟨hN, hG, hO⟩, hB, ⟨t1, t2⟩, hS⟩ := h
  exact ⟨zT_fx hT hf, ⟨hN, zGC_f1 hG hN (fun a ha => hf a (by omega)), zOC_f1 hO (fun a ha => hf a (by omega))⟩, fun k hk => by rw [hf 192 (by omega)]; exact hB k hk, ⟨by rw [hf 150 (by omega)]; exact t1, fun j hj => by rw [hf 151 (by omega)]; exact t2 j hj⟩, fun s hs => zSlC_cg hs (hS s hs) ⟨hf 191 (by omega), fun a h1 h2 => hf a (by omega)⟩⟩
theorem zCls_fx (h0 : zCls0 m N V L T S) (hc : zCa m p X Y C E) (hf : zFx m m') : zFK m m' ∧ zCls m' p ((N, V), C, (L, T), S) := ⟨fun a ha => hf a (by omega), zCls0_fx h0 hf, X, Y, E, zCX_fr hc (fun a _ _ => hf a (by omega))⟩
theorem zMdl_fq (h : zMdl m ((N, V), C, (L, T), S)) (hf : zFq m m') : zFM m m' ∧ zMdl m' ((N, V), C, (L, T), S) := by
  obtain ⟨h20, X', Y', hm⟩ := h
  exact ⟨fun a ha => hf.1 a (by omega) (by omega), zMdl0_cg h20 (fun a ha => hf.1 a (by omega) (by omega)) (hf.2 12 (by omega)), X', Y', zMX_fr hm (fun a _ _ => hf.1 a (by omega) (by omega)) (fun k hk => hf.2 k (by omega))⟩
theorem zEv_of (h0 : zCls0 m N V L T S) (h7 : ∀ j, j < 8 → m 7 j = ax_chars.getD j 0) (hL : L ≤ 80) (hT : ∀ j, T j < 128) : zEv m L T := ⟨h0.1, h7, h0.2.2.2.1, hL, hT⟩
theorem zEm_of (h0 : zMdl0 m N V L T S) (hL : L ≤ 80) (hT : ∀ j, T j < 128) : zEm m L T N := ⟨h0.2.2.1, h0.1, h0.2.1.1, hL, hT⟩
/-- the class counts open parentheses -/
theorem f_open_lp {Q : Nat} (hE : zEv m L T) (hQ : Q ≤ L) : ∀ (d i f : Nat), i + d = Q → d < f → fb_X8_openAhead_4 f (some 150) (nI Q) (zoc T i) (nI i) (zC n m p) = some (zoc T Q, zC n m p) := by
  have hL := hE.2.2.2.1
  intro d
  induction d with
  | zero =>
    intro i f hi hf
    obtain ⟨f, rfl⟩ : ∃ k, f = k + 1 := ⟨f - 1, by omega⟩
    obtain rfl : i = Q := by omega
    unfold fb_X8_openAhead_4
    rw [if_pos (nI_le (Nat.le_refl _) (by omega))]
  | succ d ih =>
    intro i f hi hf
    obtain ⟨f, rfl⟩ : ∃ k, f = k + 1 := ⟨f - 1, by omega⟩
    have hT := hE.2.2.2.2 i
    have ec : zch T L i = nI (T i) := if_pos (by omega)
    have h1 := ih (i + 1) f (by omega) (by omega)
    unfold fb_X8_openAhead_4
    rw [if_neg (nI_ge (by omega) (by omega)), z_tsh, Option.bind_some, f_chr hE (by omega), Option.bind_some, ec]
    dsimp only
    rw [nI_1]
    by_cases h40 : T i = 40
    · have : zoc T (i + 1) = zoc T i + 1 := if_pos h40
      rw [if_pos (show nI (T i) = (40 : Int32) by rw [h40]; rfl), ← this]
      exact h1
    · rw [if_neg (show ¬ nI (T i) = (40 : Int32) from fun q => h40 (nI_inj (b := 40) (by omega) (by omega) q)), z_tsh, Option.bind_some, f_chr hE (by omega), Option.bind_some, ec]
      dsimp only
      by_cases h41 : T i = 41
      · have : zoc T (i + 1) = zoc T i + (-1) := by
          show (if T i = 40 then _ else if T i = 41 then _ else _) = _
          rw [if_neg h40, if_pos h41]
        rw [if_pos (show nI (T i) = (41 : Int32) by rw [h41]; rfl), ← this]
        exact h1
      · have : zoc T (i + 1) = zoc T i := zoc_s h40 h41
        rw [if_neg (show ¬ nI (T i) = (41 : Int32) from fun q => h41 (nI_inj (b := 41) (by omega) (by omega) q)), ← this]
        exact h1
theorem f_open {Q : Nat} (hE : zEv m L T) (hQ : Q ≤ L) : fn_X8_openAhead (some 150) (nI Q) (zC n m p) = some (zoc T Q, zC n m p) := by
  have h := f_open_lp (n := n) (p := p) hE hQ Q 0 10000 (by omega) (by have := hE.2.2.2.1; omega)
  rw [nI_0] at h
  exact h
theorem zrdt_no {f : Nat × Nat} (hT : ∀ j, T j < 128) (hN : N ≤ 12) (h : zrdt T L N = .inl f) : f.1 ≤ L ∧ zoc T f.1 = nI f.2 := by
  have hok := zpx_ok (L := L) (N := N) hT hN 6 0 0 0 (fun _ _ => 0) (by omega)
  have h0 : zoc T 0 = nI 0 := nI_0.symm
  unfold zrdt at h
  cases hz : zpx T L N 6 0 0 0 (fun _ _ => 0) with
  | inl g =>
    rw [hz] at h hok
    cases h
    exact ⟨hok.1, hok.2 h0⟩
  | inr r =>
    rw [hz] at h hok
    dsimp only at h
    obtain ⟨a1, a2, -, -, a5, -⟩ := hok
    by_cases hlt : r.1 < L
    · rw [if_pos hlt] at h
      cases h
      exact ⟨a2, a5 h0⟩
    · rw [if_neg hlt] at h
      cases h
theorem m_isText (hN : N ≤ 12) (hE : zEm m L T N) : match zrdt T L N with
    | .inl f => ∃ m', fn_X10_isText (some 275) (zC n m p) = some (0, zC n m' p) ∧ m' 275 19 = nI f.1 ∧ m' 275 20 = nI f.2 ∧ zFq m m'
    | .inr r => ∃ m', fn_X10_isText (some 275) (zC n m p) = some (1, zC n m' p) ∧ m' 275 25 = nI r.2.2.1 ∧ zTold m' r.2.2.1 N r.2.2.2 ∧ (r.2.1 < 1000 ∧ m' 293 0 = nI r.2.1) ∧ zFq m m' := by
  have hL := hE.2.2.2.1
  generalize hm1 : ax_u2 m 275 19 0 = m1
  generalize hm2 : ax_u2 m1 275 20 0 = m2
  generalize hm3 : ax_u2 m2 275 25 0 = m3
  generalize hm4 : ax_u2 m3 275 27 0 = m4
  have f4 : zFq m m4 := ⟨fun a h1 h2 => by rw [← hm4, zu2_row h1, ← hm3, zu2_row h1, ← hm2, zu2_row h1, ← hm1, zu2_row h1], fun k hk => by rw [← hm4, ax_u2_nk (by omega), ← hm3, ax_u2_nk (by omega), ← hm2, ax_u2_nk (by omega), ← hm1, ax_u2_nk (by omega)]⟩
  have s4 : zMs m4 0 0 0 0 N (fun _ _ => 0) := ⟨⟨by rw [← hm4, ax_u2_nk (by omega), ← hm3, ax_u2_nk (by omega), ← hm2, ax_u2_nk (by omega), ← hm1, ax_u2_self]; exact nI_0.symm, by rw [← hm4, ax_u2_nk (by omega), ← hm3, ax_u2_nk (by omega), ← hm2, ax_u2_self]; exact nI_0.symm, by rw [← hm4, ax_u2_nk (by omega), ← hm3, ax_u2_self]; exact nI_0.symm, by rw [← hm4, ax_u2_self]; exact nI_0.symm⟩, fun i hi => by omega⟩
  have hE4 := zEm_fq hE f4
  have hx := m_run (n := n) (p := p) (T := T) (L := L) hN 6 0 rfl 0 0 0 (fun _ _ => 0) m4 hE4 s4 (by omega) (by omega) (by omega)
  have hok := zpx_ok (L := L) (N := N) hE.2.2.2.2 hN 6 0 0 0 (fun _ _ => 0) (by omega)
  have hun : ∀ (b : Int32) (m5 : Nat → Nat → Int32), fn_X10_begins (some 275) (zC n m4 p) = some (b, zC n m5 p) → fi_X10_isText (some 275) (zC n m p) = fb_X10_isText_25 10000 (some 275) b (zC n m5 p) := by
    intro b m5 hb
    unfold fi_X10_isText
    rw [z_m2, hm1, Option.bind_some, z_m2, hm2, Option.bind_some, z_m2, hm3, Option.bind_some, z_m2, hm4, Option.bind_some, z_mo 0, Option.bind_some, hb, Option.bind_some]
  have h0 : ∀ (fu : Nat) (m5 : Nat → Nat → Int32), fb_X10_isText_25 (fu + 1) (some 275) 0 (zC n m5 p) = some (0, zC n m5 p) := by
    intro fu m5
    unfold fb_X10_isText_25 fb_X10_isText_163
    rw [if_pos rfl, if_pos rfl]
  unfold zrdt
  cases hz : zpx T L N 6 0 0 0 (fun _ _ => 0) with
  | inl f =>
    rw [hz] at hx
    obtain ⟨b, m5, m6, t, a1, a2, a3, a4, a5, a6⟩ := hx
    have ht : t ≤ 1456 := a3
    refine ⟨m6, ?_, a4, a5, zFq_tr f4 a6⟩
    unfold fn_X10_isText
    rw [hun b m5 a1, show (10000 : Nat) = (9999 - t + 1) + t by omega, a2, h0, zbz0]
  | inr r =>
    rw [hz] at hx hok
    obtain ⟨m5, m6, t, a1, a2, a3, a4, a5, a6, a7, a8⟩ := hx
    have hr : r.1 ≤ L := hok.2.1
    have ht : t ≤ 1456 := a3
    have h12 : m6 275 12 = nI L := by rw [a8.2 12 (by omega), f4.2 12 (by omega)]; exact hE.1.1
    have h1 : ∀ fu : Nat, fb_X10_isText_25 (fu + 1) (some 275) 1 (zC n m6 p) = if r.1 < L then some (0, zC n m6 p) else some (1, zC n m6 p) := by
      intro fu
      unfold fb_X10_isText_25 fb_X10_isText_163
      rw [if_neg (by decide), z_m1, a4.1.2.1, Option.bind_some, if_pos (by decide), if_neg (by decide), z_m1, a4.1.1, Option.bind_some, z_m1, h12, Option.bind_some]
      by_cases hlt : r.1 < L
      · rw [if_neg (fun q => absurd (nI_inj (by omega) (by omega) q) (by omega)), if_pos hlt]
      · rw [if_pos (by rw [show r.1 = L by omega]), if_neg hlt]
    have hrun : fi_X10_isText (some 275) (zC n m p) = if r.1 < L then some (0, zC n m6 p) else some (1, zC n m6 p) := by
      rw [hun 1 m5 a1, show (10000 : Nat) = (9999 - t + 1) + t by omega, a2, h1]
    dsimp only
    by_cases hlt : r.1 < L
    · rw [if_pos hlt] at hrun ⊢
      refine ⟨m6, ?_, a4.1.1, a4.1.2.1, zFq_tr f4 a8⟩
      unfold fn_X10_isText
      rw [hrun, zbz0]
    · rw [if_neg hlt] at hrun ⊢
      refine ⟨m6, ?_, a4.1.2.2.1, a4.2, a5, zFq_tr f4 a8⟩
      unfold fn_X10_isText
      rw [hrun, zbz1]
theorem c_faultPosition : zop7 n (fn_X9_faultPosition (some 9)) (fn_X10_faultPosition (some 275)) := zop7_mk (fun m p A B h7 h1 h2 h3 hB => by
  obtain ⟨⟨N, V⟩, C, ⟨L, T⟩, S⟩ := A
  obtain ⟨h10, X, Y, E, hc⟩ := id h1
  obtain ⟨a1, a2, a3, a4, a5, a6⟩ := id h3
  have hN := a1.1
  have hg := h10.2.1.2.1.1
  have hr := f_read (n := n) (p := p) hN (zEv_of h10 h7 a4 a5)
  have hm := fun m p (h : zMdl m ((N, V), C, (L, T), S)) => m_isText (n := n) (p := p) hN (zEm_of h.1 a4 a5)
  cases hz : zrdt T L N with
  | inl f =>
    rw [hz] at hr
    obtain ⟨v, m1, e1, e2, e3, e4⟩ := hr
    obtain ⟨k1, k2⟩ := zCls_fx h10 hc e4
    refine ⟨nI f.1, ((N, V), C, (L, T), S), ⟨m1, p, ?_, k1, k2⟩, fun m p h => ?_, zAbs_mono h3 (by omega)⟩
    · unfold fn_X9_faultPosition
      rw [z_cr, show zR p 9 2 = some 149 from rfl, Option.bind_some, z_cr, show zR p 9 0 = some 10 from rfl, Option.bind_some, z_g1, hg, Option.bind_some, z_rsh, Option.bind_some, e1, Option.bind_some]
      dsimp only
      rw [z_cr, show zR p 9 2 = some 149 from rfl, Option.bind_some, z_rd, e2, Option.bind_some, if_neg (by decide), Option.bind_some, z_rd, e3, Option.bind_some]
    · have h4 := hm m p h
      rw [hz] at h4
      obtain ⟨m2, g1, g2, g3, g4⟩ := h4
      obtain ⟨l1, l2⟩ := zMdl_fq h g4
      refine ⟨m2, ?_, l1, l2⟩
      unfold fn_X10_faultPosition
      rw [z_mo 0, Option.bind_some, g1, Option.bind_some]
      dsimp only
      rw [if_pos rfl, z_m1, g2, Option.bind_some]
  | inr r =>
    rw [hz] at hr
    obtain ⟨m1, e1, e2, e3, e4, e5⟩ := hr
    obtain ⟨k1, k2⟩ := zCls_fx h10 hc e4
    refine ⟨-1005, ((N, V), C, (L, T), S), ⟨m1, p, ?_, k1, k2⟩, fun m p h => ?_, zAbs_mono h3 (by omega)⟩
    · unfold fn_X9_faultPosition
      rw [z_cr, show zR p 9 2 = some 149 from rfl, Option.bind_some, z_cr, show zR p 9 0 = some 10 from rfl, Option.bind_some, z_g1, hg, Option.bind_some, z_rsh, Option.bind_some, e1, Option.bind_some]
      dsimp only
      rw [z_cr, show zR p 9 2 = some 149 from rfl, Option.bind_some, z_rd, e2, Option.bind_some, if_pos rfl]
    · have h4 := hm m p h
      rw [hz] at h4
      obtain ⟨m2, g1, g2, g3, g4, g5⟩ := h4
      obtain ⟨l1, l2⟩ := zMdl_fq h g5
      refine ⟨m2, ?_, l1, l2⟩
      unfold fn_X10_faultPosition
      rw [z_mo 0, Option.bind_some, g1, Option.bind_some]
      dsimp only
      rw [if_neg (by decide)])
theorem c_faultDepth : zop7 n (fn_X9_faultDepth (some 9)) (fn_X10_faultDepth (some 275)) := zop7_mk (fun m p A B h7 h1 h2 h3 hB => by
  obtain ⟨⟨N, V⟩, C, ⟨L, T⟩, S⟩ := A
  obtain ⟨h10, X, Y, E, hc⟩ := id h1
  obtain ⟨a1, a2, a3, a4, a5, a6⟩ := id h3
  have hN := a1.1
  have hg := h10.2.1.2.1.1
  have hE := zEv_of h10 h7 a4 a5
  have hr := f_read (n := n) (p := p) hN hE
  have hm := fun m p (h : zMdl m ((N, V), C, (L, T), S)) => m_isText (n := n) (p := p) hN (zEm_of h.1 a4 a5)
  cases hz : zrdt T L N with
  | inl f =>
    rw [hz] at hr
    obtain ⟨v, m1, e1, e2, e3, e4⟩ := hr
    obtain ⟨k1, k2⟩ := zCls_fx h10 hc e4
    obtain ⟨o1, o2⟩ := zrdt_no a5 hN hz
    refine ⟨nI f.2, ((N, V), C, (L, T), S), ⟨m1, p, ?_, k1, k2⟩, fun m p h => ?_, zAbs_mono h3 (by omega)⟩
    · unfold fn_X9_faultDepth
      rw [z_cr, show zR p 9 2 = some 149 from rfl, Option.bind_some, z_cr, show zR p 9 0 = some 10 from rfl, Option.bind_some, z_g1, hg, Option.bind_some, z_rsh, Option.bind_some, e1, Option.bind_some]
      dsimp only
      rw [z_cr, show zR p 9 2 = some 149 from rfl, Option.bind_some, z_rd, e2, Option.bind_some, if_neg (by decide), Option.bind_some, z_rr, show zR p 149 0 = some 150 from rfl, Option.bind_some, Option.bind_some, z_rd, e3, Option.bind_some, z_tsh, Option.bind_some, f_open (zEv_fx hE e4) o1, Option.bind_some, o2]
    · have h4 := hm m p h
      rw [hz] at h4
      obtain ⟨m2, g1, g2, g3, g4⟩ := h4
      obtain ⟨l1, l2⟩ := zMdl_fq h g4
      refine ⟨m2, ?_, l1, l2⟩
      unfold fn_X10_faultDepth
      rw [z_mo 0, Option.bind_some, g1, Option.bind_some]
      dsimp only
      rw [if_pos rfl, z_m1, g3, Option.bind_some]
  | inr r =>
    rw [hz] at hr
    obtain ⟨m1, e1, e2, e3, e4, e5⟩ := hr
    obtain ⟨k1, k2⟩ := zCls_fx h10 hc e4
    refine ⟨-1005, ((N, V), C, (L, T), S), ⟨m1, p, ?_, k1, k2⟩, fun m p h => ?_, zAbs_mono h3 (by omega)⟩
    · unfold fn_X9_faultDepth
      rw [z_cr, show zR p 9 2 = some 149 from rfl, Option.bind_some, z_cr, show zR p 9 0 = some 10 from rfl, Option.bind_some, z_g1, hg, Option.bind_some, z_rsh, Option.bind_some, e1, Option.bind_some]
      dsimp only
      rw [z_cr, show zR p 9 2 = some 149 from rfl, Option.bind_some, z_rd, e2, Option.bind_some, if_pos rfl]
    · have h4 := hm m p h
      rw [hz] at h4
      obtain ⟨m2, g1, g2, g3, g4, g5⟩ := h4
      obtain ⟨l1, l2⟩ := zMdl_fq h g5
      refine ⟨m2, ?_, l1, l2⟩
      unfold fn_X10_faultDepth
      rw [z_mo 0, Option.bind_some, g1, Option.bind_some]
      dsimp only
      rw [if_neg (by decide)])
end FAULTS
