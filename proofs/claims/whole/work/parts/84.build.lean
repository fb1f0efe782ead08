/-! ===== calls: build ===== -/
section BUILD
variable {n L N P F B k i e t : Nat} {m m' m0 : Nat → Nat → Int32} {p T X Y : Nat → Nat} {V W : Nat → Nat → Int32} {C : zSt} {E : Nat → Nat → Nat} {S : Nat → Option (Nat × (Nat → Nat → Int32))}
theorem zrdt_ok {r : Nat × Nat × Nat × (Nat → Nat → Int32)} (hT : ∀ j, T j < 128) (hN : N ≤ 12) (hL : L ≤ 80) (h : zrdt T L N = .inr r) : zWOK N r.2.2.1 r.2.2.2 ∧ zvOK N r.2.2.1 r.2.1 ∧ r.2.2.1 ≤ 26 := by
  have hok := zpx_ok (L := L) (N := N) hT hN 6 0 0 0 (fun _ _ => 0) (by omega)
  unfold zrdt at h
  cases hz : zpx T L N 6 0 0 0 (fun _ _ => 0) with
  | inl g =>
    rw [hz] at h
    cases h
  | inr s =>
    rw [hz] at h hok
    dsimp only at h
    obtain ⟨a1, a2, a3, a4, a5, a6, a7⟩ := hok
    obtain ⟨b1, b2⟩ := a7 (fun i hi => by omega)
    by_cases hlt : s.1 < L
    · rw [if_pos hlt] at h
      cases h
    · rw [if_neg hlt] at h
      cases h
      exact ⟨b1, b2, by omega⟩
theorem zOK_app (h : zOK N V) (hF : N + F ≤ 12) (hW : zWOK N F W) : zOK (N + F) (zVapp N V W) := by
  obtain ⟨rk, hrk⟩ := zrk_ex h
  have e1 : ∀ i w, i < N → zVapp N V W i w = V i w := fun i w hi => if_pos hi
  have e2 : ∀ i w, ¬ i < N → zVapp N V W i w = W (i - N) w := fun i w hi => if_neg hi
  refine ⟨hF, fun i hi => ?_, fun i => if i < N then rk i else i, fun i j c hi hj hc e => ?_⟩
  · by_cases hiN : i < N
    · obtain ⟨⟨k, k1, k2, k3, k4⟩, ⟨f, l, f1, f2, f3, f4⟩, cc⟩ := h.2.1 i hiN
      refine ⟨⟨k, k1, by rw [e1 i _ hiN]; exact k2, fun j hj hz => by rw [e1 i _ hiN]; exact k3 j hj hz, fun q hq => by rw [e1 i _ hiN]; exact k4 q hq⟩, ⟨f, l, f1, f2, by rw [e1 i _ hiN]; exact f3, by rw [e1 i _ hiN]; exact f4⟩, fun c hc => ?_⟩
      have ec : zI (zVapp N V W) i c = zI V i c := e1 i _ hiN
      rw [ec]
      rcases cc c hc with q | ⟨j, j1, j2⟩
      · exact Or.inl q
      · exact Or.inr ⟨j, by omega, j2⟩
    · obtain ⟨⟨k, k1, k2, k3, k4⟩, ⟨f1, f2⟩, cc⟩ := hW (i - N) (by omega)
      refine ⟨⟨k, k1, by rw [e2 i _ hiN]; exact k2, fun j hj hz => by rw [e2 i _ hiN]; exact k3 j hj hz, fun q hq => by rw [e2 i _ hiN]; exact k4 q hq⟩, ⟨0, 99, by omega, by omega, by rw [e2 i _ hiN, f1]; exact nI_0.symm, by rw [e2 i _ hiN, f2]; rfl⟩, fun c hc => ?_⟩
      have ec : zI (zVapp N V W) i c = W (i - N) (3 + c) := e2 i _ hiN
      rw [ec]
      rcases cc c hc with q | ⟨y, y1, y2⟩
      · exact Or.inl q
      · exact Or.inr ⟨y, by omega, y2⟩
  · show (if j < N then rk j else j) < (if i < N then rk i else i)
    by_cases hiN : i < N
    · have ec : zI (zVapp N V W) i c = zI V i c := e1 i _ hiN
      rw [ec] at e
      have hjN : j < N := by
        rcases (h.2.1 i hiN).2.2 c hc with q | ⟨y, y1, y2⟩
        · rw [q] at e
          exact absurd e.symm (nI_ne_none (by omega))
        · have := nI_inj (by omega) (by omega) (y2.symm.trans e)
          omega
      rw [if_pos hjN, if_pos hiN]
      exact hrk.2 i j c hiN hjN hc e
    · have ec : zI (zVapp N V W) i c = W (i - N) (3 + c) := e2 i _ hiN
      rw [ec] at e
      have hji : j < i := by
        rcases (hW (i - N) (by omega)).2.2 c hc with q | ⟨y, y1, y2⟩
        · rw [q] at e
          exact absurd e.symm (nI_ne_none (by omega))
        · have := nI_inj (by omega) (by omega) (y2.symm.trans e)
          omega
      rw [if_neg hiN]
      by_cases hjN : j < N
      · rw [if_pos hjN]
        have := hrk.1 j hjN
        omega
      · rw [if_neg hjN]
        exact hji
section K40
variable {k40 : Option Nat → Int32 → Int32 → ax_S → Option (Int32 × ax_S)}
theorem m_b128 (hi : i < 12) (ht : t < 30) : ∀ (d j f : Nat) (m : Nat → Nat → Int32), j + d = 4 → d < f → ∃ m', fb_X10_build_128 k40 f (some 275) (nI N) (nI t) (nI i) (nI j) (zC n m p) = k40 (some 275) (nI N) (nI (t + 1)) (zC n m' p) ∧ (∀ a, a ≠ 276 → m' a = m a) ∧ ∀ s, m' 276 s = if 1 + 10 * i + 6 + j ≤ s ∧ s < 1 + 10 * i + 10 then m 292 (8 * t + 4 + (s - (1 + 10 * i + 6))) else m 276 s := by
  intro d
  induction d with
  | zero =>
    intro j f m hj hf
    obtain ⟨f, rfl⟩ : ∃ k, f = k + 1 := ⟨f - 1, by omega⟩
    obtain rfl : j = 4 := by omega
    refine ⟨m, ?_, fun _ _ => rfl, fun s => by rw [if_neg (by omega)]⟩
    unfold fb_X10_build_128
    rw [if_pos (by decide), nI_1]
  | succ d ih =>
    intro j f m hj hf
    obtain ⟨f, rfl⟩ : ∃ k, f = k + 1 := ⟨f - 1, by omega⟩
    obtain ⟨m', a1, a2, a3⟩ := ih (j + 1) f (ax_u2 m 276 (1 + 10 * i + (6 + j)) (m 292 (8 * t + 4 + j))) (by omega) (by omega)
    refine ⟨m', ?_, fun a ha => by rw [a2 a ha, zu2_row ha], fun s => ?_⟩
    · unfold fb_X10_build_128 fn_X10_at
      rw [if_neg (show ¬ (4 : Int32) ≤ nI j from nI_ge (b := 4) (by omega) (by omega)), z_m0, Option.bind_some, Option.bind_some]
      dsimp only
      rw [z_m24, Option.bind_some, z_8F, show nI (8 * t) + 4 = nI (8 * t + 4) from nI_add _ 4, nI_add, z_o2 (by omega), Option.bind_some, z_vps hi (by omega), Option.bind_some, nI_1]
      exact a1
    · rw [a3 s]
      by_cases hs : s = 1 + 10 * i + (6 + j)
      · subst hs
        rw [if_neg (show ¬ (1 + 10 * i + 6 + (j + 1) ≤ 1 + 10 * i + (6 + j) ∧ 1 + 10 * i + (6 + j) < 1 + 10 * i + 10) by omega), ax_u2_self, if_pos (show 1 + 10 * i + 6 + j ≤ 1 + 10 * i + (6 + j) ∧ 1 + 10 * i + (6 + j) < 1 + 10 * i + 10 by omega), show 1 + 10 * i + (6 + j) - (1 + 10 * i + 6) = j by omega]
      · rw [ax_u2_nk hs, zu2_row (show 292 ≠ 276 by omega)]
        by_cases h1 : 1 + 10 * i + 6 + j ≤ s ∧ s < 1 + 10 * i + 10
        · rw [if_pos h1, if_pos (by omega)]
        · rw [if_neg h1, if_neg (by omega)]
theorem m_b65 (hi : i < 12) (ht : t < 30) : ∀ (d j f : Nat) (m : Nat → Nat → Int32), j + d = 3 → d < f → ∃ m', fb_X10_build_65 k40 f (some 275) (nI N) (nI t) (nI i) (nI j) (zC n m p) = fb_X10_build_128 k40 10000 (some 275) (nI N) (nI t) (nI i) 0 (zC n m' p) ∧ (∀ a, a ≠ 276 → m' a = m a) ∧ ∀ s, m' 276 s = if 1 + 10 * i + 3 + j ≤ s ∧ s < 1 + 10 * i + 6 then zcx N (m 292 (8 * t + 1 + (s - (1 + 10 * i + 3)))) else m 276 s := by
  intro d
  induction d with
  | zero =>
    intro j f m hj hf
    obtain ⟨f, rfl⟩ : ∃ k, f = k + 1 := ⟨f - 1, by omega⟩
    obtain rfl : j = 3 := by omega
    refine ⟨m, ?_, fun _ _ => rfl, fun s => by rw [if_neg (by omega)]⟩
    unfold fb_X10_build_65
    rw [if_pos (by decide)]
  | succ d ih =>
    intro j f m hj hf
    obtain ⟨f, rfl⟩ : ∃ k, f = k + 1 := ⟨f - 1, by omega⟩
    obtain ⟨m', a1, a2, a3⟩ := ih (j + 1) f (ax_u2 m 276 (1 + 10 * i + (3 + j)) (zcx N (m 292 (8 * t + 1 + j)))) (by omega) (by omega)
    refine ⟨m', ?_, fun a ha => by rw [a2 a ha, zu2_row ha], fun s => ?_⟩
    · unfold fb_X10_build_65 fn_X10_at
      rw [if_neg (show ¬ (3 : Int32) ≤ nI j from nI_ge (b := 3) (by omega) (by omega)), z_m24, Option.bind_some, z_8F, nI_1, nI_add, z_o2 (by omega), Option.bind_some, z_m0, Option.bind_some, Option.bind_some]
      dsimp only
      unfold zcx at a1
      by_cases h100 : m 292 (8 * t + 1 + j) < 100
      · rw [if_pos h100] at a1 ⊢
        rw [z_vis hi (by omega), Option.bind_some, nI_1]
        exact a1
      · rw [if_neg h100] at a1 ⊢
        rw [z_vis hi (by omega), Option.bind_some, nI_1]
        exact a1
    · rw [a3 s]
      by_cases hs : s = 1 + 10 * i + (3 + j)
      · subst hs
        rw [if_neg (show ¬ (1 + 10 * i + 3 + (j + 1) ≤ 1 + 10 * i + (3 + j) ∧ 1 + 10 * i + (3 + j) < 1 + 10 * i + 6) by omega), ax_u2_self, if_pos (show 1 + 10 * i + 3 + j ≤ 1 + 10 * i + (3 + j) ∧ 1 + 10 * i + (3 + j) < 1 + 10 * i + 6 by omega), show 1 + 10 * i + (3 + j) - (1 + 10 * i + 3) = j by omega]
      · rw [ax_u2_nk hs, zu2_row (show 292 ≠ 276 by omega)]
        by_cases h1 : 1 + 10 * i + 3 + j ≤ s ∧ s < 1 + 10 * i + 6
        · rw [if_pos h1, if_pos (by omega)]
        · rw [if_neg h1, if_neg (by omega)]
end K40
theorem m_b40 {v : Nat} (hNF : N + F ≤ 12) (hv : v < 1000) (hW : zWOK N F W) (hT0 : zTold m0 F N W) (h25 : m0 275 25 = nI F) (h293 : m0 293 0 = nI v) : ∀ (d t f : Nat) (m : Nat → Nat → Int32), t + d = F → d < f → (∀ a, a ≠ 276 → m a = m0 a) → zGM m (N + t) (zVapp N V W) → ∃ m', fb_X10_build_40 f (some 275) (nI N) (nI t) (zC n m p) = some (nI (zcv N v), zC n m' p) ∧ (∀ a, a ≠ 276 → m' a = m0 a) ∧ zGM m' (N + F) (zVapp N V W) := by
  intro d
  induction d with
  | zero =>
    intro t f m ht hf ha hG
    obtain ⟨f, rfl⟩ : ∃ k, f = k + 1 := ⟨f - 1, by omega⟩
    obtain rfl : t = F := by omega
    refine ⟨m, ?_, ha, hG⟩
    have hz := zcx_cv (N := N) (u := v) (by omega) hv
    have h3 : ax_al (zC n m p) 9 (some 293) 0 = some (nI v) := by
      have := z_o3 (n := n) (m := m) (p := p) (j := 0) (by omega)
      rw [ha 293 (by omega), h293] at this
      exact this
    unfold fb_X10_build_40
    rw [z_m1, ha 275 (by omega), h25, Option.bind_some, if_pos (nI_le (Nat.le_refl _) (by omega)), z_m26, Option.bind_some, h3, Option.bind_some]
    unfold zcx at hz
    by_cases h100 : nI v < 100
    · rw [if_pos h100] at hz ⊢
      rw [Option.bind_some, h3, Option.bind_some, hz]
    · rw [if_neg h100] at hz ⊢
      rw [Option.bind_some, h3, Option.bind_some, hz]
  | succ d ih =>
    intro t f m ht hf ha hG
    obtain ⟨f, rfl⟩ : ∃ k, f = k + 1 := ⟨f - 1, by omega⟩
    obtain ⟨⟨k, k1, k2, k3, k4⟩, ⟨f1, f2⟩, cc⟩ := hW t (by omega)
    obtain ⟨c1, c2, c3⟩ := hT0 t (by omega)
    obtain ⟨m1, a1, a2, a3, -, -⟩ := f_madds (n := n) (p := p) hG (show N + t < 12 by omega) k1
    obtain ⟨m2, b1, b2, b3⟩ := m_b65 (n := n) (p := p) (N := N) (k40 := fb_X10_build_40 f) (i := N + t) (t := t) (by omega) (by omega) 3 0 10000 m1 rfl (by omega)
    obtain ⟨m3, d1, d2, d3⟩ := m_b128 (n := n) (p := p) (N := N) (k40 := fb_X10_build_40 f) (i := N + t) (t := t) (by omega) (by omega) 4 0 10000 m2 rfl (by omega)
    have h292 : ∀ s, m2 292 s = m0 292 s := fun s => by rw [b2 _ (by omega), a2 292 (by omega), ha 292 (by omega)]
    have h292' : ∀ s, m1 292 s = m0 292 s := fun s => by rw [a2 292 (by omega), ha 292 (by omega)]
    have hold : ∀ i w, i < N + t → zVapp N V W i w = zVadd (N + t) (zVapp N V W) k i w := fun i w hi => (if_neg (by omega)).symm
    have hnew : ∀ w, zVapp N V W (N + t) w = W t w := fun w => by
      show (if N + t < N then _ else _) = _
      rw [if_neg (by omega), show N + t - N = t by omega]
    have hsame : ∀ s, (s < 1 + 10 * (N + t) + 3 ∨ 1 + 10 * (N + t) + 10 ≤ s) → m3 276 s = m1 276 s := fun s hs => by rw [d3, if_neg (by omega), b3, if_neg (by omega)]
    have hG3 : zGM m3 (N + (t + 1)) (zVapp N V W) := by
      refine ⟨by rw [hsame 0 (by omega)]; exact a3.1, fun i w hi hw => ?_, fun i k' q hi hk' e' hq => ?_⟩
      · by_cases hit : i < N + t
        · rw [hsame _ (by omega), hold i w hit]
          exact a3.2.1 i w (by omega) hw
        · obtain rfl : i = N + t := by omega
          rw [hnew]
          by_cases hw3 : w < 3
          · rw [hsame _ (by omega), a3.2.1 (N + t) w (by omega) hw]
            have hz : zVadd (N + t) (zVapp N V W) k (N + t) w = zNew k w := if_pos rfl
            rw [hz]
            have hc : w = 0 ∨ w = 1 ∨ w = 2 := by omega
            rcases hc with rfl | rfl | rfl
            · rw [k2]; rfl
            · rw [f1]; rfl
            · rw [f2]; rfl
          · obtain ⟨j, rfl⟩ : ∃ j, w = 3 + j := ⟨w - 3, by omega⟩
            rw [d3, if_neg (by omega), b3, if_pos (by omega), show 1 + 10 * (N + t) + (3 + j) - (1 + 10 * (N + t) + 3) = j by omega, h292', c2 j (by omega)]
      · have hq4 := (zin_lt k' hk').2
        by_cases hit : i < N + t
        · rw [hsame _ (by omega), hold i _ hit]
          rw [hold i _ hit] at e'
          exact a3.2.2 i k' q (by omega) hk' e' hq
        · obtain rfl : i = N + t := by omega
          rw [hnew] at e' ⊢
          rw [d3, if_pos (by omega), show 1 + 10 * (N + t) + (6 + q) - (1 + 10 * (N + t) + 6) = q by omega, h292, c3 k' q hk' e' hq]
    obtain ⟨m', g1, g2, g3⟩ := ih (t + 1) f m3 (by omega) (by omega) (fun a h => by rw [d2 a h, b2 a h, a2 a h, ha a h]) hG3
    refine ⟨m', ?_, g2, g3⟩
    have h8 : ax_al (zC n m p) 9 (some 292) (nI (8 * t)) = some (nI k) := by rw [z_o2 (by omega), ha 292 (by omega), c1, k2]
    rw [nI_0] at b1 d1
    unfold fb_X10_build_40
    rw [z_m1, ha 275 (by omega), h25, Option.bind_some, if_neg (nI_ge (by omega) (by omega)), z_m24, Option.bind_some, z_8F, h8, Option.bind_some, z_mo 0, Option.bind_some, a1, Option.bind_some]
    dsimp only
    rw [b1, d1]
    exact g1
theorem c_build : zop7 n (fn_X9_build (some 9)) (fn_X10_build (some 275)) := zop7_mk (fun m p A B h7 h1 h2 h3 hB => by
  obtain ⟨⟨N, V⟩, C, ⟨L, T⟩, S⟩ := A
  obtain ⟨h10, X, Y, E, hc⟩ := id h1
  obtain ⟨a1, a2, a3, a4, a5, a6⟩ := id h3
  have hN := a1.1
  have hg := h10.2.1.2.1.1
  have hr := f_read (n := n) (p := p) hN (zEv_of h10 h7 a4 a5)
  have hm := fun m p (h : zMdl m ((N, V), C, (L, T), S)) => m_isText (n := n) (p := p) hN (zEm_of h.1 a4 a5)
  cases hz : zrdt T L N with
  | inl f =>
    rw [hz] at hr
    obtain ⟨v, m1, e1, e2, e3, e4⟩ := hr
    obtain ⟨k1, k2⟩ := zCls_fx h10 hc e4
    refine ⟨-1003, ((N, V), C, (L, T), S), ⟨m1, p, ?_, k1, k2⟩, fun m p h => ?_, zAbs_mono h3 (by omega)⟩
    · unfold fn_X9_build
      rw [z_cr, show zR p 9 2 = some 149 from rfl, Option.bind_some, z_cr, show zR p 9 0 = some 10 from rfl, Option.bind_some, z_g1, hg, Option.bind_some, z_rsh, Option.bind_some, e1, Option.bind_some]
      dsimp only
      rw [z_cr, show zR p 9 2 = some 149 from rfl, Option.bind_some, z_rd, e2, Option.bind_some, if_neg (by decide)]
    · have h4 := hm m p h
      rw [hz] at h4
      obtain ⟨m2, g1, g2, g3, g4⟩ := h4
      obtain ⟨l1, l2⟩ := zMdl_fq h g4
      refine ⟨m2, ?_, l1, l2⟩
      unfold fn_X10_build
      rw [z_mo 0, Option.bind_some, g1, Option.bind_some]
      dsimp only
      rw [if_pos rfl]
  | inr r =>
    rw [hz] at hr
    obtain ⟨m1, e1, e2, e3, e4, e5⟩ := hr
    obtain ⟨k1, k2⟩ := zCls_fx h10 hc e4
    obtain ⟨o1, o2, o3⟩ := zrdt_ok a5 hN a4 hz
    have hg1 : m1 10 1 = nI N := by rw [e4 10 (by omega)]; exact hg
    have hpre : fn_X9_build (some 9) (zC n m p) = if nI (N + r.2.2.1) ≤ 12 then (fn_X1_addAll (some 10) (some 153) (nI r.2.2.1) (zC n m1 p)).bind fun q20 => some (nI (zcv N r.2.1), q20) else some (-1004, zC n m1 p) := by
      unfold fn_X9_build
      rw [z_cr, show zR p 9 2 = some 149 from rfl, Option.bind_some, z_cr, show zR p 9 0 = some 10 from rfl, Option.bind_some, z_g1, hg, Option.bind_some, z_rsh, Option.bind_some, e1, Option.bind_some]
      dsimp only
      rw [z_cr, show zR p 9 2 = some 149 from rfl, Option.bind_some, z_rd, e2, Option.bind_some, if_pos rfl, z_cr, show zR p 9 0 = some 10 from rfl, Option.bind_some, z_g1, hg1, Option.bind_some, Option.bind_some, z_rd, e3, Option.bind_some, nI_add, Option.bind_some, Option.bind_some, z_rr, show zR p 149 2 = some 153 from rfl, Option.bind_some, Option.bind_some, z_rd, e3, Option.bind_some, z_gs, Option.bind_some]
    have hprm : ∀ m p, zMdl m ((N, V), C, (L, T), S) → ∃ m2, zFq m m2 ∧ (m2 275 25 = nI r.2.2.1 ∧ zTold m2 r.2.2.1 N r.2.2.2 ∧ r.2.1 < 1000 ∧ m2 293 0 = nI r.2.1) ∧ fn_X10_build (some 275) (zC n m p) = if nI (N + r.2.2.1) ≤ 12 then fb_X10_build_40 10000 (some 275) (nI N) 0 (zC n m2 p) else some (-1004, zC n m2 p) := by
      intro m p h
      have h4 := hm m p h
      rw [hz] at h4
      obtain ⟨m2, g1, g2, g3, ⟨g4, g6⟩, g5⟩ := h4
      refine ⟨m2, g5, ⟨g2, g3, g4, g6⟩, ?_⟩
      have hN2 : m2 276 0 = nI N := by rw [g5.1 276 (by omega) (by omega)]; exact h.1.2.1.1
      unfold fn_X10_build
      rw [z_mo 0, Option.bind_some, g1, Option.bind_some]
      dsimp only
      rw [if_neg (by decide), z_m0, Option.bind_some, z_v0, hN2, Option.bind_some, z_m1, g2, Option.bind_some, nI_add, Option.bind_some, z_v0, hN2, Option.bind_some]
    by_cases hfit : N + r.2.2.1 ≤ 12
    · have hmin : min r.2.2.1 12 = r.2.2.1 := by omega
      rw [hmin] at e5
      have hok := zOK_app a1 hfit o1
      have hG1 : zGC m1 10 N V := zGC_f1 h10.2.1.2.1 hN (fun a ha => e4 a (by omega))
      obtain ⟨m2, b1, b2, b3, b4⟩ := f_addAll (n := n) (p := p) z10 (Or.inl ⟨rfl, rfl⟩ : zSrc 10 149 153) hfit hok hG1 e5
      refine ⟨nI (zcv N r.2.1), ((N + r.2.2.1, zVapp N V r.2.2.2), C, (L, T), S), ⟨m2, p, ?_, fun a ha => by rw [b2 a (by omega)]; exact k1 a ha, zCls0_g k2.1 (fun a ha => b2 a (by omega)) hfit b3 b4, X, Y, E, zCX_fr hc (fun a ha hb => by rw [b2 a (by omega), e4 a (by omega)])⟩, fun m p h => ?_, hok, zI5_N a2 (by omega), by omega, a4, a5, a6⟩
      · rw [hpre, if_pos (show nI (N + r.2.2.1) ≤ (12 : Int32) from nI_le (b := 12) hfit (by omega)), b1, Option.bind_some]
      · obtain ⟨m3, g1, ⟨g2, g3, g4, g5⟩, g6⟩ := hprm m p h
        obtain ⟨l1, l2⟩ := zMdl_fq h g1
        have hGM0 : zGM m3 (N + 0) (zVapp N V r.2.2.2) := by
          have hG := l2.1.2.1
          have ez : ∀ i w, i < N → zVapp N V r.2.2.2 i w = V i w := fun i w hi => if_pos hi
          exact ⟨hG.1, fun i w hi hw => by rw [ez i w hi]; exact hG.2.1 i w hi hw, fun i k q hi hk e hq => by rw [ez i _ hi] at e ⊢; exact hG.2.2 i k q hi hk e hq⟩
        obtain ⟨m4, d1, d2, d3⟩ := m_b40 (n := n) (p := p) (V := V) hfit g4 o1 g3 g2 g5 r.2.2.1 0 10000 m3 (by omega) (by omega) (fun _ _ => rfl) hGM0
        rw [nI_0] at d1
        obtain ⟨h20, X', Y', hmm⟩ := l2
        exact ⟨m4, by rw [g6, if_pos (show nI (N + r.2.2.1) ≤ (12 : Int32) from nI_le (b := 12) hfit (by omega)), d1], fun a ha => by rw [d2 a (by omega)]; exact l1 a ha, zMdl0_g h20 (fun a ha => d2 a (by omega)) (by rw [d2 275 (by omega)]) d3, X', Y', zMX_fr hmm (fun a _ _ => d2 a (by omega)) (fun k _ => by rw [d2 275 (by omega)])⟩
    · have hno : ¬ nI (N + r.2.2.1) ≤ (12 : Int32) := nI_ge (a := 12) (by omega) (by omega)
      refine ⟨-1004, ((N, V), C, (L, T), S), ⟨m1, p, by rw [hpre, if_neg hno], k1, k2⟩, fun m p h => ?_, zAbs_mono h3 (by omega)⟩
      obtain ⟨m3, g1, -, g6⟩ := hprm m p h
      obtain ⟨l1, l2⟩ := zMdl_fq h g1
      exact ⟨m3, by rw [g6, if_neg hno], l1, l2⟩)
end BUILD
