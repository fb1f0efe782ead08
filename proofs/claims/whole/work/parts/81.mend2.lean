/-! ===== the model reads: the end of an expression ===== -/
def zcx (N : Nat) (x : Int32) : Int32 := if x < 100 then x else nI N + x - 100
def zTold (m : Nat → Nat → Int32) (F N : Nat) (W : Nat → Nat → Int32) : Prop := ∀ i, i < F → m 292 (8 * i) = W i 0 ∧ (∀ j, j < 3 → zcx N (m 292 (8 * i + 1 + j)) = W i (3 + j)) ∧ ∀ k q, k < 7 → W i 0 = nI k → q < zpn k → m 292 (8 * i + 4 + q) = W i (6 + q)
def zMs (m : Nat → Nat → Int32) (P e F D N : Nat) (W : Nat → Nat → Int32) : Prop := (m 275 19 = nI P ∧ m 275 20 = nI e ∧ m 275 25 = nI F ∧ m 275 27 = nI D) ∧ zTold m F N W
/-- what the end of a node leaves alone -/
def zFe (m m' : Nat → Nat → Int32) : Prop := (∀ a, a ≠ 275 → a ≠ 292 → a ≠ 293 → m' a = m a) ∧ ∀ j, j ≠ 19 → j ≠ 21 → j ≠ 25 → j ≠ 27 → m' 275 j = m 275 j
theorem zFe_fl {m m' : Nat → Nat → Int32} (h : zFl m m') : zFe m m' := ⟨fun a h1 _ _ => h.1 a h1, fun j h1 h2 _ _ => h.2 j h1 h2⟩
theorem zFq_fe {m m' : Nat → Nat → Int32} (h : zFe m m') : zFq m m' := ⟨fun a h1 h2 => h.1 a h1 (by omega) (by omega), fun k hk => h.2 k (by omega) (by omega) (by omega) (by omega)⟩
section MEND2
variable {n L N P F D k i e g : Nat} {m m' : Nat → Nat → Int32} {p T : Nat → Nat} {c hi x : Int32} {us : Nat → Nat} {W : Nat → Nat → Int32}
theorem zcx_cv {u : Nat} (hN : N ≤ 12) (hu : u < 1000) : zcx N (nI u) = nI (zcv N u) := by
  unfold zcx zcv
  by_cases h : u < 100
  · rw [if_pos (show nI u < (100 : Int32) from nI_lt (b := 100) h (by omega)), if_pos h]
  · rw [if_neg (show ¬ nI u < (100 : Int32) from nI_nlt (a := u) (b := 100) (by omega) (by omega)) , if_neg h, nI_add, show (100 : Int32) = nI 100 from rfl, nI_sub (by omega), show N + u - 100 = N + (u - 100) by omega]
theorem zcx_none : zcx N (-1005) = -1005 := if_pos (by decide)
theorem zTold_fr (h : zTold m F N W) (hf : m' 292 = m 292) : zTold m' F N W := fun i hi => by rw [hf]; exact h i hi
theorem m_ends98 (hk : k < 7) : fi_X10_ends (some 275) (nI k) (zC n m p) = fb_X10_ends_98 10000 (some 275) (nI k) 0 0 0 0 (nI (znn k)) 0 (zC n m p) := by
  have hc : k = 0 ∨ k = 1 ∨ k = 2 ∨ k = 3 ∨ k = 4 ∨ k = 5 ∨ k = 6 := by omega
  unfold fi_X10_ends fb_X10_ends_88
  rcases hc with rfl | rfl | rfl | rfl | rfl | rfl | rfl
  · rw [if_neg (by decide), if_neg (by decide), if_neg (by decide), if_neg (by decide)]
    rfl
  · rw [if_neg (by decide), if_neg (by decide), if_neg (by decide), if_neg (by decide)]
    rfl
  · rw [if_neg (by decide), if_neg (by decide), if_neg (by decide), if_neg (by decide)]
    rfl
  · rw [if_neg (by decide), if_neg (by decide), if_pos (by decide)]
    rfl
  · rw [if_neg (by decide), if_neg (by decide), if_neg (by decide), if_neg (by decide)]
    rfl
  · rw [if_neg (by decide), if_pos (by decide)]
    rfl
  · rw [if_neg (by decide), if_neg (by decide), if_neg (by decide), if_pos (by decide)]
    rfl
theorem zall_12 : ∀ k, k < 7 → ((nI k = (1 : Int32) ↔ k = 1) ∧ (nI k = (2 : Int32) ↔ k = 2)) := by decide +kernel
theorem m_ends (hN : N ≤ 12) (hk : k < 7) (hE : zEm m L T N) (h : zMs m P e F D N W) (hP : P ≤ L) (hF : F < 29) (hzD : zin k ≤ D) (hD : D < 40) (hu : ∀ t, t < zin k → us t < 1000 ∧ m 293 (D - zin k + t) = nI (us t)) : match zns T L k (znn k) 0 P (fun _ => 0) with
    | .inl q => ∃ m', fn_X10_ends (some 275) (nI k) (zC n m p) = some (0, zC n m' p) ∧ m' 275 19 = nI q ∧ zFl m m'
    | .inr q => if zch T L q.1 = 41 then ∃ m', fn_X10_ends (some 275) (nI k) (zC n m p) = some (1, zC n m' p) ∧ zMs m' (q.1 + 1) e (F + 1) (D - zin k + 1) N (zput W F (zrw N k us q.2)) ∧ m' 293 (D - zin k) = nI (100 + F) ∧ (∀ i, i < D - zin k → m' 293 i = m 293 i) ∧ zFe m m'
      else ∃ m', fn_X10_ends (some 275) (nI k) (zC n m p) = some (0, zC n m' p) ∧ m' 275 19 = nI q.1 ∧ zFl m m' := by
  obtain ⟨h4, hp4, hsrc⟩ := znn_ok k hk
  have hL := hE.2.2.2.1
  obtain ⟨⟨h19, h20, h25, h27⟩, hTo⟩ := h
  have h1 := m_98 (n := n) (p := p) (g := 9999 - znn k) hk (znn k) 0 P (fun _ => 0) m (by omega) hE h19 hP
  rw [show 9999 - znn k + 1 + znn k = 10000 by omega, nI_0] at h1
  unfold fn_X10_ends
  rw [m_ends98 hk]
  cases hz : zns T L k (znn k) 0 P (fun _ => 0) with
  | inl q =>
    rw [hz] at h1
    obtain ⟨m', e1, e2, e3⟩ := h1
    exact ⟨m', by rw [e1, zbz0], e2, e3⟩
  | inr q =>
    rw [hz] at h1
    obtain ⟨m1, e1, e2, e3⟩ := h1
    have hE1 := zEm_fq hE (zFq_fl e3)
    have hq := zns_ok (L := L) hE.2.2.2.2 hk (znn k) 0 P (fun _ => 0) (by omega) hP
    rw [hz] at hq
    have hq1 : q.1 ≤ L := hq.2.1
    rw [e1]
    by_cases h41 : zch T L q.1 = 41
    · refine Eq.mpr (if_pos h41) ?_
      have r0 : ∀ a, a ≠ 275 → ax_u2 m1 275 19 (nI (q.1 + 1)) a = m1 a := fun a ha => zu2_row ha
      have k0 : ∀ j, j ≠ 19 → ax_u2 m1 275 19 (nI (q.1 + 1)) 275 j = m1 275 j := fun j hj => ax_u2_nk hj
      have f2 : zFl m (ax_u2 m1 275 19 (nI (q.1 + 1))) := zFl_tr e3 (zFl_1 (Or.inl rfl))
      have p2 : ax_u2 m1 275 19 (nI (q.1 + 1)) 275 19 = nI (q.1 + 1) := ax_u2_self
      have t2 := m_takes1 (n := n) (p := p) hE1 e2 (by omega) h41
      generalize ax_u2 m1 275 19 (nI (q.1 + 1)) = m2 at f2 p2 t2
      have hM2 : zMT m2 := (zEm_fq hE (zFq_fl f2)).2.1
      obtain ⟨m3, a1, a2, a3, a4, a5, a6, a7, a8, a9, a10, a11⟩ := m_tells (n := n) (p := p) hk hM2 (show F < 30 by omega) hzD hD (by rw [f2.2 25 (by omega) (by omega)]; exact h25) (by rw [f2.2 27 (by omega) (by omega)]; exact h27)
      obtain ⟨m4, b1, b2, b3, b4⟩ := m_288 (n := n) (p := p) (m := m3) (a := 8 * F + 4) (many := znn k) (all := decide (k = 1 ∨ k = 2)) (ns := q.2) (by omega) h4
      obtain ⟨w1, w2⟩ := zall_12 k hk
      refine ⟨m4, ?_, ⟨⟨?_, ?_, ?_, ?_⟩, fun i hi => ?_⟩, ?_, fun i hi => ?_, ⟨fun a g1 g2 g3 => ?_, fun j g1 g2 g3 g4 => ?_⟩⟩
      · have h288 : fb_X10_ends_98 (9999 - znn k + 1) (some 275) (nI k) (q.2 0) (q.2 1) (q.2 2) (q.2 3) (nI (znn k)) (nI (znn k)) (zC n m1 p) = fb_X10_ends_288 (some 275) (q.2 0) (q.2 1) (q.2 2) (q.2 3) (nI (znn k)) (nI (8 * F + 4)) (zq (decide (k = 1 ∨ k = 2))) (zC n m3 p) := by
          unfold fb_X10_ends_98 fb_X10_ends_283
          rw [if_pos (nI_le (Nat.le_refl _) (by omega)), z_mo 0, Option.bind_some, t2, Option.bind_some]
          dsimp only
          rw [if_neg (by decide), z_mo 0, Option.bind_some, a1, Option.bind_some, z_m1, a2, Option.bind_some]
          unfold ax_bd
          dsimp only
          rw [z_8F, show nI (8 * (F + 1)) - 4 = nI (8 * F + 4) from by rw [show (4 : Int32) = nI 4 from rfl, nI_sub (by omega), show 8 * (F + 1) - 4 = 8 * F + 4 by omega]]
          by_cases k1 : k = 1
          · rw [if_pos (w1.mpr k1), decide_eq_true (Or.inl k1)]
            rfl
          · rw [if_neg (fun z => k1 (w1.mp z))]
            by_cases k2 : k = 2
            · rw [if_pos (w2.mpr k2), decide_eq_true (Or.inr k2)]
              rfl
            · rw [if_neg (fun z => k2 (w2.mp z)), decide_eq_false (fun z => z.elim k1 k2)]
              rfl
        rw [h288, b1, zbz1]
      · rw [b2 _ (by omega), a11 _ (by omega) (by omega)]; exact p2
      · rw [b2 _ (by omega), a11 _ (by omega) (by omega), f2.2 _ (by omega) (by omega)]; exact h20
      · rw [b2 _ (by omega)]; exact a2
      · rw [b2 _ (by omega)]; exact a3
      · by_cases hiF : i = F
        · subst hiF
          have hrow : ∀ w, zput W i (zrw N k us q.2) i w = zrw N k us q.2 w := fun w => if_pos rfl
          refine ⟨?_, fun j hj => ?_, fun k' s hk' e' hs => ?_⟩
          · rw [hrow, b4 _ (by omega), a6]
            rfl
          · rw [hrow, zrw_in hj, b4 _ (by omega), a7 j hj]
            unfold zhin
            by_cases hjz : j < zin k
            · obtain ⟨u1, u2⟩ := hu j hjz
              rw [if_pos hjz, if_pos hjz, f2.1 293 (by omega), u2, zcx_cv hN u1]
            · rw [if_neg hjz, if_neg hjz, zcx_none]
          · rw [hrow] at e'
            have : k' = k := nI_inj (by omega) (by omega) (e'.symm.trans (show zrw N k us q.2 0 = nI k from rfl))
            subst this
            rw [hrow, zrw_p, if_pos hs, b3 s (by omega), zpar_ok _ hk s hs]
        · obtain ⟨c1, c2, c3⟩ := hTo i (by omega)
          have hrow : ∀ w, zput W F (zrw N k us q.2) i w = W i w := fun w => if_neg hiF
          have hold : ∀ t, t < 8 * F → m4 292 t = m 292 t := fun t ht => by rw [b4 t (by omega), a9 t ht, f2.1 292 (by omega)]
          refine ⟨by rw [hrow, hold _ (by omega)]; exact c1, fun j hj => by rw [hrow, hold _ (by omega)]; exact c2 j hj, fun k' s hk' e' hs => ?_⟩
          rw [hrow] at e'
          have := (zin_lt k' hk').2
          rw [hrow, hold _ (by omega)]
          exact c3 k' s hk' e' hs
      · rw [b2 _ (by omega)]; exact a4
      · rw [b2 _ (by omega), a5 i (by omega), f2.1 293 (by omega)]
      · rw [b2 a g2, a10 a g1 g2 g3, f2.1 a g1]
      · rw [b2 _ (by omega), a11 j g3 g4, f2.2 j g1 g2]
    · refine Eq.mpr (if_neg h41) ?_
      refine ⟨m1, ?_, e2, e3⟩
      have h98 : fb_X10_ends_98 (9999 - znn k + 1) (some 275) (nI k) (q.2 0) (q.2 1) (q.2 2) (q.2 3) (nI (znn k)) (nI (znn k)) (zC n m1 p) = some (0, zC n m1 p) := by
        unfold fb_X10_ends_98
        rw [if_pos (nI_le (Nat.le_refl _) (by omega)), z_mo 0, Option.bind_some, m_takes0 hE1 e2 (by omega) h41, Option.bind_some]
        dsimp only
        rw [if_pos rfl]
      rw [h98, zbz0]
theorem m_ends7 (hN : N ≤ 12) (hE : zEm m L T N) (h : zMs m P e F D N W) (hP : P ≤ L) (hD : D < 40) : match zrn T L P (nI N - 1) false with
    | none => ∃ m', fn_X10_ends (some 275) 7 (zC n m p) = some (0, zC n m' p) ∧ m' 275 19 = nI P ∧ zFl m m'
    | some q => if zch T L q.2 = 41 then ∃ m', fn_X10_ends (some 275) 7 (zC n m p) = some (1, zC n m' p) ∧ zMs m' (q.2 + 1) e F (D + 1) N W ∧ m' 293 D = nI q.1 ∧ (∀ i, i < D → m' 293 i = m 293 i) ∧ zFe m m'
      else ∃ m', fn_X10_ends (some 275) 7 (zC n m p) = some (0, zC n m' p) ∧ m' 275 19 = nI q.2 ∧ zFl m m' := by
  have hL := hE.2.2.2.1
  obtain ⟨⟨h19, h20, h25, h27⟩, hTo⟩ := h
  have hn := m_number (n := n) (p := p) (hi := nI N - 1) (neg := false) hE h19 (by omega)
  rw [if_neg (by decide)] at hn
  unfold zMN at hn
  have hun : fi_X10_ends (some 275) 7 (zC n m p) = (fn_X10_number (some 275) 0 (nI N - 1) (zC n m p)).bind fun q61 => if q61.1 = 0 then some ((0), q61.2) else (ax_sh q61.2 7 (some 275)).bind fun w63 => (fn_X10_takes (some 275) (41) q61.2).bind fun q64 => if q64.1 = 0 then some ((0), q64.2) else (ax_gr q64.2 7 26 (some 275)).bind fun r66 => (ax_gi q64.2 7 27 (some 275)).bind fun x67 => (ax_gi q64.2 7 21 (some 275)).bind fun x68 => (ax_as q64.2 9 r66 x67 x68).bind fun s69 => (ax_gi s69 7 27 (some 275)).bind fun x70 => (ax_pi s69 7 27 (some 275) (x70 + (1))).bind fun s71 => some ((1), s71) := by
    unfold fi_X10_ends
    rw [if_pos rfl, z_m0, Option.bind_some, z_v0, hE.2.2.1, Option.bind_some, z_mo 0, Option.bind_some]
  unfold fn_X10_ends
  rw [hun]
  cases hz : zrn T L P (nI N - 1) false with
  | none =>
    rw [hz] at hn
    obtain ⟨m1, e1, e2, e3⟩ := hn
    refine ⟨m1, ?_, e2, e3⟩
    rw [e1, Option.bind_some]
    dsimp only
    rw [if_pos rfl, zbz0]
  | some q =>
    rw [hz] at hn
    obtain ⟨m1, e1, e2, e21, e3⟩ := hn
    obtain ⟨z1, z2, -⟩ := zrn_ok hE.2.2.2.2 hz
    have hE1 := zEm_fq hE (zFq_fl e3)
    rw [e1, Option.bind_some]
    dsimp only
    rw [if_neg (show ¬ (1 : Int32) = 0 by decide), z_mo 0, Option.bind_some]
    by_cases h41 : zch T L q.2 = 41
    · refine Eq.mpr (if_pos h41) ?_
      have f2 : zFl m (ax_u2 m1 275 19 (nI (q.2 + 1))) := zFl_tr e3 (zFl_1 (Or.inl rfl))
      have p2 : ax_u2 m1 275 19 (nI (q.2 + 1)) 275 19 = nI (q.2 + 1) := ax_u2_self
      have n2 : ax_u2 m1 275 19 (nI (q.2 + 1)) 275 21 = nI q.1 := by rw [ax_u2_nk (by omega)]; exact e21
      rw [m_takes1 hE1 e2 (by omega) h41, Option.bind_some]
      dsimp only
      generalize ax_u2 m1 275 19 (nI (q.2 + 1)) = m2 at f2 p2 n2 ⊢
      have d2 : m2 275 27 = nI D := by rw [f2.2 27 (by omega) (by omega)]; exact h27
      have g3 : ∀ a, a ≠ 293 → ax_u2 m2 293 D (nI q.1) a = m2 a := fun a ha => zu2_row ha
      refine ⟨ax_u2 (ax_u2 m2 293 D (nI q.1)) 275 27 (nI (D + 1)), ?_, ⟨⟨?_, ?_, ?_, ?_⟩, zTold_fr hTo ?_⟩, ?_, fun i hi => ?_, ⟨fun a g1 g2 g4 => ?_, fun j g1 g2 g4 g5 => ?_⟩⟩
      · rw [if_neg (by decide), z_m26, Option.bind_some, z_m1, d2, Option.bind_some, z_m1, n2, Option.bind_some, z_o3s hD, Option.bind_some, z_m1, g3 275 (by omega), d2, Option.bind_some, nI_1, z_m2, Option.bind_some, zbz1]
      · rw [ax_u2_nk (by omega), g3 _ (by omega)]; exact p2
      · rw [ax_u2_nk (by omega), g3 _ (by omega), f2.2 _ (by omega) (by omega)]; exact h20
      · rw [ax_u2_nk (by omega), g3 _ (by omega), f2.2 _ (by omega) (by omega)]; exact h25
      · exact ax_u2_self
      · rw [zu2_row (by omega), g3 _ (by omega), f2.1 _ (by omega)]
      · rw [zu2_row (by omega), ax_u2_self]
      · rw [zu2_row (by omega), ax_u2_nk (by omega), f2.1 _ (by omega)]
      · rw [zu2_row g1, g3 a g4, f2.1 a g1]
      · rw [ax_u2_nk g5, g3 _ (by omega), f2.2 j g1 g2]
    · refine Eq.mpr (if_neg h41) ?_
      refine ⟨m1, ?_, e2, e3⟩
      rw [m_takes0 hE1 e2 (by omega) h41, Option.bind_some]
      dsimp only
      rw [if_pos rfl, zbz0]
end MEND2
