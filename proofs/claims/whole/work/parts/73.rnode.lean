/-! ===== the class reads: a draft is filled; the numbers of a node ===== -/
section RNODE
variable {n L N P F k i : Nat} {m m' : Nat → Nat → Int32} {p T : Nat → Nat} {c fl hi x y z : Int32} {W : Nat → Nat → Int32} {se : Option Nat → Int32 → ax_S → Option (Int32 × ax_S)}
theorem znn_ok : ∀ k, k < 7 → znn k ≤ 4 ∧ zpn k ≤ 4 ∧ ∀ q, q < zpn k → (if q < znn k then q else 0) < znn k := by decide +kernel
theorem z_dNB (hF : F < 12) : zNB (149 + 5 + 3 * F) := ⟨149, F, Or.inr (Or.inl rfl), hF, rfl⟩
theorem z_na {j : Nat} (hj : j < 4) : ax_al (zC n m p) 9 (some 152) (nI j) = some (m 152 j) := z_al (by omega) rfl (by exact hj) (by omega)
theorem z_ns {j : Nat} (hj : j < 4) : ax_as (zC n m p) 9 (some 152) (nI j) x = some (zC n (ax_u2 m 152 j x) p) := z_as (by omega) (by omega) rfl (by exact hj) (by omega)
theorem f_fill_lp (hF : F < 12) (hk : k < 7) : ∀ (d i f : Nat) (m : Nat → Nat → Int32), zT m → i + d = zpn k → d < f → ∃ m', fb_X6_fill_31 f (some 149) (some (149 + 5 + 3 * F)) (nI k) (nI i) (zC n m p) = some (zC n m' p) ∧ (∀ a, a ≠ 149 + 5 + 3 * F + 2 → m' a = m a) ∧ ∀ q, m' (149 + 5 + 3 * F + 2) q = if i ≤ q ∧ q < zpn k then m 152 (if q < znn k then q else 0) else m (149 + 5 + 3 * F + 2) q := by
  obtain ⟨h4, hp4, hsrc⟩ := znn_ok k hk
  have hb := z_dNB hF
  obtain ⟨b9, b1, t0, t1, t2, q3, q4⟩ := zNB_ok (n := n) (p := p) hb
  intro d
  induction d with
  | zero =>
    intro i f m hT hi hf
    obtain ⟨f, rfl⟩ : ∃ k, f = k + 1 := ⟨f - 1, by omega⟩
    refine ⟨m, ?_, fun _ _ => rfl, fun q => by rw [if_neg (by omega)]⟩
    unfold fb_X6_fill_31
    rw [f_parameters hT hk, Option.bind_some]
    dsimp only
    rw [if_pos (nI_le (by omega) (by omega))]
  | succ d ih =>
    intro i f m hT hi hf
    obtain ⟨f, rfl⟩ : ∃ k, f = k + 1 := ⟨f - 1, by omega⟩
    have hs := hsrc i (by omega)
    obtain ⟨m', e1, e2, e3⟩ := ih (i + 1) f (ax_u2 m (149 + 5 + 3 * F + 2) i (m 152 (if i < znn k then i else 0))) (fun a j ha => by rw [zu2_row (by omega)]; exact hT a j ha) (by omega) (by omega)
    refine ⟨m', ?_, fun a ha => by rw [e2 a ha, zu2_row ha], fun q => ?_⟩
    · have h55 : ∀ j : Nat, j < 4 → fb_X6_fill_55 (fb_X6_fill_31 f) (some 149) (some (149 + 5 + 3 * F)) (nI k) (nI i) (nI j) (zC n m p) = fb_X6_fill_31 f (some 149) (some (149 + 5 + 3 * F)) (nI k) (nI (i + 1)) (zC n (ax_u2 m (149 + 5 + 3 * F + 2) i (m 152 j)) p) := by
        intro j hj
        unfold fb_X6_fill_55
        rw [z_gr (a := 149 + 5 + 3 * F) (t := 2) (by omega) (by rw [t0]), q4, Option.bind_some, z_rr, show zR p 149 1 = some 152 from rfl, Option.bind_some, z_na hj, Option.bind_some, z_as (a := 149 + 5 + 3 * F + 2) (t := 9) (by omega) (by omega) (by rw [t2]) (by rw [t2]; show i < 4; omega) (by omega), Option.bind_some, nI_1]
      unfold fb_X6_fill_31
      rw [f_parameters hT hk, Option.bind_some]
      dsimp only
      rw [if_neg (nI_ge (by omega) (by omega)), f_numbers hT hk, Option.bind_some]
      dsimp only
      by_cases hin : i < znn k
      · rw [if_pos hin] at e1
        rw [if_neg (nI_ge hin (by omega)), h55 i (by omega)]
        exact e1
      · rw [if_neg hin] at e1
        rw [if_pos (nI_le (by omega) (by omega)), show (0 : Int32) = nI 0 from nI_0.symm, h55 0 (by omega)]
        exact e1
    · rw [e3 q]
      by_cases hq : q = i
      · subst hq
        rw [if_neg (show ¬ (q + 1 ≤ q ∧ q < zpn k) by omega), ax_u2_self, if_pos (show q ≤ q ∧ q < zpn k by omega)]
      · by_cases h1 : i ≤ q ∧ q < zpn k
        · rw [if_pos h1, if_pos (by omega), zu2_row (by omega)]
        · rw [if_neg h1, if_neg (by omega), ax_u2_nk hq]
theorem f_fill (hT : zT m) (hF : F < 12) (hk : k < 7) : ∃ m', fn_X6_fill (some 149) (some (149 + 5 + 3 * F)) (nI k) x y z (zC n m p) = some (zC n m' p) ∧ zFn (149 + 5 + 3 * F) m m' ∧ m' (149 + 5 + 3 * F) 0 = nI k ∧ m' (149 + 5 + 3 * F) 1 = 0 ∧ m' (149 + 5 + 3 * F) 2 = 99 ∧ m' (149 + 5 + 3 * F + 1) 0 = x ∧ m' (149 + 5 + 3 * F + 1) 1 = y ∧ m' (149 + 5 + 3 * F + 1) 2 = z ∧ ∀ q, q < 4 → m' (149 + 5 + 3 * F + 2) q = if q < zpn k then m 152 (if q < znn k then q else 0) else zaf k q := by
  have hb := z_dNB hF
  obtain ⟨b9, b1, t0, t1, t2, q3, q4⟩ := zNB_ok (n := n) (p := p) hb
  obtain ⟨m1, a1, a2, a3, a4, a5, a6, a7⟩ := f_reset (n := n) (p := p) hb hk hT
  generalize hm2 : ax_u2 m1 (149 + 5 + 3 * F + 1) 0 x = m2
  generalize hm3 : ax_u2 m2 (149 + 5 + 3 * F + 1) 1 y = m3
  generalize hm4 : ax_u2 m3 (149 + 5 + 3 * F + 1) 2 z = m4
  have e4 : ∀ a, a ≠ 149 + 5 + 3 * F + 1 → m4 a = m1 a := fun a ha => by rw [← hm4, zu2_row ha, ← hm3, zu2_row ha, ← hm2, zu2_row ha]
  obtain ⟨m5, b1', b2, b3⟩ := f_fill_lp (n := n) (p := p) hF hk (zpn k) 0 10000 m4 (fun a j ha => by rw [e4 a (by omega), a2 a (by omega) (by omega) (by omega)]; exact hT a j ha) (by omega) (by have := (znn_ok k hk).2.1; omega)
  refine ⟨m5, ?_, fun a h1 h2 h3 => by rw [b2 a h3, e4 a h2, a2 a h1 h2 h3], ?_, ?_, ?_, ?_, ?_, ?_, fun q hq => ?_⟩
  · rw [nI_0] at b1'
    unfold fn_X6_fill
    rw [z_sh (a := 149 + 5 + 3 * F) (t := 2) (by omega) (by rw [t0]), Option.bind_some, a1, Option.bind_some, z_gr (a := 149 + 5 + 3 * F) (t := 2) (by omega) (by rw [t0]), q3, Option.bind_some]
    rw [show ax_as (zC n m1 p) 9 (some (149 + 5 + 3 * F + 1)) 0 x = some (zC n m2 p) from by rw [← hm2]; exact z_as (i := 0) (by omega) (by omega) (by rw [t1]) (by rw [t1]; show 0 < 3; omega) (by omega), Option.bind_some, z_gr (a := 149 + 5 + 3 * F) (t := 2) (by omega) (by rw [t0]), q3, Option.bind_some]
    rw [show ax_as (zC n m2 p) 9 (some (149 + 5 + 3 * F + 1)) 1 y = some (zC n m3 p) from by rw [← hm3]; exact z_as (i := 1) (by omega) (by omega) (by rw [t1]) (by rw [t1]; show 1 < 3; omega) (by omega), Option.bind_some, z_gr (a := 149 + 5 + 3 * F) (t := 2) (by omega) (by rw [t0]), q3, Option.bind_some]
    rw [show ax_as (zC n m3 p) 9 (some (149 + 5 + 3 * F + 1)) 2 z = some (zC n m4 p) from by rw [← hm4]; exact z_as (i := 2) (by omega) (by omega) (by rw [t1]) (by rw [t1]; show 2 < 3; omega) (by omega), Option.bind_some]
    exact b1'
  · rw [b2 _ (by omega), e4 _ (by omega), a3]
  · rw [b2 _ (by omega), e4 _ (by omega), a4]
  · rw [b2 _ (by omega), e4 _ (by omega), a5]
  · rw [b2 _ (by omega), ← hm4, ax_u2_nk (by omega), ← hm3, ax_u2_nk (by omega), ← hm2, ax_u2_self]
  · rw [b2 _ (by omega), ← hm4, ax_u2_nk (by omega), ← hm3, ax_u2_self]
  · rw [b2 _ (by omega), ← hm4, ax_u2_self]
  · rw [b3 q]
    by_cases h1 : q < zpn k
    · rw [if_pos ⟨by omega, h1⟩, if_pos h1, e4 _ (by omega), a2 _ (by omega) (by omega) (by omega)]
    · rw [if_neg (fun w => h1 w.2), if_neg h1, e4 _ (by omega), a7 q hq]
theorem z_dr (hF : F < 12) : ax_ar (zC n m p) 12 (some 153) (nI F) = some (some (149 + 5 + 3 * F)) := by
  rw [z_ar (t := 12) (a := 153) (by omega) rfl (by show F < 12; exact hF) (by omega)]
  have e : zR p 153 F = some (154 + 3 * F) := by simp [zR, hF]
  rw [e]
/-- a node is made; what stands in its row -/
theorem f_nnend {g : Nat} (hT : zT m) (h : zRd m N P F fl) (hF : F < 100) (hk : k < 7) (x3 : Int32) : ∃ m', fb_X6_newNode_61 se (g + 1) (some 149) (nI k) x3 x y z (nI (znn k)) (zC n m p) = some (nI (N + F), zC n m' p) ∧ zRd m' N P (F + 1) fl ∧ (∀ a, a ≠ 149 → (12 ≤ F ∨ (a ≠ 149 + 5 + 3 * F ∧ a ≠ 149 + 5 + 3 * F + 1 ∧ a ≠ 149 + 5 + 3 * F + 2)) → m' a = m a) ∧ (F < 12 → m' (149 + 5 + 3 * F) 0 = nI k ∧ m' (149 + 5 + 3 * F) 1 = 0 ∧ m' (149 + 5 + 3 * F) 2 = 99 ∧ m' (149 + 5 + 3 * F + 1) 0 = x ∧ m' (149 + 5 + 3 * F + 1) 1 = y ∧ m' (149 + 5 + 3 * F + 1) 2 = z ∧ ∀ q, q < 4 → m' (149 + 5 + 3 * F + 2) q = if q < zpn k then m 152 (if q < znn k then q else 0) else zaf k q) := by
  have h4 := (znn_ok k hk).1
  have hpre : fb_X6_newNode_61 se (g + 1) (some 149) (nI k) x3 x y z (nI (znn k)) (zC n m p) = if 12 ≤ nI F then fb_X6_newNode_152 se (some 149) (nI (N + F)) (zC n m p) else (ax_gr (zC n m p) 4 2 (some 149)).bind fun r16 => (ax_gi (zC n m p) 4 3 (some 149)).bind fun x17 => (ax_ar (zC n m p) 12 r16 x17).bind fun r18 => (ax_sh (zC n m p) 4 (some 149)).bind fun w19 => (fn_X6_fill (some 149) r18 (nI k) x y z (zC n m p)).bind fun q20 => fb_X6_newNode_152 se (some 149) (nI (N + F)) q20 := by
    conv => lhs; unfold fb_X6_newNode_61
    rw [f_numbers hT hk, Option.bind_some]
    dsimp only
    rw [if_pos (nI_le (Nat.le_refl _) (by omega)), z_rd, h.2.1, Option.bind_some, z_rd, h.1, Option.bind_some, nI_add]
    unfold ax_bd
    dsimp only
    rw [Option.bind_some]
  have h152 : ∀ (m1 : Nat → Nat → Int32) (v : Int32), m1 149 3 = nI F → fb_X6_newNode_152 se (some 149) v (zC n m1 p) = some (v, zC n (ax_u2 m1 149 3 (nI (F + 1))) p) := by
    intro m1 v h1
    unfold fb_X6_newNode_152
    rw [z_rd, h1, Option.bind_some, nI_1, z_rp, Option.bind_some]
  have hrd : ∀ m1 : Nat → Nat → Int32, m1 149 = m 149 → zRd (ax_u2 m1 149 3 (nI (F + 1))) N P (F + 1) fl := fun m1 h1 => ⟨ax_u2_self, by rw [ax_u2_nk (by omega), h1]; exact h.2.1, by rw [ax_u2_nk (by omega), h1]; exact h.2.2.1, by rw [ax_u2_nk (by omega), h1]; exact h.2.2.2⟩
  rw [hpre]
  by_cases h12 : 12 ≤ F
  · rw [if_pos (show (12 : Int32) ≤ nI F from nI_le (a := 12) h12 (by omega)), h152 m _ h.1]
    exact ⟨_, rfl, hrd m rfl, fun a ha _ => zu2_row ha, fun q => absurd q (by omega)⟩
  · obtain ⟨m1, a1, a2, a3, a4, a5, a6, a7, a8, a9⟩ := f_fill (n := n) (p := p) (x := x) (y := y) (z := z) hT (show F < 12 by omega) hk
    have e149 : m1 149 = m 149 := a2 149 (by omega) (by omega) (by omega)
    rw [if_neg (show ¬ (12 : Int32) ≤ nI F from nI_ge (b := 12) (by omega) (by omega)), z_rr, show zR p 149 2 = some 153 from rfl, Option.bind_some, z_rd, h.1, Option.bind_some, z_dr (by omega), Option.bind_some, z_rsh, Option.bind_some, a1, Option.bind_some, h152 m1 _ (by rw [e149]; exact h.1)]
    refine ⟨_, rfl, hrd m1 e149, fun a ha hb => ?_, fun _ => ⟨by rw [zu2_row (by omega)]; exact a3, by rw [zu2_row (by omega)]; exact a4, by rw [zu2_row (by omega)]; exact a5, by rw [zu2_row (by omega)]; exact a6, by rw [zu2_row (by omega)]; exact a7, by rw [zu2_row (by omega)]; exact a8, fun q hq => by rw [zu2_row (by omega)]; exact a9 q hq⟩⟩
    rcases hb with hb | hb
    · exact absurd hb h12
    · rw [zu2_row ha, a2 a hb.1 hb.2.1 hb.2.2]
theorem zFx_nn (h : ∀ a, a ≠ 149 → (12 ≤ F ∨ (a ≠ 149 + 5 + 3 * F ∧ a ≠ 149 + 5 + 3 * F + 1 ∧ a ≠ 149 + 5 + 3 * F + 2)) → m' a = m a) : zFx m m' := fun a ha => h a (by omega) (by omega)
theorem zT_fx (h : zT m) (hf : zFx m m') : zT m' := fun a j ha => by rw [hf a (by omega)]; exact h a j ha
/-- the numbers behind a fault -/
theorem f_61F (hk : k < 7) (x3 : Int32) : ∀ (c i g : Nat) (m : Nat → Nat → Int32), i + c = znn k → zT m → zRd m N P F 1 → F < 100 → ∃ v m', fb_X6_newNode_61 se (g + 1 + c) (some 149) (nI k) x3 x y z (nI i) (zC n m p) = some (v, zC n m' p) ∧ zRd m' N P (F + 1) 1 ∧ zFx m m' := by
  have h4 := (znn_ok k hk).1
  intro c
  induction c with
  | zero =>
    intro i g m hi hT h hF
    obtain rfl : i = znn k := by omega
    obtain ⟨m', e1, e2, e3, -⟩ := f_nnend (n := n) (p := p) (se := se) (g := g) (x := x) (y := y) (z := z) hT h hF hk x3
    exact ⟨_, m', e1, e2, zFx_nn e3⟩
  | succ c ih =>
    intro i g m hi hT h hF
    have h83 : ∀ m1 : Nat → Nat → Int32, zT m1 → zRd m1 N P F 1 → ∃ v m', fb_X6_newNode_83 se (fb_X6_newNode_61 se (g + 1 + c)) (some 149) (nI k) x3 x y z (nI i) (zC n m1 p) = some (v, zC n m' p) ∧ zRd m' N P (F + 1) 1 ∧ zFx m1 m' := by
      intro m1 hT1 h1
      have y2 : zFx m1 (ax_u2 m1 152 i 0) := fun a ha => zu2_row (by omega)
      obtain ⟨v, m', e1, e2, e3⟩ := ih (i + 1) g (ax_u2 m1 152 i 0) (by omega) (zT_fx hT1 y2) ⟨by rw [zu2_row (by omega)]; exact h1.1, by rw [zu2_row (by omega)]; exact h1.2.1, by rw [zu2_row (by omega)]; exact h1.2.2.1, by rw [zu2_row (by omega)]; exact h1.2.2.2⟩ hF
      refine ⟨v, m', ?_, e2, zFx_tr y2 e3⟩
      unfold fb_X6_newNode_83
      rw [z_rr, show zR p 149 1 = some 152 from rfl, Option.bind_some, f_lowest hT1 hk (by omega), Option.bind_some]
      dsimp only
      rw [f_highest hT1 hk (by omega), Option.bind_some]
      dsimp only
      rw [z_rsh, Option.bind_some, f_rnF h1, Option.bind_some]
      dsimp only
      rw [z_ns (by omega), Option.bind_some, nI_1]
      exact e1
    rw [show g + 1 + (c + 1) = (g + 1 + c) + 1 by omega]
    conv => enter [1, v, 1, m', 1, 1]; unfold fb_X6_newNode_61
    rw [f_numbers hT hk, Option.bind_some]
    dsimp only
    rw [if_neg (nI_ge (by omega) (by omega))]
    by_cases h0 : x3 + nI i ≤ 0
    · rw [if_pos h0]
      exact h83 m hT h
    · rw [if_neg h0, z_rsh, Option.bind_some, f_expF h, Option.bind_some]
      obtain ⟨v, m', e1, e2, e3⟩ := h83 (ax_u2 m 149 6 1) (zT_fx hT (zFx_y zFy_149)) (zRd_6 h)
      exact ⟨v, m', e1, e2, zFx_tr (zFx_y zFy_149) e3⟩
end RNODE
