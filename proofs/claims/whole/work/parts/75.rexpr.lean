/-! ===== the class reads an expression ===== -/
def zKres (n : Nat) (p : Nat → Nat) (N : Nat) (m : Nat → Nat → Int32) (B : Nat) (o : Option (Int32 × ax_S)) (r : zRs) : Prop :=
  match r with
  | .inl f => ∃ v m' F', o = some (v, zC n m' p) ∧ zRd m' N f.1 F' 1 ∧ F' ≤ B ∧ zFx m m'
  | .inr r => ∃ m', o = some (nI (zcv N r.2.1), zC n m' p) ∧ zRd m' N r.1 r.2.2.1 0 ∧ zFx m m' ∧ zGN m' 149 (min r.2.2.1 12) r.2.2.2
def zNres (n : Nat) (p : Nat → Nat) (N : Nat) (m : Nat → Nat → Int32) (B : Nat) (o : Option (Int32 × ax_S)) (r : Nat ⊕ (Nat × Nat × (Nat → Nat → Int32))) : Prop :=
  match r with
  | .inl q => ∃ v m' F', o = some (v, zC n m' p) ∧ zRd m' N q F' 1 ∧ F' ≤ B ∧ zFx m m'
  | .inr r => ∃ m', o = some (nI (N + r.2.1), zC n m' p) ∧ zRd m' N r.1 (r.2.1 + 1) 0 ∧ zFx m m' ∧ zGN m' 149 (min (r.2.1 + 1) 12) r.2.2
def zKs (n : Nat) (p T : Nat → Nat) (L N d e : Nat) (se : Option Nat → Int32 → ax_S → Option (Int32 × ax_S)) : Prop := ∀ (P F : Nat) (W m : Nat → Nat → Int32), zEv m L T → zRd m N P F 0 → P ≤ L → 3 * F ≤ P → zGN m 149 (min F 12) W → zKres n p N m (30 + d) (se (some 149) (nI e) (zC n m p)) (zpx T L N d e P F W)
def zKfl (n : Nat) (p T : Nat → Nat) (L N e : Nat) (se : Option Nat → Int32 → ax_S → Option (Int32 × ax_S)) : Prop := ∀ (P F : Nat) (m : Nat → Nat → Int32), zEv m L T → zRd m N P F 1 → P ≤ 100 → se (some 149) (nI e) (zC n m p) = some (-1005, zC n (ax_u2 m 149 6 1) p)
section REXPR
variable {n L N P F B k i d e g : Nat} {m m' m1 : Nat → Nat → Int32} {p T : Nat → Nat} {c fl hi x y z : Int32} {W : Nat → Nat → Int32} {se : Option Nat → Int32 → ax_S → Option (Int32 × ax_S)}
theorem zNres_mono {B' : Nat} {o : Option (Int32 × ax_S)} {r : Nat ⊕ (Nat × Nat × (Nat → Nat → Int32))} (h : zNres n p N m1 B o r) (hf : zFx m m1) (hB : B ≤ B') : zNres n p N m B' o r := by
  cases r with
  | inl q =>
    obtain ⟨v, m', F', e1, e2, e3, e4⟩ := h
    exact ⟨v, m', F', e1, e2, by omega, zFx_tr hf e4⟩
  | inr r =>
    obtain ⟨m', e1, e2, e3, e4⟩ := h
    exact ⟨m', e1, e2, zFx_tr hf e3, e4⟩
theorem f_83F (hk : k < 7) (x3 : Int32) {c : Nat} (hi : i + (c + 1) = znn k) (hT : zT m) (h : zRd m N P F 1) (hF : F < 100) : ∃ v m', fb_X6_newNode_83 se (fb_X6_newNode_61 se (g + 1 + c)) (some 149) (nI k) x3 x y z (nI i) (zC n m p) = some (v, zC n m' p) ∧ zRd m' N P (F + 1) 1 ∧ zFx m m' := by
  have h4 := (znn_ok k hk).1
  have y2 : zFx m (ax_u2 m 152 i 0) := fun a ha => zu2_row (by omega)
  obtain ⟨v, m', e1, e2, e3⟩ := f_61F (n := n) (p := p) (se := se) (x := x) (y := y) (z := z) hk x3 c (i + 1) g (ax_u2 m 152 i 0) (by omega) (zT_fx hT y2) ⟨by rw [zu2_row (by omega)]; exact h.1, by rw [zu2_row (by omega)]; exact h.2.1, by rw [zu2_row (by omega)]; exact h.2.2.1, by rw [zu2_row (by omega)]; exact h.2.2.2⟩ hF
  refine ⟨v, m', ?_, e2, zFx_tr y2 e3⟩
  unfold fb_X6_newNode_83
  rw [z_rr, show zR p 149 1 = some 152 from rfl, Option.bind_some, f_lowest hT hk (by omega), Option.bind_some]
  dsimp only
  rw [f_highest hT hk (by omega), Option.bind_some]
  dsimp only
  rw [z_rsh, Option.bind_some, f_rnF h, Option.bind_some]
  dsimp only
  rw [z_ns (by omega), Option.bind_some, nI_1]
  exact e1
theorem f_61 (hk : k < 7) : ∀ (c i P : Nat) (ns : Nat → Int32) (m : Nat → Nat → Int32), i + c = znn k → zEv m L T → zRd m N P F 0 → P ≤ L → F < 99 → (∀ j, j < i → m 152 j = ns j) → match zns T L k c i P ns with
    | .inl q => ∃ v m', fb_X6_newNode_61 se (g + 1 + c) (some 149) (nI k) (nI (zin k)) x y z (nI i) (zC n m p) = some (v, zC n m' p) ∧ zRd m' N q (F + 1) 1 ∧ zFx m m'
    | .inr q => ∃ m', fb_X6_newNode_61 se (g + 1 + c) (some 149) (nI k) (nI (zin k)) x y z (nI i) (zC n m p) = fb_X6_newNode_61 se (g + 1) (some 149) (nI k) (nI (zin k)) x y z (nI (znn k)) (zC n m' p) ∧ zRd m' N q.1 F 0 ∧ (∀ a, a ≠ 149 → a ≠ 152 → m' a = m a) ∧ ∀ j, j < znn k → m' 152 j = q.2 j := by
  have h4 := (znn_ok k hk).1
  have hz3 := (zin_lt k hk).1
  intro c
  induction c with
  | zero =>
    intro i P ns m hi hE h hP hF hns
    obtain rfl : i = znn k := by omega
    exact ⟨m, rfl, h, fun _ _ _ => rfl, hns⟩
  | succ c ih =>
    intro i P ns m hi hE h hP hF hns
    have hL := hE.2.2.2.1
    have hT := hE.1
    have h83 : ∀ (P1 : Nat) (m1 : Nat → Nat → Int32), zEv m1 L T → zRd m1 N P1 F 0 → P1 ≤ L → (∀ j, j < i → m1 152 j = ns j) → match znu T L k i P1 with
        | .inl q => ∃ v m', fb_X6_newNode_83 se (fb_X6_newNode_61 se (g + 1 + c)) (some 149) (nI k) (nI (zin k)) x y z (nI i) (zC n m1 p) = some (v, zC n m' p) ∧ zRd m' N q (F + 1) 1 ∧ zFx m1 m'
        | .inr q => ∃ m2, fb_X6_newNode_83 se (fb_X6_newNode_61 se (g + 1 + c)) (some 149) (nI k) (nI (zin k)) x y z (nI i) (zC n m1 p) = fb_X6_newNode_61 se (g + 1 + c) (some 149) (nI k) (nI (zin k)) x y z (nI (i + 1)) (zC n m2 p) ∧ zRd m2 N q.1 F 0 ∧ (∀ a, a ≠ 149 → a ≠ 152 → m2 a = m1 a) ∧ ∀ j, j < i + 1 → m2 152 j = va_up ns i q.2 j := by
      intro P1 m1 hE1 h1 hP1 hn1
      have hu := f_znu (n := n) (p := p) hE1 h1 (by omega) hk (show i < znn k by omega)
      have hpre : ∀ (v : Int32) (m2 : Nat → Nat → Int32), fn_X6_readNumber (some 149) (zlo k i) (zhi k i) (zC n m1 p) = some (v, zC n m2 p) → fb_X6_newNode_83 se (fb_X6_newNode_61 se (g + 1 + c)) (some 149) (nI k) (nI (zin k)) x y z (nI i) (zC n m1 p) = fb_X6_newNode_61 se (g + 1 + c) (some 149) (nI k) (nI (zin k)) x y z (nI (i + 1)) (zC n (ax_u2 m2 152 i v) p) := by
        intro v m2 hv
        unfold fb_X6_newNode_83
        rw [z_rr, show zR p 149 1 = some 152 from rfl, Option.bind_some, f_lowest hE1.1 hk (by omega), Option.bind_some]
        dsimp only
        rw [f_highest hE1.1 hk (by omega), Option.bind_some]
        dsimp only
        rw [z_rsh, Option.bind_some, hv, Option.bind_some]
        dsimp only
        rw [z_ns (by omega), Option.bind_some, nI_1]
      cases hz : znu T L k i P1 with
      | inl q =>
        rw [hz] at hu
        obtain ⟨v, m2, e1, e2, e3⟩ := hu
        have y2 : zFx m2 (ax_u2 m2 152 i v) := fun a ha => zu2_row (by omega)
        obtain ⟨v', m', g1, g2, g3⟩ := f_61F (n := n) (p := p) (se := se) (x := x) (y := y) (z := z) hk (nI (zin k)) c (i + 1) g (ax_u2 m2 152 i v) (by omega) (zT_fx hE1.1 (zFx_tr (zFx_y e3) y2)) ⟨by rw [zu2_row (by omega)]; exact e2.1, by rw [zu2_row (by omega)]; exact e2.2.1, by rw [zu2_row (by omega)]; exact e2.2.2.1, by rw [zu2_row (by omega)]; exact e2.2.2.2⟩ (by omega)
        exact ⟨v', m', (hpre v m2 e1).trans g1, g2, zFx_tr (zFx_tr (zFx_y e3) y2) g3⟩
      | inr q =>
        rw [hz] at hu
        obtain ⟨m2, e1, e2, e3⟩ := hu
        refine ⟨ax_u2 m2 152 i q.2, hpre q.2 m2 e1, ⟨by rw [zu2_row (by omega)]; exact e2.1, by rw [zu2_row (by omega)]; exact e2.2.1, by rw [zu2_row (by omega)]; exact e2.2.2.1, by rw [zu2_row (by omega)]; exact e2.2.2.2⟩, fun a ha hb => by rw [zu2_row hb]; exact e3 a ha, fun j hj => ?_⟩
        by_cases hji : j = i
        · subst hji
          rw [ax_u2_self, va_up_self]
        · rw [ax_u2_nk hji, va_up_ne _ _ hji, e3 152 (by omega)]
          exact hn1 j (by omega)
    -- behind the comma
    have hgo : ∀ (P1 : Nat) (m1 : Nat → Nat → Int32), zEv m1 L T → zRd m1 N P1 F 0 → P1 ≤ L → (∀ j, j < i → m1 152 j = ns j) → (∀ a, a ≠ 149 → m1 a = m a) → fb_X6_newNode_61 se (g + 1 + (c + 1)) (some 149) (nI k) (nI (zin k)) x y z (nI i) (zC n m p) = fb_X6_newNode_83 se (fb_X6_newNode_61 se (g + 1 + c)) (some 149) (nI k) (nI (zin k)) x y z (nI i) (zC n m1 p) → match (match znu T L k i P1 with
          | .inl p => .inl p
          | .inr q => zns T L k c (i + 1) q.1 (va_up ns i q.2) : Nat ⊕ (Nat × (Nat → Int32))) with
        | .inl q => ∃ v m', fb_X6_newNode_61 se (g + 1 + (c + 1)) (some 149) (nI k) (nI (zin k)) x y z (nI i) (zC n m p) = some (v, zC n m' p) ∧ zRd m' N q (F + 1) 1 ∧ zFx m m'
        | .inr q => ∃ m', fb_X6_newNode_61 se (g + 1 + (c + 1)) (some 149) (nI k) (nI (zin k)) x y z (nI i) (zC n m p) = fb_X6_newNode_61 se (g + 1) (some 149) (nI k) (nI (zin k)) x y z (nI (znn k)) (zC n m' p) ∧ zRd m' N q.1 F 0 ∧ (∀ a, a ≠ 149 → a ≠ 152 → m' a = m a) ∧ ∀ j, j < znn k → m' 152 j = q.2 j := by
      intro P1 m1 hE1 h1 hP1 hn1 hf1 heq
      have h2 := h83 P1 m1 hE1 h1 hP1 hn1
      have hx1 : zFx m m1 := fun a ha => hf1 a (by omega)
      cases hz : znu T L k i P1 with
      | inl q =>
        rw [hz] at h2
        obtain ⟨v, m', e1, e2, e3⟩ := h2
        exact ⟨v, m', heq.trans e1, e2, zFx_tr hx1 e3⟩
      | inr q =>
        rw [hz] at h2
        obtain ⟨m2, e1, e2, e3, e4⟩ := h2
        have hx2 : zFx m1 m2 := fun a ha => e3 a (by omega) (by omega)
        obtain ⟨a1, a2, -, -⟩ := znu_ok hE.2.2.2.2 hk (show i < znn k by omega) hz
        have h3 := ih (i + 1) q.1 (va_up ns i q.2) m2 (by omega) (zEv_fx hE1 hx2) e2 a2 hF e4
        show match zns T L k c (i + 1) q.1 (va_up ns i q.2) with
          | .inl q => ∃ v m', fb_X6_newNode_61 se (g + 1 + (c + 1)) (some 149) (nI k) (nI (zin k)) x y z (nI i) (zC n m p) = some (v, zC n m' p) ∧ zRd m' N q (F + 1) 1 ∧ zFx m m'
          | .inr q => ∃ m', fb_X6_newNode_61 se (g + 1 + (c + 1)) (some 149) (nI k) (nI (zin k)) x y z (nI i) (zC n m p) = fb_X6_newNode_61 se (g + 1) (some 149) (nI k) (nI (zin k)) x y z (nI (znn k)) (zC n m' p) ∧ zRd m' N q.1 F 0 ∧ (∀ a, a ≠ 149 → a ≠ 152 → m' a = m a) ∧ ∀ j, j < znn k → m' 152 j = q.2 j
        cases hr : zns T L k c (i + 1) q.1 (va_up ns i q.2) with
        | inl r =>
          rw [hr] at h3
          obtain ⟨v, m', g1, g2, g3⟩ := h3
          exact ⟨v, m', heq.trans (e1.trans g1), g2, zFx_tr hx1 (zFx_tr hx2 g3)⟩
        | inr r =>
          rw [hr] at h3
          obtain ⟨m', g1, g2, g3, g4⟩ := h3
          exact ⟨m', heq.trans (e1.trans g1), g2, fun a ha hb => by rw [g3 a ha hb, e3 a ha hb, hf1 a ha], g4⟩
    have hun : fb_X6_newNode_61 se (g + 1 + (c + 1)) (some 149) (nI k) (nI (zin k)) x y z (nI i) (zC n m p) = if nI (zin k + i) ≤ 0 then fb_X6_newNode_83 se (fb_X6_newNode_61 se (g + 1 + c)) (some 149) (nI k) (nI (zin k)) x y z (nI i) (zC n m p) else (fn_X6_expect (some 149) 44 (zC n m p)).bind fun q23 => fb_X6_newNode_83 se (fb_X6_newNode_61 se (g + 1 + c)) (some 149) (nI k) (nI (zin k)) x y z (nI i) q23 := by
      rw [show g + 1 + (c + 1) = (g + 1 + c) + 1 by omega]
      conv => lhs; unfold fb_X6_newNode_61
      rw [f_numbers hT hk, Option.bind_some]
      dsimp only
      rw [if_neg (nI_ge (by omega) (by omega)), nI_add, z_rsh, Option.bind_some]
    unfold zns
    by_cases h0 : 0 < zin k + i
    · have hun' := hun.trans (if_neg (nI_nle h0 (by omega)))
      by_cases hc : zch T L P = 44
      · rw [if_neg (fun q => q.2 hc), if_pos h0]
        obtain ⟨c1, c2⟩ := zch_nat (a := 44) hc (by omega) hE.2.2.2.2
        exact hgo (P + 1) (ax_u2 m 149 5 (nI (P + 1))) (zEv_fy hE zFy_149) (zRd_5 h) (by omega) (fun j hj => by rw [zu2_row (by omega)]; exact hns j hj) (fun a ha => zu2_row ha) (by rw [hun', f_exp0 hE h (by omega) hc, Option.bind_some])
      · rw [if_pos ⟨h0, hc⟩]
        obtain ⟨v, m', e1, e2, e3⟩ := f_83F (n := n) (p := p) (se := se) (g := g) (x := x) (y := y) (z := z) hk (nI (zin k)) (c := c) (i := i) (by omega) (zT_fx hT (zFx_y zFy_149)) (zRd_6 (v := 1) h) (by omega)
        exact ⟨v, m', by rw [hun', f_exp1 hE h (by omega) hc, Option.bind_some]; exact e1, e2, zFx_tr (zFx_y zFy_149) e3⟩
    · have hun' := hun.trans (if_pos (by rw [show zin k + i = 0 by omega]; decide))
      rw [if_neg (fun q => h0 q.1), if_neg h0]
      exact hgo P m hE h hP hns (fun _ _ => rfl) hun'
end REXPR
