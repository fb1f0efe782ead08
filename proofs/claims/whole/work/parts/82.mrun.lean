/-! ===== the model reads: the run over its pile ===== -/
def zRT (n : Nat) (p : Nat → Nat) (t : Nat) (b : Int32) (m : Nat → Nat → Int32) (b' : Int32) (m' : Nat → Nat → Int32) : Prop := ∀ fu, fb_X10_isText_25 (fu + t) (some 275) b (zC n m p) = fb_X10_isText_25 fu (some 275) b' (zC n m' p)
def zbd : Nat → Nat
  | 0 => 0
  | d + 1 => 4 + 3 * zbd d
section MRUN
variable {n L N P F D D0 k i j e g w fu d s t : Nat} {m m' m1 m2 m3 : Nat → Nat → Int32} {p T : Nat → Nat} {c hi x b b' b2 : Int32} {us : Nat → Nat} {W : Nat → Nat → Int32}
theorem zRT_0 : zRT n p 0 b m b m := fun _ => rfl
theorem zRT_tr (h1 : zRT n p s b m1 b' m2) (h2 : zRT n p t b' m2 b2 m3) : zRT n p (s + t) b m1 b2 m3 := fun fu => by
  rw [show fu + (s + t) = (fu + t) + s by omega, h1, h2]
theorem m_it (hE : zEm m L T N) (h20 : m 275 20 = nI (e + 1)) (h290 : m 290 e = nI k) (he : e < 6) (hk : k < 7) : fb_X10_isText_25 (fu + 1) (some 275) 1 (zC n m p) = fb_X10_isText_64 (fb_X10_isText_25 fu) (some 275) (nI k) (nI (zin k)) (zC n m p) := by
  conv => lhs; unfold fb_X10_isText_25
  rw [if_neg (by decide), z_m1, h20, Option.bind_some, if_neg (nI_nle (by omega) (by omega)), z_m22, Option.bind_some, Option.bind_some, nI_pred, z_o0 (by omega), h290, Option.bind_some, if_neg (fun q => absurd ((zkh_7 k (by omega)).mp q) (by omega)), z_m13, Option.bind_some, z_al (t := 9) (a := 285) (by omega) rfl (by exact hk) (by omega), (hE.2.1 k hk).1, Option.bind_some]
theorem m_it7 (h20 : m 275 20 = nI (e + 1)) (h290 : m 290 e = nI 7) (he : e < 6) : fb_X10_isText_25 (fu + 1) (some 275) 1 (zC n m p) = fb_X10_isText_64 (fb_X10_isText_25 fu) (some 275) 7 0 (zC n m p) := by
  conv => lhs; unfold fb_X10_isText_25
  rw [if_neg (by decide), z_m1, h20, Option.bind_some, if_neg (nI_nle (by omega) (by omega)), z_m22, Option.bind_some, Option.bind_some, nI_pred, z_o0 (by omega), h290, Option.bind_some, if_pos (by decide)]
  rfl
section K25
variable {k25 : Option Nat → Int32 → ax_S → Option (Int32 × ax_S)} {a2 : Int32}
theorem m_64e (h20 : m 275 20 = nI (e + 1)) (h291 : m 291 e = nI j) (he : e < 6) (hj : j < 2 ^ 31) (hw : w ≤ j) : fb_X10_isText_64 k25 (some 275) a2 (nI w) (zC n m p) = (fn_X10_ends (some 275) a2 (zC n m p)).bind fun q17 => (ax_gi q17.2 7 20 (some 275)).bind fun x18 => if q17.1 = 0 then (ax_pi q17.2 7 20 (some 275) (x18 - (0))).bind fun s20 => k25 (some 275) q17.1 s20 else (ax_pi q17.2 7 20 (some 275) (x18 - (1))).bind fun s21 => k25 (some 275) q17.1 s21 := by
  unfold fb_X10_isText_64
  rw [z_m23, Option.bind_some, z_m1, h20, Option.bind_some, nI_pred, z_o1 (by omega), h291, Option.bind_some, if_pos (nI_le hw hj), z_mo 0, Option.bind_some]
theorem m_64pre (h20 : m 275 20 = nI (e + 1)) (h291 : m 291 e = nI j) (he : e < 6) (hw : j < w) (hw2 : w < 2 ^ 31) : fb_X10_isText_64 k25 (some 275) a2 (nI w) (zC n m p) = if nI j = 0 then fb_X10_isText_103 k25 (some 275) (zC n m p) else (fn_X10_takes (some 275) (44) (zC n m p)).bind fun q27 => if q27.1 = 0 then fb_X10_isText_108 k25 (some 275) (0) q27.2 else fb_X10_isText_103 k25 (some 275) q27.2 := by
  unfold fb_X10_isText_64
  rw [z_m23, Option.bind_some, z_m1, h20, Option.bind_some, nI_pred, z_o1 (by omega), h291, Option.bind_some, if_neg (nI_ge hw hw2), Option.bind_some, Option.bind_some, nI_pred, z_o1 (by omega), h291, Option.bind_some, z_mo 0, Option.bind_some]
theorem m_103 (h20 : m 275 20 = nI (e + 1)) (h291 : m 291 e = nI j) (he : e < 6) : fb_X10_isText_103 k25 (some 275) (zC n m p) = (fn_X10_begins (some 275) (zC n (ax_u2 m 291 e (nI (j + 1))) p)).bind fun q11 => k25 (some 275) q11.1 q11.2 := by
  unfold fb_X10_isText_103 fb_X10_isText_108
  rw [if_neg (by decide), z_m23, Option.bind_some, z_m1, h20, Option.bind_some, nI_pred, z_o1 (by omega), h291, Option.bind_some, nI_1, z_o1s (by omega), Option.bind_some, z_mo 0, Option.bind_some]
end K25
/-- an expression, from its begin on -/
def zMx (n : Nat) (p T : Nat → Nat) (L N d e : Nat) : Prop := ∀ (P F D : Nat) (W m : Nat → Nat → Int32), zEm m L T N → zMs m P e F D N W → P ≤ L → 3 * F ≤ P → 3 * D ≤ P → match zpx T L N d e P F W with
  | .inl f => ∃ b m1 m' t, fn_X10_begins (some 275) (zC n m p) = some (b, zC n m1 p) ∧ zRT n p t b m1 0 m' ∧ t ≤ zbd d ∧ m' 275 19 = nI f.1 ∧ m' 275 20 = nI f.2 ∧ zFq m m'
  | .inr r => ∃ m1 m' t, fn_X10_begins (some 275) (zC n m p) = some (1, zC n m1 p) ∧ zRT n p t 1 m1 1 m' ∧ t ≤ zbd d ∧ zMs m' r.1 e r.2.2.1 (D + 1) N r.2.2.2 ∧ (r.2.1 < 1000 ∧ m' 293 D = nI r.2.1) ∧ (∀ i, i < D → m' 293 i = m 293 i) ∧ (∀ i, i < e → m' 290 i = m 290 i ∧ m' 291 i = m 291 i) ∧ zFq m m'
theorem m_xs (hN : N ≤ 12) (hk : k < 7) (he : e < 6) (hx : zMx n p T L N d (e + 1)) : ∀ (c j P F : Nat) (W : Nat → Nat → Int32) (us : Nat → Nat) (m : Nat → Nat → Int32), j + c = zin k → zEm m L T N → zMs m P (e + 1) F (D0 + j) N W → P ≤ L → 3 * F ≤ P → 3 * (D0 + j) ≤ P → m 290 e = nI k → m 291 e = nI j → (∀ t, t < j → us t < 1000 ∧ m 293 (D0 + t) = nI (us t)) → match zxs T L (e + 1) (zpx T L N d (e + 1)) c j P F W us with
    | .inl f => ∃ m' t, zRT n p t 1 m 0 m' ∧ t ≤ c * (1 + zbd d) ∧ m' 275 19 = nI f.1 ∧ m' 275 20 = nI f.2 ∧ zFq m m'
    | .inr r => ∃ m' t, zRT n p t 1 m 1 m' ∧ t ≤ c * (1 + zbd d) ∧ zMs m' r.1 (e + 1) r.2.1 (D0 + zin k) N r.2.2.1 ∧ (∀ t, t < zin k → r.2.2.2 t < 1000 ∧ m' 293 (D0 + t) = nI (r.2.2.2 t)) ∧ (∀ i, i < D0 → m' 293 i = m 293 i) ∧ (∀ i, i < e → m' 290 i = m 290 i ∧ m' 291 i = m 291 i) ∧ (m' 290 e = nI k ∧ m' 291 e = nI (zin k)) ∧ zFq m m' := by
  have hz3 := (zin_lt k hk).1
  intro c
  induction c with
  | zero =>
    intro j P F W us m hj hE hm hP hF hD h290 h291 hu
    obtain rfl : j = zin k := by omega
    exact ⟨m, 0, zRT_0, by omega, hm, hu, fun _ _ => rfl, fun _ _ => ⟨rfl, rfl⟩, ⟨h290, h291⟩, zFq_rf⟩
  | succ c ih =>
    intro j P F W us m hj hE hm hP hF hD h290 h291 hu
    have hL := hE.2.2.2.1
    have hT := hE.2.2.2.2
    have hmul : (c + 1) * (1 + zbd d) = c * (1 + zbd d) + (1 + zbd d) := Nat.succ_mul c _
    have hit := fun fu => (m_it (n := n) (p := p) (fu := fu) hE hm.1.2.1 h290 he hk).trans (m_64pre (n := n) (p := p) (k25 := fb_X10_isText_25 fu) (a2 := nI k) hm.1.2.1 h291 he (show j < zin k by omega) (by omega))
    -- behind the comma
    have hgo : ∀ (P1 : Nat) (m1 : Nat → Nat → Int32), zFl m m1 → m1 275 19 = nI P1 → P ≤ P1 → P1 ≤ L → (∀ fu, fb_X10_isText_25 (fu + 1) (some 275) 1 (zC n m p) = fb_X10_isText_103 (fb_X10_isText_25 fu) (some 275) (zC n m1 p)) → match (match zpx T L N d (e + 1) P1 F W with
          | .inl f => .inl f
          | .inr r => zxs T L (e + 1) (zpx T L N d (e + 1)) c (j + 1) r.1 r.2.2.1 r.2.2.2 (va_up us j r.2.1) : (Nat × Nat) ⊕ (Nat × Nat × (Nat → Nat → Int32) × (Nat → Nat))) with
        | .inl f => ∃ m' t, zRT n p t 1 m 0 m' ∧ t ≤ (c + 1) * (1 + zbd d) ∧ m' 275 19 = nI f.1 ∧ m' 275 20 = nI f.2 ∧ zFq m m'
        | .inr r => ∃ m' t, zRT n p t 1 m 1 m' ∧ t ≤ (c + 1) * (1 + zbd d) ∧ zMs m' r.1 (e + 1) r.2.1 (D0 + zin k) N r.2.2.1 ∧ (∀ t, t < zin k → r.2.2.2 t < 1000 ∧ m' 293 (D0 + t) = nI (r.2.2.2 t)) ∧ (∀ i, i < D0 → m' 293 i = m 293 i) ∧ (∀ i, i < e → m' 290 i = m 290 i ∧ m' 291 i = m 291 i) ∧ (m' 290 e = nI k ∧ m' 291 e = nI (zin k)) ∧ zFq m m' := by
      intro P1 m1 hf1 h19 hPP hP1 hstep
      have r2 : ∀ a, a ≠ 291 → ax_u2 m1 291 e (nI (j + 1)) a = m1 a := fun a ha => zu2_row ha
      have q2 : zFq m (ax_u2 m1 291 e (nI (j + 1))) := zFq_tr (zFq_fl hf1) ⟨fun a _ hb => r2 a (by omega), fun k _ => by rw [r2 _ (by omega)]⟩
      have s2 : ax_u2 m1 291 e (nI (j + 1)) 291 e = nI (j + 1) := ax_u2_self
      have b2' : ∀ i, i ≠ e → ax_u2 m1 291 e (nI (j + 1)) 291 i = m 291 i := fun i hi => by rw [ax_u2_nk hi, hf1.1 291 (by omega)]
      have h103 := fun fu => (hstep fu).trans (m_103 (n := n) (p := p) (k25 := fb_X10_isText_25 fu) (m := m1) (by rw [hf1.2 20 (by omega) (by omega)]; exact hm.1.2.1) (by rw [hf1.1 291 (by omega)]; exact h291) he)
      have e2a : ∀ a, a ≠ 291 → a ≠ 275 → ax_u2 m1 291 e (nI (j + 1)) a = m a := fun a h1 h2 => by rw [r2 a h1, hf1.1 a h2]
      have e2k : ∀ i, i ≠ 19 → i ≠ 21 → ax_u2 m1 291 e (nI (j + 1)) 275 i = m 275 i := fun i h1 h2 => by rw [r2 _ (by omega), hf1.2 i h1 h2]
      have p2 : ax_u2 m1 291 e (nI (j + 1)) 275 19 = nI P1 := by rw [r2 _ (by omega)]; exact h19
      generalize ax_u2 m1 291 e (nI (j + 1)) = m2 at q2 s2 b2' h103 e2a e2k p2
      have hE2 := zEm_fq hE q2
      have hm2 : zMs m2 P1 (e + 1) F (D0 + j) N W := ⟨⟨p2, by rw [e2k _ (by omega) (by omega)]; exact hm.1.2.1, by rw [e2k _ (by omega) (by omega)]; exact hm.1.2.2.1, by rw [e2k _ (by omega) (by omega)]; exact hm.1.2.2.2⟩, zTold_fr hm.2 (e2a _ (by omega) (by omega))⟩
      have h1 := hx P1 F (D0 + j) W m2 hE2 hm2 hP1 (by omega) (by omega)
      have hk1 := zpx_ok (L := L) hT hN d (e + 1) P1 F W hP1
      cases hz : zpx T L N d (e + 1) P1 F W with
      | inl f =>
        rw [hz] at h1
        obtain ⟨b, m3, m', t, a1, a2, a3, a4, a5, a6⟩ := h1
        refine ⟨m', 1 + t, zRT_tr (b' := b) (m2 := m3) (fun fu => ?_) a2, by omega, a4, a5, zFq_tr q2 a6⟩
        rw [h103, a1, Option.bind_some]
      | inr r =>
        rw [hz] at h1 hk1
        obtain ⟨m3, m4, t, a1, a2, a3, a4, a5, a6, a7, a8⟩ := h1
        obtain ⟨k1, k2, k3, k4, -⟩ := hk1
        have h290' : m4 290 e = nI k := by rw [(a7 e (by omega)).1, e2a 290 (by omega) (by omega)]; exact h290
        have h291' : m4 291 e = nI (j + 1) := by rw [(a7 e (by omega)).2]; exact s2
        have h3 := ih (j + 1) r.1 r.2.2.1 r.2.2.2 (va_up us j r.2.1) m4 (by omega) (zEm_fq hE2 a8) (by rw [← Nat.add_assoc]; exact a4) k2 (by omega) (by omega) h290' h291' (fun t ht => by
          by_cases htj : t = j
          · subst htj
            rw [va_up_self]
            exact a5
          · rw [va_up_ne _ _ htj, a6 _ (by omega), e2a 293 (by omega) (by omega)]
            exact hu t (by omega))
        have hrun : zRT n p (1 + t) 1 m 1 m4 := zRT_tr (b' := 1) (m2 := m3) (fun fu => by rw [h103, a1, Option.bind_some]) a2
        show match zxs T L (e + 1) (zpx T L N d (e + 1)) c (j + 1) r.1 r.2.2.1 r.2.2.2 (va_up us j r.2.1) with
          | .inl f => ∃ m' t, zRT n p t 1 m 0 m' ∧ t ≤ (c + 1) * (1 + zbd d) ∧ m' 275 19 = nI f.1 ∧ m' 275 20 = nI f.2 ∧ zFq m m'
          | .inr r => ∃ m' t, zRT n p t 1 m 1 m' ∧ t ≤ (c + 1) * (1 + zbd d) ∧ zMs m' r.1 (e + 1) r.2.1 (D0 + zin k) N r.2.2.1 ∧ (∀ t, t < zin k → r.2.2.2 t < 1000 ∧ m' 293 (D0 + t) = nI (r.2.2.2 t)) ∧ (∀ i, i < D0 → m' 293 i = m 293 i) ∧ (∀ i, i < e → m' 290 i = m 290 i ∧ m' 291 i = m 291 i) ∧ (m' 290 e = nI k ∧ m' 291 e = nI (zin k)) ∧ zFq m m'
        cases hs : zxs T L (e + 1) (zpx T L N d (e + 1)) c (j + 1) r.1 r.2.2.1 r.2.2.2 (va_up us j r.2.1) with
        | inl f =>
          rw [hs] at h3
          obtain ⟨m', t', g1, g2, g3, g4, g5⟩ := h3
          exact ⟨m', 1 + t + t', zRT_tr hrun g1, by omega, g3, g4, zFq_tr q2 (zFq_tr a8 g5)⟩
        | inr s =>
          rw [hs] at h3
          obtain ⟨m', t', g1, g2, g3, g4, g5, g6, g7, g8⟩ := h3
          exact ⟨m', 1 + t + t', zRT_tr hrun g1, by omega, g3, g4, fun i hi => by rw [g5 i hi, a6 i (by omega), e2a 293 (by omega) (by omega)], fun i hi => ⟨by rw [(g6 i hi).1, (a7 i (by omega)).1, e2a 290 (by omega) (by omega)], by rw [(g6 i hi).2, (a7 i (by omega)).2, b2' i (by omega)]⟩, g7, zFq_tr q2 (zFq_tr a8 g8)⟩
    rw [zxs_s]
    by_cases h0 : 0 < j
    · have hit' := fun fu => (hit fu).trans (if_neg (nI_ne0 h0 (by omega)))
      by_cases hc : zch T L P = 44
      · obtain ⟨c1, c2⟩ := zch_nat (a := 44) hc (by omega) hT
        rw [if_neg (fun q => q.2 hc), if_pos h0]
        refine hgo (P + 1) (ax_u2 m 275 19 (nI (P + 1))) (zFl_1 (Or.inl rfl)) ax_u2_self (by omega) (by omega) (fun fu => ?_)
        rw [hit', m_takes1 hE hm.1.1 (by omega) hc, Option.bind_some]
        dsimp only
        rw [if_neg (by decide)]
      · rw [if_pos ⟨h0, hc⟩]
        refine ⟨m, 1, fun fu => ?_, by omega, hm.1.1, hm.1.2.1, zFq_rf⟩
        rw [hit', m_takes0 hE hm.1.1 (by omega) hc, Option.bind_some]
        dsimp only
        rw [if_pos rfl]
        unfold fb_X10_isText_108
        rw [if_pos rfl]
    · have hj0 : j = 0 := by omega
      rw [if_neg (fun q => h0 q.1), if_neg h0]
      exact hgo P m zFl_rf hm.1.1 (Nat.le_refl _) hP (fun fu => (hit fu).trans (if_pos (by rw [hj0]; exact nI_0)))
/-- the last round of an expression -/
theorem m_last {a2 : Int32} {m0 : Nat → Nat → Int32} (h20 : m 275 20 = nI (e + 1)) (h291 : m 291 e = nI j) (he : e < 6) (hj : j < 2 ^ 31) (hw : w ≤ j) (hit : ∀ fu, fb_X10_isText_25 (fu + 1) (some 275) 1 (zC n m p) = fb_X10_isText_64 (fb_X10_isText_25 fu) (some 275) a2 (nI w) (zC n m p)) : (fn_X10_ends (some 275) a2 (zC n m p) = some (0, zC n m0 p) → m0 275 20 = nI (e + 1) → zRT n p 1 1 m 0 m0) ∧ (fn_X10_ends (some 275) a2 (zC n m p) = some (1, zC n m0 p) → m0 275 20 = nI (e + 1) → zRT n p 1 1 m 1 (ax_u2 m0 275 20 (nI e))) := by
  have hun := fun fu => (hit fu).trans (m_64e (n := n) (p := p) (k25 := fb_X10_isText_25 fu) (a2 := a2) h20 h291 he hj hw)
  constructor
  · intro h1 h2 fu
    rw [hun, h1, Option.bind_some]
    dsimp only
    rw [z_m1, h2, Option.bind_some, if_pos rfl, Int32.sub_zero, z_m2, Option.bind_some, zu2_same h2]
  · intro h1 h2 fu
    rw [hun, h1, Option.bind_some]
    dsimp only
    rw [z_m1, h2, Option.bind_some, if_neg (by decide), nI_pred, z_m2, Option.bind_some]
theorem m_run (hN : N ≤ 12) : ∀ (d e : Nat), e + d = 6 → zMx n p T L N d e := by
  intro d
  induction d with
  | zero =>
    intro e he P F D W m hE hm hP hF hD
    obtain rfl : e = 6 := by omega
    have hL := hE.2.2.2.1
    exact ⟨0, m, m, 0, m_beg0 hE hm.1.1 hm.1.2.1 (by omega) (Or.inr rfl), zRT_0, Nat.le_refl _, hm.1.1, hm.1.2.1, zFq_rf⟩
  | succ d ih =>
    intro e he P F D W m hE hm hP hF hD
    have hL := hE.2.2.2.1
    have hT := hE.2.2.2.2
    have hx := ih (e + 1) (by omega)
    have he6 : e < 6 := by omega
    unfold zpx
    by_cases h8 : zkh (zch T L P) = 8
    · rw [if_pos h8]
      exact ⟨0, m, m, 0, m_beg0 hE hm.1.1 hm.1.2.1 (by omega) (Or.inl h8), zRT_0, Nat.zero_le _, hm.1.1, hm.1.2.1, zFq_rf⟩
    · rw [if_neg h8]
      have hk8 : zkh (zch T L P) < 8 := by have := zkh_le (zch T L P); omega
      by_cases h40 : zch T L (P + 1) = 40
      · obtain ⟨b1, b2⟩ := zch_nat (a := 40) h40 (by omega) hT
        obtain ⟨m1, a1, a2, a3, a4, a5, a6, a7, a8⟩ := m_beg2 (n := n) (p := p) hE hm.1.1 hm.1.2.1 (by omega) h8 he6 h40
        have q1 : zFq m m1 := ⟨fun a h1 h2 => a7 a h1 (by omega) (by omega), fun k hk => a8 k (by omega) (by omega)⟩
        have hE1 := zEm_fq hE q1
        have hm1 : zMs m1 (P + 2) (e + 1) F D N W := ⟨⟨a2, a3, by rw [a8 _ (by omega) (by omega)]; exact hm.1.2.2.1, by rw [a8 _ (by omega) (by omega)]; exact hm.1.2.2.2⟩, zTold_fr hm.2 (a7 _ (by omega) (by omega) (by omega))⟩
        have h293 : m1 293 = m 293 := a7 _ (by omega) (by omega) (by omega)
        have hbd : 1 ≤ zbd (d + 1) := by show 1 ≤ 4 + 3 * zbd d; omega
        rw [if_pos h40]
        by_cases h7 : zkh (zch T L P) = 7
        · rw [if_pos h7]
          rw [h7] at a4
          have hn := m_ends7 (n := n) (p := p) hN hE1 hm1 (show P + 2 ≤ L by omega) (by omega)
          have hla := fun m0 => m_last (n := n) (p := p) (a2 := 7) (w := 0) (m0 := m0) a3 (show m1 291 e = nI 0 from a5) he6 (by omega) (Nat.le_refl _) (fun fu => m_it7 a3 a4 he6)
          cases hz : zrn T L (P + 2) (nI N - 1) false with
          | none =>
            rw [hz] at hn
            obtain ⟨m2, c1, c2, c3⟩ := hn
            have c20 : m2 275 20 = nI (e + 1) := by rw [c3.2 20 (by omega) (by omega)]; exact a3
            exact ⟨1, m1, m2, 1, a1, (hla m2).1 c1 c20, hbd, c2, c20, zFq_tr q1 (zFq_fl c3)⟩
          | some q =>
            rw [hz] at hn
            obtain ⟨z1, z2, z3, -⟩ := zrn_ok hT hz
            by_cases h41 : zch T L q.2 = 41
            · obtain ⟨m2, c1, c2, c3, c4, c5⟩ := Eq.mp (if_pos h41) hn
              have c20 : m2 275 20 = nI (e + 1) := by rw [c5.2 20 (by omega) (by omega) (by omega) (by omega)]; exact a3
              have u2 : ∀ a, a ≠ 275 → ax_u2 m2 275 20 (nI e) a = m2 a := fun a ha => zu2_row ha
              show match (if zch T L q.2 = 41 then (.inr (q.2 + 1, q.1, F, W) : zRs) else .inl (q.2, e + 1)) with
                | .inl f => ∃ b m1 m' t, fn_X10_begins (some 275) (zC n m p) = some (b, zC n m1 p) ∧ zRT n p t b m1 0 m' ∧ t ≤ zbd (d + 1) ∧ m' 275 19 = nI f.1 ∧ m' 275 20 = nI f.2 ∧ zFq m m'
                | .inr r => ∃ m1 m' t, fn_X10_begins (some 275) (zC n m p) = some (1, zC n m1 p) ∧ zRT n p t 1 m1 1 m' ∧ t ≤ zbd (d + 1) ∧ zMs m' r.1 e r.2.2.1 (D + 1) N r.2.2.2 ∧ (r.2.1 < 1000 ∧ m' 293 D = nI r.2.1) ∧ (∀ i, i < D → m' 293 i = m 293 i) ∧ (∀ i, i < e → m' 290 i = m 290 i ∧ m' 291 i = m 291 i) ∧ zFq m m'
              rw [if_pos h41]
              refine ⟨m1, ax_u2 m2 275 20 (nI e), 1, a1, (hla m2).2 c1 c20, hbd, ⟨⟨by rw [ax_u2_nk (by omega)]; exact c2.1.1, ax_u2_self, by rw [ax_u2_nk (by omega)]; exact c2.1.2.2.1, by rw [ax_u2_nk (by omega)]; exact c2.1.2.2.2⟩, zTold_fr c2.2 (u2 _ (by omega))⟩, ⟨z3, by rw [u2 _ (by omega)]; exact c3⟩, fun i hi => by rw [u2 _ (by omega), c4 i hi, h293], fun i hi => ?_, zFq_tr q1 (zFq_tr (zFq_fe c5) ⟨fun a ha _ => u2 a ha, fun k hk => ax_u2_nk (by omega)⟩)⟩
              rw [u2 _ (by omega), u2 _ (by omega), c5.1 290 (by omega) (by omega) (by omega), c5.1 291 (by omega) (by omega) (by omega)]
              exact a6 i (by omega)
            · obtain ⟨m2, c1, c2, c3⟩ := Eq.mp (if_neg h41) hn
              have c20 : m2 275 20 = nI (e + 1) := by rw [c3.2 20 (by omega) (by omega)]; exact a3
              show match (if zch T L q.2 = 41 then (.inr (q.2 + 1, q.1, F, W) : zRs) else .inl (q.2, e + 1)) with
                | .inl f => ∃ b m1 m' t, fn_X10_begins (some 275) (zC n m p) = some (b, zC n m1 p) ∧ zRT n p t b m1 0 m' ∧ t ≤ zbd (d + 1) ∧ m' 275 19 = nI f.1 ∧ m' 275 20 = nI f.2 ∧ zFq m m'
                | .inr r => ∃ m1 m' t, fn_X10_begins (some 275) (zC n m p) = some (1, zC n m1 p) ∧ zRT n p t 1 m1 1 m' ∧ t ≤ zbd (d + 1) ∧ zMs m' r.1 e r.2.2.1 (D + 1) N r.2.2.2 ∧ (r.2.1 < 1000 ∧ m' 293 D = nI r.2.1) ∧ (∀ i, i < D → m' 293 i = m 293 i) ∧ (∀ i, i < e → m' 290 i = m 290 i ∧ m' 291 i = m 291 i) ∧ zFq m m'
              rw [if_neg h41]
              exact ⟨1, m1, m2, 1, a1, (hla m2).1 c1 c20, hbd, c2, c20, zFq_tr q1 (zFq_fl c3)⟩
        · rw [if_neg h7]
          have hk : zkh (zch T L P) < 7 := by omega
          generalize zkh (zch T L P) = k at a4 hk
          have h1 := m_xs (n := n) (p := p) (D0 := D) hN hk he6 hx (zin k) 0 (P + 2) F W (fun _ => 0) m1 (by omega) hE1 hm1 (by omega) (by omega) (by omega) a4 (show m1 291 e = nI 0 from a5) (fun t ht => by omega)
          have hz3 := (zin_lt k hk).1
          have hbd2 : zin k * (1 + zbd d) + 1 ≤ zbd (d + 1) := by
            show zin k * (1 + zbd d) + 1 ≤ 4 + 3 * zbd d
            have : zin k * (1 + zbd d) ≤ 3 * (1 + zbd d) := Nat.mul_le_mul_right _ hz3
            omega
          have hok := zxs_ok (L := L) (N := N) (e := e + 1) (rec := zpx T L N d (e + 1)) hT (fun P F W hP => zpx_ok hT hN d (e + 1) P F W hP) (zin k) 0 (P + 2) F W (fun _ => 0) (by omega)
          cases hs : zxs T L (e + 1) (zpx T L N d (e + 1)) (zin k) 0 (P + 2) F W (fun _ => 0) with
          | inl f =>
            rw [hs] at h1
            obtain ⟨m2, t, g1, g2, g3, g4, g5⟩ := h1
            exact ⟨1, m1, m2, t, a1, g1, by omega, g3, g4, zFq_tr q1 g5⟩
          | inr r =>
            rw [hs] at h1 hok
            obtain ⟨m2, t, g1, g2, g3, g4, g5, g6, g7, g8⟩ := h1
            obtain ⟨o1, o2, o3, o4, -⟩ := hok
            have hE2 := zEm_fq hE1 g8
            have hen := m_ends (n := n) (p := p) (us := r.2.2.2) hN hk hE2 g3 o2 (by omega) (by omega) (by omega) (fun t ht => by
              rw [show D + zin k - zin k + t = D + t by omega]
              exact g4 t ht)
            have hla := fun m0 => m_last (n := n) (p := p) (a2 := nI k) (w := zin k) (m0 := m0) g3.1.2.1 g7.2 he6 (by omega) (Nat.le_refl _) (fun fu => m_it hE2 g3.1.2.1 g7.1 he6 hk)
            show match (match zns T L k (znn k) 0 r.1 (fun _ => 0) with
                | .inl p => (.inl (p, e + 1) : zRs)
                | .inr q => if zch T L q.1 = 41 then .inr (q.1 + 1, 100 + r.2.1, r.2.1 + 1, zput r.2.2.1 r.2.1 (zrw N k r.2.2.2 q.2)) else .inl (q.1, e + 1)) with
              | .inl f => ∃ b m1 m' t, fn_X10_begins (some 275) (zC n m p) = some (b, zC n m1 p) ∧ zRT n p t b m1 0 m' ∧ t ≤ zbd (d + 1) ∧ m' 275 19 = nI f.1 ∧ m' 275 20 = nI f.2 ∧ zFq m m'
              | .inr r => ∃ m1 m' t, fn_X10_begins (some 275) (zC n m p) = some (1, zC n m1 p) ∧ zRT n p t 1 m1 1 m' ∧ t ≤ zbd (d + 1) ∧ zMs m' r.1 e r.2.2.1 (D + 1) N r.2.2.2 ∧ (r.2.1 < 1000 ∧ m' 293 D = nI r.2.1) ∧ (∀ i, i < D → m' 293 i = m 293 i) ∧ (∀ i, i < e → m' 290 i = m 290 i ∧ m' 291 i = m 291 i) ∧ zFq m m'
            cases hq : zns T L k (znn k) 0 r.1 (fun _ => 0) with
            | inl q =>
              rw [hq] at hen
              obtain ⟨m3, c1, c2, c3⟩ := hen
              have c20 : m3 275 20 = nI (e + 1) := by rw [c3.2 20 (by omega) (by omega)]; exact g3.1.2.1
              exact ⟨1, m1, m3, t + 1, a1, zRT_tr g1 ((hla m3).1 c1 c20), by omega, c2, c20, zFq_tr q1 (zFq_tr g8 (zFq_fl c3))⟩
            | inr q =>
              rw [hq] at hen
              by_cases h41 : zch T L q.1 = 41
              · obtain ⟨m3, c1, c2, c3, c4, c5⟩ := Eq.mp (if_pos h41) hen
                have c20 : m3 275 20 = nI (e + 1) := by rw [c5.2 20 (by omega) (by omega) (by omega) (by omega)]; exact g3.1.2.1
                have u2 : ∀ a, a ≠ 275 → ax_u2 m3 275 20 (nI e) a = m3 a := fun a ha => zu2_row ha
                rw [show D + zin k - zin k = D by omega] at c2 c3 c4
                dsimp only
                rw [if_pos h41]
                refine ⟨m1, ax_u2 m3 275 20 (nI e), t + 1, a1, zRT_tr g1 ((hla m3).2 c1 c20), by omega, ⟨⟨by rw [ax_u2_nk (by omega)]; exact c2.1.1, ax_u2_self, by rw [ax_u2_nk (by omega)]; exact c2.1.2.2.1, by rw [ax_u2_nk (by omega)]; exact c2.1.2.2.2⟩, zTold_fr c2.2 (u2 _ (by omega))⟩, ⟨by show 100 + r.2.1 < 1000; omega, by rw [u2 _ (by omega)]; exact c3⟩, fun i hi => by rw [u2 _ (by omega), c4 i hi, g5 i hi, h293], fun i hi => ?_, zFq_tr q1 (zFq_tr g8 (zFq_tr (zFq_fe c5) ⟨fun a ha _ => u2 a ha, fun k hk => ax_u2_nk (by omega)⟩))⟩
                rw [u2 _ (by omega), u2 _ (by omega), c5.1 290 (by omega) (by omega) (by omega), c5.1 291 (by omega) (by omega) (by omega), (g6 i hi).1, (g6 i hi).2]
                exact a6 i (by omega)
              · obtain ⟨m3, c1, c2, c3⟩ := Eq.mp (if_neg h41) hen
                have c20 : m3 275 20 = nI (e + 1) := by rw [c3.2 20 (by omega) (by omega)]; exact g3.1.2.1
                dsimp only
                rw [if_neg h41]
                exact ⟨1, m1, m3, t + 1, a1, zRT_tr g1 ((hla m3).1 c1 c20), by omega, c2, c20, zFq_tr q1 (zFq_tr g8 (zFq_fl c3))⟩
      · rw [if_neg h40]
        have f1 : zFl m (ax_u2 m 275 19 (nI (P + 1))) := zFl_1 (Or.inl rfl)
        exact ⟨0, _, _, 0, m_beg1 hE hm.1.1 hm.1.2.1 (by omega) h8 he6 h40, zRT_0, Nat.zero_le _, ax_u2_self, by rw [ax_u2_nk (by omega)]; exact hm.1.2.1, zFq_fl f1⟩
end MRUN
