/-! ===== painting: what a picture's values are ===== -/
def zlim (x : Int32) : Int32 := if 0 < (if x < 255 then x else 255) then (if x < 255 then x else 255) else 0
def zsrc (s f : Int32) (k : Nat) : Int32 :=
  ((((((7 * s) + (31 * (nI k - nI k / 8 * 8))) + (17 * ((nI k / 8) - (nI k / 8) / 4 * 4))) + (11 * f)) + (53 * (nI k / 32))) + (((nI k - nI k / 8 * 8) * ((nI k / 8) - (nI k / 8) / 4 * 4)) * f))
  - ((((((7 * s) + (31 * (nI k - nI k / 8 * 8))) + (17 * ((nI k / 8) - (nI k / 8) / 4 * 4))) + (11 * f)) + (53 * (nI k / 32))) + (((nI k - nI k / 8 * 8) * ((nI k / 8) - (nI k / 8) / 4 * 4)) * f)) / 256 * 256
/-- the sum of d values from column c on -/
def zbl (w : Nat → Int32) (b : Nat) : Nat → Nat → Int32 → Int32
  | 0, _, a => a
  | d + 1, c, a => zbl w b d (c + 1) (a + w (b + c))
/-- how many columns, from which one -/
def zbn (x r : Nat) : Nat := min 7 (x + r) + 1 - (x - r)
def zblur (w : Nat → Int32) (k r : Nat) : Int32 := zbl w (k - k % 8) (zbn (k % 8) r) (k % 8 - r) 0 / nI (zbn (k % 8) r)
def zmask (x lo hi soft : Int32) : Int32 := if lo ≤ hi then (if (if 0 < (if lo - x < x - hi then x - hi else lo - x) then (if lo - x < x - hi then x - hi else lo - x) else 0) ≤ soft then 255 - 255 * (if 0 < (if lo - x < x - hi then x - hi else lo - x) then (if lo - x < x - hi then x - hi else lo - x) else 0) / (soft + 1) else 0) else 0
def zpt (V : Nat → Nat → Int32) (x : Nat) (f : Int32) (w : Nat → Nat → Int32) (k : Nat) : Int32 :=
  if V x 0 = 0 then zsrc (V x 6) f k
  else if V x 0 = 1 then zlim (w 0 k * V x (6 + k / 32) / 16)
  else if V x 0 = 2 then zlim (w 0 k + V x (6 + k / 32))
  else if V x 0 = 3 then 255 - w 0 k
  else if V x 0 = 4 then zblur (w 0) k (V x 6).toNatClampNeg
  else if V x 0 = 5 then zmask (w 0 (32 * (V x 6).toNatClampNeg + k % 32)) (V x 7) (V x 8) (V x 9)
  else (w 0 k * (255 - w 2 k) + w 1 k * w 2 k) / 255
/-- a row of 96 values -/
def zRow (r : Nat) : Prop := r = 192 ∨ ∃ q, q < 48 ∧ r = 54 + 2 * q
theorem zRow_ok {n r : Nat} (h : zRow r) : 9 ≤ r ∧ r < 278 ∧ zs_sh n r = (9, 96) ∧ 51 ≤ r := by
  rcases h with rfl | ⟨q, hq, rfl⟩
  · exact ⟨by omega, by omega, rfl, by omega⟩
  · exact ⟨by omega, by omega, (zPic (n := n) (p := id) hq).2.2.1, by omega⟩
section PAINT
variable {n r r0 r1 r2 ro b x j : Nat} {m : Nat → Nat → Int32} {p : Nat → Nat} {V : Nat → Nat → Int32} {w : Nat → Nat → Int32} {f : Int32}
theorem z_ra (h : zRow r) (hj : j < 96) : ax_al (zC n m p) 9 (some r) (nI j) = some (m r j) := by
  obtain ⟨h1, h2, h3, -⟩ := zRow_ok (n := n) h
  exact z_al h2 (by rw [h3]) (by rw [h3]; exact hj) (by omega)
theorem z_rs {v : Int32} (h : zRow r) (hj : j < 96) : ax_as (zC n m p) 9 (some r) (nI j) v = some (zC n (ax_u2 m r j v) p) := by
  obtain ⟨h1, h2, h3, -⟩ := zRow_ok (n := n) h
  exact z_as h2 h1 (by rw [h3]) (by rw [h3]; exact hj) (by omega)
/-- what a loop has done: from j on -/
def zDn (m m' : Nat → Nat → Int32) (r j : Nat) (F : Nat → Int32) : Prop := (∀ a, a ≠ r → m' a = m a) ∧ (∀ q, j ≤ q → q < 96 → m' r q = F q) ∧ ∀ q, q < j → m' r q = m r q
theorem zDn_0 {F : Nat → Int32} : zDn m m r 96 F := ⟨fun _ _ => rfl, fun q h1 h2 => by omega, fun _ _ => rfl⟩
theorem zDn_s {m' : Nat → Nat → Int32} {F : Nat → Int32} {v : Int32} (hv : v = F j) (h : zDn (ax_u2 m r j v) m' r (j + 1) F) : zDn m m' r j F := by
  refine ⟨fun a ha => by rw [h.1 a ha, zu2_row ha], fun q h1 h2 => ?_, fun q h1 => by rw [h.2.2 q (by omega), ax_u2_nk (by omega)]⟩
  by_cases e : q = j
  · subst e
    rw [h.2.2 q (by omega), ax_u2_self, hv]
  · exact h.2.1 q (by omega) h2
theorem f_pinv (h0 : zRow r0) (ho : zRow ro) (hne : r0 ≠ ro) {w : Nat → Int32} : ∀ (d j f : Nat) (m : Nat → Nat → Int32), j + d = 96 → d < f → (∀ k, k < 96 → m r0 k = w k) → ∃ m', fb_X4_paintInverse_2 f (some r0) (some ro) (nI j) (zC n m p) = some (zC n m' p) ∧ zDn m m' ro j (fun k => 255 - w k) := by
  intro d
  induction d with
  | zero =>
    intro j f m hj hf hw
    obtain ⟨f, rfl⟩ : ∃ k, f = k + 1 := ⟨f - 1, by omega⟩
    obtain rfl : j = 96 := by omega
    refine ⟨m, ?_, zDn_0⟩
    unfold fb_X4_paintInverse_2
    rw [if_pos (by decide)]
  | succ d ih =>
    intro j f m hj hf hw
    obtain ⟨f, rfl⟩ : ∃ k, f = k + 1 := ⟨f - 1, by omega⟩
    obtain ⟨m', a1, a2⟩ := ih (j + 1) f (ax_u2 m ro j (255 - w j)) (by omega) (by omega) (fun k hk => by rw [ax_u2_ne hne]; exact hw k hk)
    refine ⟨m', ?_, zDn_s rfl a2⟩
    unfold fb_X4_paintInverse_2
    rw [if_neg (show ¬ (96 : Int32) ≤ nI j from nI_ge (b := 96) (by omega) (by omega)), z_ra h0 (by omega), hw j (by omega), Option.bind_some, z_rs ho (by omega), Option.bind_some]
    rw [show nI j + 1 = nI (j + 1) from nI_1 j]
    exact a1
theorem f_psrc (ho : zRow ro) {s f : Int32} : ∀ (d j fu : Nat) (m : Nat → Nat → Int32), j + d = 96 → d < fu → ∃ m', fb_X4_paintSource_2 fu s f (some ro) (nI j) (zC n m p) = some (zC n m' p) ∧ zDn m m' ro j (zsrc s f) := by
  intro d
  induction d with
  | zero =>
    intro j f m hj hf
    obtain ⟨f, rfl⟩ : ∃ k, f = k + 1 := ⟨f - 1, by omega⟩
    obtain rfl : j = 96 := by omega
    refine ⟨m, ?_, zDn_0⟩
    unfold fb_X4_paintSource_2
    rw [if_pos (by decide)]
  | succ d ih =>
    intro j fu m hj hf
    obtain ⟨fu, rfl⟩ : ∃ k, fu = k + 1 := ⟨fu - 1, by omega⟩
    obtain ⟨m', a1, a2⟩ := ih (j + 1) fu (ax_u2 m ro j (zsrc s f j)) (by omega) (by omega)
    refine ⟨m', ?_, zDn_s rfl a2⟩
    unfold fb_X4_paintSource_2
    rw [if_neg (show ¬ (96 : Int32) ≤ nI j from nI_ge (b := 96) (by omega) (by omega))]
    simp only [ax_bd]
    rw [z_rs ho (by omega), Option.bind_some]
    rw [show nI j + 1 = nI (j + 1) from nI_1 j]
    exact a1
theorem z_div32 {j : Nat} (hj : j < 96) : nI j / 32 = nI (j / 32) := pk_div (a := j) (d := 32) (by omega) (by omega) (by omega)
theorem f_pamt (hb : zNB b) (hb51 : b + 2 < 51) (h0 : zRow r0) (ho : zRow ro) (hne : r0 ≠ ro) {w P : Nat → Int32} {kd : Int32} : ∀ (d j f : Nat) (m : Nat → Nat → Int32), j + d = 96 → d < f → (∀ k, k < 96 → m r0 k = w k) → m b 0 = kd → (∀ q, q < 4 → m (b + 2) q = P q) → ∃ m', fb_X4_paintAmounts_2 f (some b) (some r0) (some ro) (nI j) (zC n m p) = some (zC n m' p) ∧ zDn m m' ro j (fun k => if kd = 1 then zlim (w k * P (k / 32) / 16) else zlim (w k + P (k / 32))) := by
  obtain ⟨b9, b1, t0, t1, t2, q3, q4⟩ := zNB_ok (n := n) (p := p) hb
  obtain ⟨o1, o2, o3, o4⟩ := zRow_ok (n := n) ho
  intro d
  induction d with
  | zero =>
    intro j f m hj hf hw hk hP
    obtain ⟨f, rfl⟩ : ∃ k, f = k + 1 := ⟨f - 1, by omega⟩
    obtain rfl : j = 96 := by omega
    refine ⟨m, ?_, zDn_0⟩
    unfold fb_X4_paintAmounts_2
    rw [if_pos (by decide)]
  | succ d ih =>
    intro j f m hj hf hw hk hP
    obtain ⟨f, rfl⟩ : ∃ k, f = k + 1 := ⟨f - 1, by omega⟩
    have ih1 : ∀ v, ∃ m', fb_X4_paintAmounts_2 f (some b) (some r0) (some ro) (nI (j + 1)) (zC n (ax_u2 m ro j v) p) = some (zC n m' p) ∧ zDn (ax_u2 m ro j v) m' ro (j + 1) (fun k => if kd = 1 then zlim (w k * P (k / 32) / 16) else zlim (w k + P (k / 32))) := fun v =>
      ih (j + 1) f (ax_u2 m ro j v) (by omega) (by omega) (fun k hk => by rw [ax_u2_ne hne]; exact hw k hk) (by rw [ax_u2_ne (by omega)]; exact hk) (fun q hq => by rw [ax_u2_ne (by omega)]; exact hP q hq)
    have hun : fb_X4_paintAmounts_2 (f + 1) (some b) (some r0) (some ro) (nI j) (zC n m p) = if kd = 1 then fb_X4_paintAmounts_45 (fb_X4_paintAmounts_2 f) (some b) (some r0) (some ro) (nI j) (w j * P (j / 32) / 16) (zC n m p) else fb_X4_paintAmounts_45 (fb_X4_paintAmounts_2 f) (some b) (some r0) (some ro) (nI j) (w j + P (j / 32)) (zC n m p) := by
      conv => lhs; unfold fb_X4_paintAmounts_2
      rw [if_neg (show ¬ (96 : Int32) ≤ nI j from nI_ge (b := 96) (by omega) (by omega)), z_gr (by omega) (by rw [t0]), q4, Option.bind_some, z_div32 (by omega), z_al (by omega) (by rw [t2]) (by rw [t2]; show j / 32 < 4; omega) (by omega), hP _ (by omega), Option.bind_some, z_gi (by omega) (by rw [t0]), hk, Option.bind_some, z_ra h0 (by omega), hw j (by omega), Option.bind_some, Option.bind_some]
    have h45 : ∀ v, fb_X4_paintAmounts_45 (fb_X4_paintAmounts_2 f) (some b) (some r0) (some ro) (nI j) v (zC n m p) = fb_X4_paintAmounts_2 f (some b) (some r0) (some ro) (nI (j + 1)) (zC n (ax_u2 m ro j (zlim v)) p) := fun v => by
      unfold fb_X4_paintAmounts_45
      rw [z_rs ho (by omega), Option.bind_some, show nI j + 1 = nI (j + 1) from nI_1 j]
      rfl
    rw [hun]
    by_cases h1 : kd = 1
    · obtain ⟨m', a1, a2⟩ := ih1 (zlim (w j * P (j / 32) / 16))
      refine ⟨m', ?_, zDn_s (by rw [if_pos h1]) a2⟩
      rw [if_pos h1, h45]
      exact a1
    · obtain ⟨m', a1, a2⟩ := ih1 (zlim (w j + P (j / 32)))
      refine ⟨m', ?_, zDn_s (by rw [if_neg h1]) a2⟩
      rw [if_neg h1, h45]
      exact a1
theorem f_pblend (h0 : zRow r0) (h1 : zRow r1) (h2 : zRow r2) (ho : zRow ro) (hn0 : r0 ≠ ro) (hn1 : r1 ≠ ro) (hn2 : r2 ≠ ro) {w : Nat → Nat → Int32} : ∀ (d j f : Nat) (m : Nat → Nat → Int32), j + d = 96 → d < f → (∀ k, k < 96 → m r0 k = w 0 k ∧ m r1 k = w 1 k ∧ m r2 k = w 2 k) → ∃ m', fb_X4_paintBlend_3 f (some r0) (some r1) (some r2) (some ro) (nI j) (zC n m p) = some (zC n m' p) ∧ zDn m m' ro j (fun k => (w 0 k * (255 - w 2 k) + w 1 k * w 2 k) / 255) := by
  intro d
  induction d with
  | zero =>
    intro j f m hj hf hw
    obtain ⟨f, rfl⟩ : ∃ k, f = k + 1 := ⟨f - 1, by omega⟩
    obtain rfl : j = 96 := by omega
    refine ⟨m, ?_, zDn_0⟩
    unfold fb_X4_paintBlend_3
    rw [if_pos (by decide)]
  | succ d ih =>
    intro j f m hj hf hw
    obtain ⟨f, rfl⟩ : ∃ k, f = k + 1 := ⟨f - 1, by omega⟩
    obtain ⟨m', a1, a2⟩ := ih (j + 1) f (ax_u2 m ro j ((w 0 j * (255 - w 2 j) + w 1 j * w 2 j) / 255)) (by omega) (by omega) (fun k hk => by rw [ax_u2_ne hn0, ax_u2_ne hn1, ax_u2_ne hn2]; exact hw k hk)
    refine ⟨m', ?_, zDn_s rfl a2⟩
    obtain ⟨w0, w1, w2⟩ := hw j (by omega)
    unfold fb_X4_paintBlend_3
    rw [if_neg (show ¬ (96 : Int32) ≤ nI j from nI_ge (b := 96) (by omega) (by omega)), z_ra h2 (by omega), w2, Option.bind_some, z_ra h0 (by omega), w0, Option.bind_some, z_ra h1 (by omega), w1, Option.bind_some, z_rs ho (by omega), Option.bind_some]
    rw [show nI j + 1 = nI (j + 1) from nI_1 j]
    exact a1
end PAINT
