/-! ===== painting: blur, key, all kinds ===== -/
theorem zsh_add (b x c : Nat) : nI (b + x) + (nI c - nI x) = nI (b + c) := by
  rw [← nI_add, Int32.add_assoc, Int32.add_comm (nI x), Int32.sub_add_cancel, nI_add]
theorem zsh_1 (c x : Nat) : nI c - nI x + 1 = nI (c + 1) - nI x := by
  rw [nI_succ, Int32.sub_eq_add_neg, Int32.sub_eq_add_neg, Int32.add_assoc, Int32.add_comm (-(nI x)) 1, ← Int32.add_assoc]
theorem zcol_all : ((List.range 8).all fun h => (List.range 9).all fun c => (List.range 8).all fun x => decide (nI h - nI x < nI c - nI x) == decide (h < c)) = true := by decide +kernel
theorem zcol {h c x : Nat} (hh : h < 8) (hc : c < 9) (hx : x < 8) : nI h - nI x < nI c - nI x ↔ h < c := by
  have h1 := List.all_eq_true.mp zcol_all h (List.mem_range.mpr hh)
  have h2 := List.all_eq_true.mp h1 c (List.mem_range.mpr hc)
  have h3 := List.all_eq_true.mp h2 x (List.mem_range.mpr hx)
  simpa using h3
theorem zlr_all : ((List.range 8).all fun x => (List.range 4).all fun r => ((if -nI r < -nI x then -nI x else -nI r) == nI (x - r) - nI x) && ((if 7 - nI x < nI r then 7 - nI x else nI r) == nI (min 7 (x + r)) - nI x)) = true := by decide +kernel
theorem zlr {x r : Nat} (hx : x < 8) (hr : r < 4) : (if -nI r < -nI x then -nI x else -nI r) = nI (x - r) - nI x ∧ (if 7 - nI x < nI r then 7 - nI x else nI r) = nI (min 7 (x + r)) - nI x := by
  have h1 := List.all_eq_true.mp zlr_all x (List.mem_range.mpr hx)
  have h2 := List.all_eq_true.mp h1 r (List.mem_range.mpr hr)
  simpa using h2
theorem z_rem8 {j : Nat} (hj : j < 96) : nI j - nI j / 8 * 8 = nI (j % 8) := pk_rem (a := j) (d := 8) (by omega) (by omega) (by omega)
section PAINT2
variable {n r r0 r1 r2 ro b x j : Nat} {m : Nat → Nat → Int32} {p : Nat → Nat} {V : Nat → Nat → Int32} {f : Int32}
theorem f_pblur45 (h0 : zRow r0) (ho : zRow ro) {w : Nat → Int32} {re : Int32} {k2 : Int32 → Option Nat → Option Nat → Int32 → ax_S → Option ax_S} {base lo hi x : Nat} (hx : x < 8) (hhi : hi < 8) (hlo : lo ≤ hi) (hb : base + x = j) (hj : j < 96) (hbh : base + hi < 96) (hw : ∀ k, k < 96 → m r0 k = w k) : ∀ (d c f : Nat) (acc : Int32), c + d = hi + 1 → d < f → lo ≤ c →
    fb_X4_paintBlur_45 k2 f re (some r0) (some ro) (nI j) (nI hi - nI x) acc (nI (c - lo)) (nI c - nI x) (zC n m p) = k2 re (some r0) (some ro) (nI (j + 1)) (zC n (ax_u2 m ro j (zbl w base d c acc / nI (hi + 1 - lo))) p) := by
  intro d
  induction d with
  | zero =>
    intro c f acc hc hf hlc
    obtain ⟨f, rfl⟩ : ∃ k, f = k + 1 := ⟨f - 1, by omega⟩
    obtain rfl : c = hi + 1 := by omega
    unfold fb_X4_paintBlur_45
    rw [if_pos ((zcol hhi (by omega) hx).mpr (by omega)), if_neg (nI_ne0 (by omega) (by omega)), if_neg (nI_ne0 (by omega) (by omega)), Option.bind_some, z_rs ho hj, Option.bind_some, nI_1]
    rfl
  | succ d ih =>
    intro c f acc hc hf hlc
    obtain ⟨f, rfl⟩ : ∃ k, f = k + 1 := ⟨f - 1, by omega⟩
    have ih1 := ih (c + 1) f (acc + w (base + c)) (by omega) (by omega) (by omega)
    unfold fb_X4_paintBlur_45
    rw [if_neg (fun q => by have := (zcol hhi (by omega) hx).mp q; omega), ← hb, zsh_add, z_ra h0 (by omega), hw _ (by omega), Option.bind_some, hb, nI_1, zsh_1]
    simp only [ax_bd]
    rw [show c - lo + 1 = c + 1 - lo by omega]
    exact ih1
theorem f_pblur (h0 : zRow r0) (ho : zRow ro) (hne : r0 ≠ ro) {w : Nat → Int32} {re : Nat} (hre : re < 4) : ∀ (d j f : Nat) (m : Nat → Nat → Int32), j + d = 96 → d < f → (∀ k, k < 96 → m r0 k = w k) → ∃ m', fb_X4_paintBlur_2 f (nI re) (some r0) (some ro) (nI j) (zC n m p) = some (zC n m' p) ∧ zDn m m' ro j (fun k => zblur w k re) := by
  intro d
  induction d with
  | zero =>
    intro j f m hj hf hw
    obtain ⟨f, rfl⟩ : ∃ k, f = k + 1 := ⟨f - 1, by omega⟩
    obtain rfl : j = 96 := by omega
    refine ⟨m, ?_, zDn_0⟩
    unfold fb_X4_paintBlur_2
    rw [if_pos (by decide)]
  | succ d ih =>
    intro j f m hj hf hw
    obtain ⟨f, rfl⟩ : ∃ k, f = k + 1 := ⟨f - 1, by omega⟩
    obtain ⟨m', a1, a2⟩ := ih (j + 1) f (ax_u2 m ro j (zblur w j re)) (by omega) (by omega) (fun k hk => by rw [ax_u2_ne hne]; exact hw k hk)
    refine ⟨m', ?_, zDn_s rfl a2⟩
    obtain ⟨l1, l2⟩ := zlr (x := j % 8) (r := re) (by omega) hre
    have h45 := f_pblur45 (n := n) (p := p) (m := m) (re := nI re) (k2 := fb_X4_paintBlur_2 f) (base := j - j % 8) (lo := j % 8 - re) (hi := min 7 (j % 8 + re)) (x := j % 8) (j := j) h0 ho (by omega) (by omega) (by omega) (by omega) (by omega) (by omega) hw (zbn (j % 8) re) (j % 8 - re) 10000 0 (by unfold zbn; omega) (by unfold zbn; omega) (Nat.le_refl _)
    rw [Nat.sub_self, nI_0] at h45
    unfold fb_X4_paintBlur_2
    rw [if_neg (show ¬ (96 : Int32) ≤ nI j from nI_ge (b := 96) (by omega) (by omega))]
    unfold ax_bd
    dsimp only
    rw [z_rem8 (by omega), l1, l2, h45]
    exact a1
theorem z_10000 : (10000 : Nat) = 9996 + 4 := rfl
theorem f_pkey40 (ho : zRow ro) {k10 : Option Nat → Option Nat → Option Nat → Int32 → Int32 → ax_S → Option ax_S} {a0 a1 : Option Nat} {a3 v : Int32} {i f : Nat} (hi : i < 32) : fb_X4_paintKey_40 k10 (f + 4) a0 a1 (some ro) a3 (nI i) v 0 (zC n m p) = k10 a0 a1 (some ro) a3 (nI (i + 1)) (zC n (ax_u2 (ax_u2 (ax_u2 m ro i v) ro (32 + i) v) ro (64 + i) v) p) := by
  have e0 : (0 : Int32) * 32 + nI i = nI i := by rw [show (0 : Int32) * 32 = nI 0 from by decide, nI_add, Nat.zero_add]
  have e1 : (1 : Int32) * 32 + nI i = nI (32 + i) := by rw [show (1 : Int32) * 32 = nI 32 from by decide, nI_add]
  have e2 : (2 : Int32) * 32 + nI i = nI (64 + i) := by rw [show (2 : Int32) * 32 = nI 64 from by decide, nI_add]
  unfold fb_X4_paintKey_40
  rw [if_neg (by decide), e0, z_rs ho (by omega), Option.bind_some, show (0 : Int32) + 1 = 1 from by decide]
  unfold fb_X4_paintKey_40
  rw [if_neg (by decide), e1, z_rs ho (by omega), Option.bind_some, show (1 : Int32) + 1 = 2 from by decide]
  unfold fb_X4_paintKey_40
  rw [if_neg (by decide), e2, z_rs ho (by omega), Option.bind_some, show (2 : Int32) + 1 = 3 from by decide]
  unfold fb_X4_paintKey_40
  rw [if_pos (by decide), nI_1]
theorem f_mask {a b c d : Int32} {s : ax_S} (hd : d + 1 ≠ 0) : fn_X4_mask a b c d s = some (zmask a b c d, s) := by
  unfold fn_X4_mask zmask
  unfold ax_bd
  dsimp only
  generalize (if 0 < (if b - a < a - c then a - c else b - a) then (if b - a < a - c then a - c else b - a) else 0) = v
  rw [if_neg hd, Option.bind_some]
  by_cases h1 : b ≤ c
  · rw [if_pos h1, if_pos h1]
    by_cases h2 : v ≤ d
    · rw [if_pos h2, if_pos h2]
    · rw [if_neg h2, if_neg h2]
  · rw [if_neg h1, if_neg h1]
theorem f_pkey (hb : zNB b) (hb51 : b + 2 < 51) (h0 : zRow r0) (ho : zRow ro) (hne : r0 ≠ ro) {w P : Nat → Int32} {s : Nat} (hs : s < 3) (hsoft : P 3 + 1 ≠ 0) : ∀ (d j f : Nat) (m : Nat → Nat → Int32), j + d = 32 → d < f → (∀ k, k < 96 → m r0 k = w k) → (∀ q, q < 4 → m (b + 2) q = P q) → ∃ m', fb_X4_paintKey_10 f (some (b + 2)) (some r0) (some ro) (nI (32 * s)) (nI j) (zC n m p) = some (zC n m' p) ∧ (∀ a, a ≠ ro → m' a = m a) ∧ ∀ q, q < 96 → (j ≤ q % 32 → m' ro q = zmask (w (32 * s + q % 32)) (P 1) (P 2) (P 3)) ∧ (q % 32 < j → m' ro q = m ro q) := by
  obtain ⟨b9, b1, t0, t1, t2, q3, q4⟩ := zNB_ok (n := n) (p := p) hb
  obtain ⟨o1, o2, o3, o4⟩ := zRow_ok (n := n) ho
  intro d
  induction d with
  | zero =>
    intro j f m hj hf hw hP
    obtain ⟨f, rfl⟩ : ∃ k, f = k + 1 := ⟨f - 1, by omega⟩
    obtain rfl : j = 32 := by omega
    refine ⟨m, ?_, fun _ _ => rfl, fun q hq => ⟨fun h => by omega, fun _ => rfl⟩⟩
    unfold fb_X4_paintKey_10
    rw [if_pos (by decide)]
  | succ d ih =>
    intro j f m hj hf hw hP
    obtain ⟨f, rfl⟩ : ∃ k, f = k + 1 := ⟨f - 1, by omega⟩
    generalize hv : zmask (w (32 * s + j)) (P 1) (P 2) (P 3) = v
    generalize hm1 : ax_u2 (ax_u2 (ax_u2 m ro j v) ro (32 + j) v) ro (64 + j) v = m1
    have e1 : ∀ a, a ≠ ro → m1 a = m a := fun a ha => by rw [← hm1, zu2_row ha, zu2_row ha, zu2_row ha]
    obtain ⟨m', a1, a2, a3⟩ := ih (j + 1) f m1 (by omega) (by omega) (fun k hk => by rw [e1 _ hne]; exact hw k hk) (fun q hq => by rw [e1 _ (by omega)]; exact hP q hq)
    refine ⟨m', ?_, fun a ha => by rw [a2 a ha, e1 a ha], fun q hq => ⟨fun hjq => ?_, fun hjq => ?_⟩⟩
    · unfold fb_X4_paintKey_10
      have hp : ∀ i, i < 4 → ax_al (zC n m p) 9 (some (b + 2)) (nI i) = some (P i) := fun i hi => by
        rw [z_al (by omega) (by rw [t2]) (by rw [t2]; exact hi) (by omega), hP i hi]
      rw [if_neg (show ¬ (32 : Int32) ≤ nI j from nI_ge (b := 32) (by omega) (by omega)), nI_add, z_ra h0 (by omega), hw _ (by omega), Option.bind_some, show (1 : Int32) = nI 1 from rfl, hp 1 (by omega), Option.bind_some, show (2 : Int32) = nI 2 from rfl, hp 2 (by omega), Option.bind_some, show (3 : Int32) = nI 3 from rfl, hp 3 (by omega), Option.bind_some, f_mask hsoft, Option.bind_some, hv]
      dsimp only
      rw [z_10000, f_pkey40 ho (by omega), hm1]
      exact a1
    · by_cases hqj : q % 32 = j
      · rw [(a3 q hq).2 (by omega), hqj, hv, ← hm1]
        have : q = j ∨ q = 32 + j ∨ q = 64 + j := by omega
        rcases this with e | e | e
        · rw [e, ax_u2_nk (by omega), ax_u2_nk (by omega), ax_u2_self]
        · rw [e, ax_u2_nk (by omega), ax_u2_self]
        · rw [e, ax_u2_self]
      · exact (a3 q hq).1 (by omega)
    · rw [(a3 q hq).2 (by omega), ← hm1, ax_u2_nk (by omega), ax_u2_nk (by omega), ax_u2_nk (by omega)]
def zPar (V : Nat → Nat → Int32) (x : Nat) : Prop := ∃ k, k < 7 ∧ V x 0 = nI k ∧ ∀ q, q < zpn k → zlo k q ≤ V x (6 + q) ∧ V x (6 + q) ≤ zhi k q
theorem zOK_par {N : Nat} (h : zOK N V) {i : Nat} (hi : i < N) : zPar V i := by
  obtain ⟨k, h1, h2, -, h4⟩ := (h.2.1 i hi).1
  exact ⟨k, h1, h2, h4⟩
theorem z_p3s {s : Int32} (h1 : 0 ≤ s) (h2 : s ≤ 99) : s + 1 ≠ 0 := by
  obtain ⟨j, hj, rfl⟩ := z_in (N := 99) (by omega) h1 h2
  rw [nI_1]
  exact nI_ne0 (by omega) (by omega)
theorem f_paint (hb : zNB b) (hb51 : b + 2 < 51) (h0 : zRow r0) (h1 : zRow r1) (h2 : zRow r2) (ho : zRow ro) (hn0 : r0 ≠ ro) (hn1 : r1 ≠ ro) (hn2 : r2 ≠ ro) {w : Nat → Nat → Int32} (hV : zPar V x) (hk : m b 0 = V x 0) (hP : ∀ q, q < 4 → m (b + 2) q = V x (6 + q)) (hw : ∀ k, k < 96 → m r0 k = w 0 k ∧ m r1 k = w 1 k ∧ m r2 k = w 2 k) :
    ∃ m', fn_X4_paint (some b) f (some r0) (some r1) (some r2) (some ro) (zC n m p) = some (zC n m' p) ∧ (∀ a, a ≠ ro → m' a = m a) ∧ ∀ k, k < 96 → m' ro k = zpt V x f w k := by
  obtain ⟨b9, b1, t0, t1, t2, q3, q4⟩ := zNB_ok (n := n) (p := p) hb
  obtain ⟨k, hk7, hk2, hq⟩ := hV
  have hg : ax_gi (zC n m p) 2 0 (some b) = some (V x 0) := by rw [z_gi (by omega) (by rw [t0]), hk]
  have hr4 : ax_gr (zC n m p) 2 4 (some b) = some (some (b + 2)) := by rw [z_gr (by omega) (by rw [t0]), q4]
  have hp0 : ax_al (zC n m p) 9 (some (b + 2)) 0 = some (V x 6) := by
    rw [show (0 : Int32) = nI 0 from rfl, z_al (by omega) (by rw [t2]) (by rw [t2]; show 0 < 4; omega) (by omega), hP 0 (by omega)]
  unfold fn_X4_paint
  rw [hg, Option.bind_some]
  have hc : k = 0 ∨ k = 1 ∨ k = 2 ∨ k = 3 ∨ k = 4 ∨ k = 5 ∨ k = 6 := by omega
  rcases hc with rfl | rfl | rfl | rfl | rfl | rfl | rfl
  · obtain ⟨m', a1, a2⟩ := f_psrc (n := n) (p := p) (s := V x 6) (f := f) ho 96 0 10000 m (by omega) (by omega)
    refine ⟨m', ?_, a2.1, fun k hk => ?_⟩
    · rw [hk2, if_pos (by decide), hr4, Option.bind_some, hp0, Option.bind_some]
      unfold fn_X4_paintSource
      rw [nI_0] at a1
      rw [a1, Option.bind_some]
    · rw [a2.2.1 k (by omega) hk]
      unfold zpt
      rw [hk2, if_pos (by decide)]
  · obtain ⟨m', a1, a2⟩ := f_pamt (n := n) (p := p) (P := fun q => V x (6 + q)) (w := w 0) (kd := V x 0) hb hb51 h0 ho hn0 96 0 10000 m (by omega) (by omega) (fun k hk => (hw k hk).1) hk hP
    refine ⟨m', ?_, a2.1, fun k hk => ?_⟩
    · rw [hk2, if_neg (by decide), if_pos (by decide)]
      unfold fn_X4_paintAmounts
      rw [nI_0] at a1
      rw [a1, Option.bind_some]
    · rw [a2.2.1 k (by omega) hk]
      dsimp only
      unfold zpt
      rw [hk2, if_pos (by decide), if_neg (by decide), if_pos (by decide)]
  · obtain ⟨m', a1, a2⟩ := f_pamt (n := n) (p := p) (P := fun q => V x (6 + q)) (w := w 0) (kd := V x 0) hb hb51 h0 ho hn0 96 0 10000 m (by omega) (by omega) (fun k hk => (hw k hk).1) hk hP
    refine ⟨m', ?_, a2.1, fun k hk => ?_⟩
    · rw [hk2, if_neg (by decide), if_neg (by decide), if_pos (by decide)]
      unfold fn_X4_paintAmounts
      rw [nI_0] at a1
      rw [a1, Option.bind_some]
    · rw [a2.2.1 k (by omega) hk]
      dsimp only
      unfold zpt
      rw [hk2, if_neg (by decide), if_neg (by decide), if_neg (by decide), if_pos (by decide)]
  · obtain ⟨m', a1, a2⟩ := f_pinv (n := n) (p := p) (w := w 0) h0 ho hn0 96 0 10000 m (by omega) (by omega) (fun k hk => (hw k hk).1)
    refine ⟨m', ?_, a2.1, fun k hk => ?_⟩
    · rw [hk2, if_neg (by decide), if_neg (by decide), if_neg (by decide), if_pos (by decide)]
      unfold fn_X4_paintInverse
      rw [nI_0] at a1
      rw [a1, Option.bind_some]
    · rw [a2.2.1 k (by omega) hk]
      dsimp only
      unfold zpt
      rw [hk2, if_neg (by decide), if_neg (by decide), if_neg (by decide), if_pos (by decide)]
  · obtain ⟨q1, q2⟩ := hq 0 (by decide)
    obtain ⟨re, hre, e6⟩ := z_in (N := 3) (by omega) q1 q2
    obtain ⟨m', a1, a2⟩ := f_pblur (n := n) (p := p) (w := w 0) (re := re) h0 ho hn0 (by omega) 96 0 10000 m (by omega) (by omega) (fun k hk => (hw k hk).1)
    have e6' : V x 6 = nI re := e6
    refine ⟨m', ?_, a2.1, fun k hk => ?_⟩
    · rw [hk2, if_neg (by decide), if_neg (by decide), if_neg (by decide), if_neg (by decide), if_pos (by decide), hr4, Option.bind_some, hp0, e6', Option.bind_some]
      unfold fn_X4_paintBlur
      rw [nI_0] at a1
      rw [a1, Option.bind_some]
    · rw [a2.2.1 k (by omega) hk]
      dsimp only
      unfold zpt
      rw [hk2, if_neg (by decide), if_neg (by decide), if_neg (by decide), if_neg (by decide), if_pos (by decide), e6', nI_clamp (by omega)]
  · obtain ⟨q1, q2⟩ := hq 0 (by decide)
    obtain ⟨se, hse, e6⟩ := z_in (N := 2) (by omega) q1 q2
    obtain ⟨q5, q6⟩ := hq 3 (by decide)
    have e6' : V x 6 = nI se := e6
    obtain ⟨m', a1, a2, a3⟩ := f_pkey (n := n) (p := p) (w := w 0) (P := fun q => V x (6 + q)) (s := se) hb hb51 h0 ho hn0 (by omega) (z_p3s q5 q6) 32 0 10000 m (by omega) (by omega) (fun k hk => (hw k hk).1) hP
    refine ⟨m', ?_, a2, fun k hk => ?_⟩
    · rw [hk2, if_neg (by decide), if_neg (by decide), if_neg (by decide), if_neg (by decide), if_neg (by decide), if_pos (by decide), hr4, Option.bind_some]
      unfold fn_X4_paintKey
      rw [hp0, e6', Option.bind_some]
      unfold ax_bd
      dsimp only
      rw [show nI se * 32 = nI (32 * se) by rw [show (32 : Int32) = nI 32 from rfl, pk_mul, Nat.mul_comm]]
      rw [nI_0] at a1
      rw [a1, Option.bind_some]
    · rw [(a3 k hk).1 (by omega)]
      unfold zpt
      rw [hk2, if_neg (by decide), if_neg (by decide), if_neg (by decide), if_neg (by decide), if_neg (by decide), if_pos (by decide), e6', nI_clamp (by omega)]
  · obtain ⟨m', a1, a2⟩ := f_pblend (n := n) (p := p) (w := w) h0 h1 h2 ho hn0 hn1 hn2 96 0 10000 m (by omega) (by omega) hw
    refine ⟨m', ?_, a2.1, fun k hk => ?_⟩
    · rw [hk2, if_neg (by decide), if_neg (by decide), if_neg (by decide), if_neg (by decide), if_neg (by decide), if_neg (by decide)]
      unfold fn_X4_paintBlend
      rw [nI_0] at a1
      rw [a1, Option.bind_some]
    · rw [a2.2.1 k (by omega) hk]
      dsimp only
      unfold zpt
      rw [hk2, if_neg (by decide), if_neg (by decide), if_neg (by decide), if_neg (by decide), if_neg (by decide), if_neg (by decide)]
end PAINT2
