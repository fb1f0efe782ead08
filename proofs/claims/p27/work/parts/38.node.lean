/-! ===== a node's own methods ===== -/
section NODE
variable {n b c k N : Nat} {p : Nat → Nat} {V : Nat → Nat → Int32}
/-- which rows a node's method changes -/
def zFn (b : Nat) (m m' : Nat → Nat → Int32) : Prop := ∀ a, a ≠ b → a ≠ b + 1 → a ≠ b + 2 → m' a = m a
theorem f_reset_40 (hT : ∀ j, j < 28 → True) (hb : zNB b) (hk : k < 7) : ∀ (d i f : Nat) (m : Nat → Nat → Int32), zT m → i + d = 4 → d < f → ∃ m', fb_X3_reset_40 f (some b) (nI k) (nI i) (zC n m p) = some (zC n m' p) ∧ (∀ a, a ≠ b + 2 → m' a = m a) ∧ ∀ q, q < 4 → m' (b + 2) q = if q < i then m (b + 2) q else zaf k q := by
  obtain ⟨h9, hlt, s0, s1, s2, r3, r4⟩ := zNB_ok (n := n) (p := p) hb
  intro d
  induction d with
  | zero =>
    intro i f m hT hi hf
    obtain ⟨f, rfl⟩ : ∃ k, f = k + 1 := ⟨f - 1, by omega⟩
    obtain rfl : i = 4 := by omega
    refine ⟨m, ?_, fun _ _ => rfl, fun q hq => by rw [if_pos hq]⟩
    unfold fb_X3_reset_40
    rw [if_pos (by decide)]
  | succ d ih =>
    intro i f m hT hi hf
    obtain ⟨f, rfl⟩ : ∃ k, f = k + 1 := ⟨f - 1, by omega⟩
    have hT' : zT (ax_u2 m (b + 2) i (zaf k i)) := fun a j ha => by rw [zu2_row (by omega)]; exact hT a j ha
    obtain ⟨m', q1, q2, q3⟩ := ih (i + 1) f _ hT' (by omega) (by omega)
    refine ⟨m', ?_, fun a ha => by rw [q2 a ha, zu2_row ha], fun q hq => ?_⟩
    · unfold fb_X3_reset_40
      have e4 : ¬ (4 : Int32) ≤ nI i := nI_ge (b := 4) (by omega) (by omega)
      rw [if_neg e4, z_gr (by omega) (by rw [s0]), r4]
      simp only [Option.bind_some]
      rw [f_atFirst hT hk (by omega)]
      simp only [Option.bind_some]
      rw [z_as (by omega) (by omega) (by rw [s2]) (by rw [s2]; show i < 4; omega) (by omega)]
      simp only [Option.bind_some]
      rw [show nI i + 1 = nI (i + 1) from nI_1 i]
      exact q1
    · rw [q3 q hq]
      by_cases h1 : q < i
      · rw [if_pos (by omega), if_pos h1, ax_u2_nk (by omega)]
      · by_cases h2 : q = i
        · subst h2
          rw [if_pos (by omega), if_neg h1, ax_u2_self]
        · rw [if_neg (by omega), if_neg h1]
theorem f_reset_18 (hb : zNB b) (hk : k < 7) : ∀ (d i f : Nat) (m : Nat → Nat → Int32), zT m → i + d = 3 → d < f → ∃ m', fb_X3_reset_18 f (some b) (nI k) (nI i) (zC n m p) = some (zC n m' p) ∧ (∀ a, a ≠ b + 1 → a ≠ b + 2 → m' a = m a) ∧ (∀ q, q < 4 → m' (b + 2) q = zaf k q) ∧ ∀ q, q < 3 → m' (b + 1) q = if q < i then m (b + 1) q else -1005 := by
  obtain ⟨h9, hlt, s0, s1, s2, r3, r4⟩ := zNB_ok (n := n) (p := p) hb
  intro d
  induction d with
  | zero =>
    intro i f m hT hi hf
    obtain ⟨f, rfl⟩ : ∃ k, f = k + 1 := ⟨f - 1, by omega⟩
    obtain rfl : i = 3 := by omega
    obtain ⟨m', q1, q2, q3⟩ := f_reset_40 (n := n) (p := p) (fun _ _ => trivial) hb hk 4 0 10000 m hT rfl (by omega)
    refine ⟨m', ?_, fun a a1 a2 => q2 a a2, fun q hq => by rw [q3 q hq, if_neg (by omega)], fun q hq => by rw [if_pos hq, q2 _ (by omega)]⟩
    unfold fb_X3_reset_18
    rw [if_pos (by decide)]
    rw [nI_0] at q1
    exact q1
  | succ d ih =>
    intro i f m hT hi hf
    obtain ⟨f, rfl⟩ : ∃ k, f = k + 1 := ⟨f - 1, by omega⟩
    have hT' : zT (ax_u2 m (b + 1) i (-1005)) := fun a j ha => by rw [zu2_row (by omega)]; exact hT a j ha
    obtain ⟨m', q1, q2, q3, q4⟩ := ih (i + 1) f _ hT' (by omega) (by omega)
    refine ⟨m', ?_, fun a a1 a2 => by rw [q2 a a1 a2, zu2_row a1], q3, fun q hq => ?_⟩
    · unfold fb_X3_reset_18
      have e3 : ¬ (3 : Int32) ≤ nI i := nI_ge (b := 3) (by omega) (by omega)
      rw [if_neg e3, z_gr (by omega) (by rw [s0]), r3]
      simp only [Option.bind_some]
      rw [z_as (by omega) (by omega) (by rw [s1]) (by rw [s1]; show i < 3; omega) (by omega)]
      simp only [Option.bind_some]
      rw [show nI i + 1 = nI (i + 1) from nI_1 i]
      exact q1
    · rw [q4 q hq]
      by_cases h1 : q < i
      · rw [if_pos (by omega), if_pos h1, ax_u2_nk (by omega)]
      · by_cases h2 : q = i
        · subst h2
          rw [if_pos (by omega), if_neg h1, ax_u2_self]
        · rw [if_neg (by omega), if_neg h1]
theorem f_reset {m : Nat → Nat → Int32} (hb : zNB b) (hk : k < 7) (hT : zT m) : ∃ m', fn_X3_reset (some b) (nI k) (zC n m p) = some (zC n m' p) ∧ zFn b m m' ∧ m' b 0 = nI k ∧ m' b 1 = 0 ∧ m' b 2 = 99 ∧ (∀ q, q < 3 → m' (b + 1) q = -1005) ∧ ∀ q, q < 4 → m' (b + 2) q = zaf k q := by
  obtain ⟨h9, hlt, s0, s1, s2, r3, r4⟩ := zNB_ok (n := n) (p := p) hb
  generalize hm : ax_u2 (ax_u2 (ax_u2 m b 0 (nI k)) b 1 0) b 2 99 = m1
  have r1 : ∀ a, a ≠ b → m1 a = m a := fun a ha => by rw [← hm, zu2_row ha, zu2_row ha, zu2_row ha]
  have hT' : zT m1 := fun a j ha => by rw [r1 a (by omega)]; exact hT a j ha
  obtain ⟨m', q1, q2, q3, q4⟩ := f_reset_18 (n := n) (p := p) hb hk 3 0 10000 m1 hT' rfl (by omega)
  refine ⟨m', ?_, fun a a1 a2 a3 => by rw [q2 a a2 a3, r1 a a1], ?_, ?_, ?_, fun q hq => by rw [q4 q hq, if_neg (by omega)], q3⟩
  · unfold fn_X3_reset
    rw [z_pi (by omega) (by rw [s0])]
    simp only [Option.bind_some]
    rw [z_pi (by omega) (by rw [s0])]
    simp only [Option.bind_some]
    rw [z_pi (by omega) (by rw [s0]), hm]
    simp only [Option.bind_some]
    rw [nI_0] at q1
    exact q1
  · rw [q2 b (by omega) (by omega), ← hm, ax_u2_nk (by omega), ax_u2_nk (by omega), ax_u2_self]
  · rw [q2 b (by omega) (by omega), ← hm, ax_u2_nk (by omega), ax_u2_self]
  · rw [q2 b (by omega) (by omega), ← hm, ax_u2_self]
theorem z_cy {m : Nat → Nat → Int32} {a d l : Nat} (ha : a < 278) (ha9 : 9 ≤ a) (hd : d < 278) (hd9 : 9 ≤ d) (hne : a ≠ d) (sa : (zs_sh n a).1 = 9) (sd : (zs_sh n d).1 = 9) (la : l ≤ (zs_sh n a).2) (ld : l ≤ (zs_sh n d).2) (hl : l < 2 ^ 31) :
    ax_cy (zC n m p) (some a) 0 (some d) 0 (nI l) = some (zC n (fun c j => if c = d then (if j < l then m a j else m d j) else m c j) p) := by
  unfold ax_cy
  rw [z_sh ha sa, z_sh hd sd]
  simp only [Option.bind_some]
  have h0 : (0 : Int32).toNatClampNeg = 0 := rfl
  rw [if_neg]
  · rw [h0, nI_clamp hl]
    have e : (fun a_1 k => if a_1 = d then va_cpy ((zC n m p).2.1 a) ((zC n m p).2.1 d) 0 0 l k else (zC n m p).2.1 a_1 k) = fun c j => if c = d then (if j < l then m a j else m d j) else m c j := by
      funext c j
      split
      · unfold va_cpy
        by_cases hj : j < l
        · rw [if_pos (by omega), if_pos hj]
          simp [zC]
        · rw [if_neg (by omega), if_neg hj]
          rfl
      · rfl
    show some (zS n, _, zR p) = _
    rw [e]
    rfl
  · rw [h0, nI_clamp hl]
    have := nI_pos hl
    simp only [not_or]
    exact ⟨by omega, by omega, hne, by decide, by decide, this, by omega, by omega⟩
theorem f_ncopy {m : Nat → Nat → Int32} (hb : zNB b) (hc : zNB c) (hne : ∀ x y, x < 3 → y < 3 → b + x ≠ c + y) : ∃ m', fn_X3_copyFrom (some b) (some c) (zC n m p) = some (zC n m' p) ∧ zFn b m m' ∧ (∀ q, q < 3 → m' b q = m c q) ∧ (∀ q, q < 3 → m' (b + 1) q = m (c + 1) q) ∧ ∀ q, q < 4 → m' (b + 2) q = m (c + 2) q := by
  obtain ⟨h9, hlt, s0, s1, s2, r3, r4⟩ := zNB_ok (n := n) (p := p) hb
  obtain ⟨g9, glt, t0, t1, t2, q3, q4⟩ := zNB_ok (n := n) (p := p) hc
  have n00 := hne 0 0 (by omega) (by omega)
  have n01 := hne 0 1 (by omega) (by omega)
  have n02 := hne 0 2 (by omega) (by omega)
  have n10 := hne 1 0 (by omega) (by omega)
  have n11 := hne 1 1 (by omega) (by omega)
  have n12 := hne 1 2 (by omega) (by omega)
  have n20 := hne 2 0 (by omega) (by omega)
  have n21 := hne 2 1 (by omega) (by omega)
  have n22 := hne 2 2 (by omega) (by omega)
  simp only [Nat.add_zero] at n00 n01 n02 n10 n20
  generalize hm1 : ax_u2 (ax_u2 (ax_u2 m b 0 (m c 0)) b 1 (m c 1)) b 2 (m c 2) = m1
  have e1 : ∀ a, a ≠ b → m1 a = m a := fun a ha => by rw [← hm1, zu2_row ha, zu2_row ha, zu2_row ha]
  generalize hm2 : (fun x j => if x = b + 1 then (if j < 3 then m1 (c + 1) j else m1 (b + 1) j) else m1 x j) = m2
  have e2 : ∀ a, a ≠ b + 1 → m2 a = m1 a := fun a ha => by rw [← hm2]; funext j; exact if_neg ha
  generalize hm3 : (fun x j => if x = b + 2 then (if j < 4 then m2 (c + 2) j else m2 (b + 2) j) else m2 x j) = m3
  have e3 : ∀ a, a ≠ b + 2 → m3 a = m2 a := fun a ha => by rw [← hm3]; funext j; exact if_neg ha
  refine ⟨m3, ?_, fun a a1 a2 a3 => by rw [e3 a a3, e2 a a2, e1 a a1], fun q hq => ?_, fun q hq => ?_, fun q hq => ?_⟩
  · unfold fn_X3_copyFrom
    rw [z_gi (by omega) (by rw [t0])]
    simp only [Option.bind_some]
    rw [z_pi (by omega) (by rw [s0])]
    simp only [Option.bind_some]
    rw [z_gi (by omega) (by rw [t0]), zu2_row (Ne.symm n00)]
    simp only [Option.bind_some]
    rw [z_pi (by omega) (by rw [s0])]
    simp only [Option.bind_some]
    rw [z_gi (by omega) (by rw [t0]), zu2_row (Ne.symm n00), zu2_row (Ne.symm n00)]
    simp only [Option.bind_some]
    rw [z_pi (by omega) (by rw [s0]), hm1]
    simp only [Option.bind_some]
    rw [z_gr (by omega) (by rw [t0]), q3]
    simp only [Option.bind_some]
    rw [z_gr (by omega) (by rw [s0]), r3]
    simp only [Option.bind_some]
    have c3 := z_cy (n := n) (p := p) (m := m1) (a := c + 1) (d := b + 1) (l := 3) (by omega) (by omega) (by omega) (by omega) (Ne.symm n11) (by rw [t1]) (by rw [s1]) (by rw [t1]; exact Nat.le_refl _) (by rw [s1]; exact Nat.le_refl _) (by omega)
    rw [show nI 3 = (3 : Int32) from rfl, hm2] at c3
    rw [c3]
    simp only [Option.bind_some]
    rw [z_gr (by omega) (by rw [t0]), q4]
    simp only [Option.bind_some]
    rw [z_gr (by omega) (by rw [s0]), r4]
    simp only [Option.bind_some]
    have c4 := z_cy (n := n) (p := p) (m := m2) (a := c + 2) (d := b + 2) (l := 4) (by omega) (by omega) (by omega) (by omega) (Ne.symm n22) (by rw [t2]) (by rw [s2]) (by rw [t2]; exact Nat.le_refl _) (by rw [s2]; exact Nat.le_refl _) (by omega)
    rw [show nI 4 = (4 : Int32) from rfl, hm3] at c4
    rw [c4]
    rfl
  · rw [e3 b (by omega), e2 b (by omega), ← hm1]
    have : q = 0 ∨ q = 1 ∨ q = 2 := by omega
    rcases this with rfl | rfl | rfl
    · rw [ax_u2_nk (by omega), ax_u2_nk (by omega), ax_u2_self]
    · rw [ax_u2_nk (by omega), ax_u2_self]
    · rw [ax_u2_self]
  · rw [e3 _ (by omega), ← hm2]
    show (if b + 1 = b + 1 then (if q < 3 then m1 (c + 1) q else _) else _) = _
    rw [if_pos rfl, if_pos hq, e1 _ (Ne.symm n01)]
  · rw [← hm3]
    show (if b + 2 = b + 2 then (if q < 4 then m2 (c + 2) q else _) else _) = _
    rw [if_pos rfl, if_pos hq, e2 _ (Ne.symm n12), e1 _ (Ne.symm n02)]
end NODE
