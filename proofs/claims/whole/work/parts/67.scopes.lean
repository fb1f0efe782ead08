/-! ===== what is counted of a picture ===== -/
def zfo (g : Int32 → Int32 → Int32) (u : Nat → Int32) (b : Nat) : Nat → Nat → Int32 → Int32
  | 0, _, a => a
  | d + 1, i, a => zfo g u b d (i + 1) (g a (u (b + i)))
def zgP (q : Int32) (a x : Int32) : Int32 := if x / 16 = q then a + 1 else a
def zgL (a x : Int32) : Int32 := if x < a then x else a
def zgG (a x : Int32) : Int32 := if a < x then x else a
def zgT (a x : Int32) : Int32 := a + x
/-- does the value at i stand before, from j on, among d -/
def zsb (u : Nat → Int32) (b i : Nat) : Nat → Nat → Bool
  | 0, _ => false
  | d + 1, j => if u (b + j) = u (b + i) then true else zsb u b i d (j + 1)
def zdf (u : Nat → Int32) (b : Nat) : Nat → Nat → Int32 → Int32
  | 0, _, a => a
  | d + 1, i, a => zdf u b d (i + 1) (if zsb u b i i 0 = true then a else a + 1)
def zab (x : Int32) : Int32 := if 0 ≤ x then x else -x
def zgd (u v : Nat → Int32) : Nat → Nat → Int32 → Int32
  | 0, _, a => a
  | d + 1, i, a => zgd u v d (i + 1) (if a < zab (u i - v i) then zab (u i - v i) else a)
section SCOPES
variable {n r r' b t : Nat} {m : Nat → Nat → Int32} {p : Nat → Nat} {u v : Nat → Int32} {q x y : Int32}
theorem f_inPart_lp (hr : zRow r) (hb : b + 32 ≤ 96) (hu : ∀ k, k < 96 → m r k = u k) : ∀ (d i f : Nat) (a : Int32), i + d = 32 → d < f → fb_X7_inPart_11 f (some r) q (nI b) a (nI i) (zC n m p) = some (zfo (zgP q) u b d i a, zC n m p) := by
  intro d
  induction d with
  | zero =>
    intro i f a hi hf
    obtain ⟨f, rfl⟩ : ∃ k, f = k + 1 := ⟨f - 1, by omega⟩
    obtain rfl : i = 32 := by omega
    unfold fb_X7_inPart_11
    rw [if_pos (show (32 : Int32) ≤ nI 32 by decide)]
    rfl
  | succ d ih =>
    intro i f a hi hf
    obtain ⟨f, rfl⟩ : ∃ k, f = k + 1 := ⟨f - 1, by omega⟩
    unfold fb_X7_inPart_11
    rw [if_neg (show ¬ (32 : Int32) ≤ nI i from nI_ge (b := 32) (by omega) (by omega)), nI_add, z_ra hr (by omega), hu _ (by omega), Option.bind_some, nI_1]
    show _ = some (zfo (zgP q) u b d (i + 1) (zgP q a (u (b + i))), zC n m p)
    unfold zgP
    split <;> exact ih _ _ _ (by omega) (by omega)
theorem f_least_lp (hr : zRow r) (hb : b + 32 ≤ 96) (hu : ∀ k, k < 96 → m r k = u k) : ∀ (d i f : Nat) (a : Int32), i + d = 32 → d < f → fb_X7_least_12 f (some r) (nI b) a (nI i) (zC n m p) = some (zfo zgL u b d i a, zC n m p) := by
  intro d
  induction d with
  | zero =>
    intro i f a hi hf
    obtain ⟨f, rfl⟩ : ∃ k, f = k + 1 := ⟨f - 1, by omega⟩
    obtain rfl : i = 32 := by omega
    unfold fb_X7_least_12
    rw [if_pos (show (32 : Int32) ≤ nI 32 by decide)]
    rfl
  | succ d ih =>
    intro i f a hi hf
    obtain ⟨f, rfl⟩ : ∃ k, f = k + 1 := ⟨f - 1, by omega⟩
    unfold fb_X7_least_12
    rw [if_neg (show ¬ (32 : Int32) ≤ nI i from nI_ge (b := 32) (by omega) (by omega)), nI_add, z_ra hr (by omega), hu _ (by omega), Option.bind_some, nI_1]
    exact ih _ _ _ (by omega) (by omega)
theorem f_greatest_lp (hr : zRow r) (hb : b + 32 ≤ 96) (hu : ∀ k, k < 96 → m r k = u k) : ∀ (d i f : Nat) (a : Int32), i + d = 32 → d < f → fb_X7_greatest_10 f (some r) (nI b) a (nI i) (zC n m p) = some (zfo zgG u b d i a, zC n m p) := by
  intro d
  induction d with
  | zero =>
    intro i f a hi hf
    obtain ⟨f, rfl⟩ : ∃ k, f = k + 1 := ⟨f - 1, by omega⟩
    obtain rfl : i = 32 := by omega
    unfold fb_X7_greatest_10
    rw [if_pos (show (32 : Int32) ≤ nI 32 by decide)]
    rfl
  | succ d ih =>
    intro i f a hi hf
    obtain ⟨f, rfl⟩ : ∃ k, f = k + 1 := ⟨f - 1, by omega⟩
    unfold fb_X7_greatest_10
    rw [if_neg (show ¬ (32 : Int32) ≤ nI i from nI_ge (b := 32) (by omega) (by omega)), nI_add, z_ra hr (by omega), hu _ (by omega), Option.bind_some, nI_1]
    exact ih _ _ _ (by omega) (by omega)
theorem f_total_lp (hr : zRow r) (hb : b + 32 ≤ 96) (hu : ∀ k, k < 96 → m r k = u k) : ∀ (d i f : Nat) (a : Int32), i + d = 32 → d < f → fb_X7_total_10 f (some r) (nI b) a (nI i) (zC n m p) = some (zfo zgT u b d i a, zC n m p) := by
  intro d
  induction d with
  | zero =>
    intro i f a hi hf
    obtain ⟨f, rfl⟩ : ∃ k, f = k + 1 := ⟨f - 1, by omega⟩
    obtain rfl : i = 32 := by omega
    unfold fb_X7_total_10
    rw [if_pos (show (32 : Int32) ≤ nI 32 by decide)]
    rfl
  | succ d ih =>
    intro i f a hi hf
    obtain ⟨f, rfl⟩ : ∃ k, f = k + 1 := ⟨f - 1, by omega⟩
    unfold fb_X7_total_10
    rw [if_neg (show ¬ (32 : Int32) ≤ nI i from nI_ge (b := 32) (by omega) (by omega)), nI_add, z_ra hr (by omega), hu _ (by omega), Option.bind_some, nI_1]
    exact ih _ _ _ (by omega) (by omega)
theorem f_stands_lp {i : Nat} (hr : zRow r) (hb : b + i < 96) (hu : ∀ k, k < 96 → m r k = u k) : ∀ (d j f : Nat), j + d = i → d < f → fb_X7_standsBefore_2 f (some r) (nI (b + i)) (nI (b + j)) (zC n m p) = some (zq (zsb u b i d j), zC n m p) := by
  intro d
  induction d with
  | zero =>
    intro j f hj hf
    obtain ⟨f, rfl⟩ : ∃ k, f = k + 1 := ⟨f - 1, by omega⟩
    obtain rfl : j = i := by omega
    unfold fb_X7_standsBefore_2
    rw [if_pos (nI_le (Nat.le_refl _) (by omega))]
    rfl
  | succ d ih =>
    intro j f hj hf
    obtain ⟨f, rfl⟩ : ∃ k, f = k + 1 := ⟨f - 1, by omega⟩
    unfold fb_X7_standsBefore_2
    rw [if_neg (nI_ge (by omega) (by omega)), z_ra hr (by omega), hu _ (by omega), Option.bind_some, z_ra hr (by omega), hu _ (by omega), Option.bind_some, nI_1]
    unfold zsb
    split
    · rfl
    · exact ih (j + 1) f (by omega) (by omega)
theorem zq_bz {c : Bool} {s : ax_S} : ax_bz (some (zq c, s)) = some (zq c, s) := by
  cases c
  · exact zbz0
  · exact zbz1
theorem f_different_lp (hr : zRow r) (hb : b + 32 ≤ 96) (hu : ∀ k, k < 96 → m r k = u k) : ∀ (d i f : Nat) (a : Int32), i + d = 32 → d < f → fb_X7_different_10 f (some r) (nI b) a (nI (b + i)) (zC n m p) = some (zdf u b d i a, zC n m p) := by
  intro d
  induction d with
  | zero =>
    intro i f a hi hf
    obtain ⟨f, rfl⟩ : ∃ k, f = k + 1 := ⟨f - 1, by omega⟩
    obtain rfl : i = 32 := by omega
    unfold fb_X7_different_10
    rw [if_pos (show nI b + 32 ≤ nI (b + 32) by rw [show nI b + 32 = nI (b + 32) from nI_add b 32]; exact nI_le (Nat.le_refl _) (by omega))]
    rfl
  | succ d ih =>
    intro i f a hi hf
    obtain ⟨f, rfl⟩ : ∃ k, f = k + 1 := ⟨f - 1, by omega⟩
    unfold fb_X7_different_10 fn_X7_standsBefore fi_X7_standsBefore
    have hs := f_stands_lp (n := n) (p := p) (b := b) (i := i) hr (by omega) hu i 0 10000 (by omega) (by omega)
    rw [Nat.add_zero] at hs
    rw [if_neg (show ¬ nI b + 32 ≤ nI (b + i) by rw [show nI b + 32 = nI (b + 32) from nI_add b 32]; exact nI_ge (by omega) (by omega)), hs, zq_bz, Option.bind_some, nI_1]
    dsimp only
    unfold zdf
    cases zsb u b i i 0
    · rw [if_pos (show zq false = 0 from rfl), if_neg (by decide)]
      exact ih (i + 1) f _ (by omega) (by omega)
    · rw [if_neg (by decide), if_pos rfl]
      exact ih (i + 1) f _ (by omega) (by omega)
theorem z_0sub (x : Int32) : 0 - x = -x := Int32.zero_sub x
theorem f_gd_lp (hr : zRow r) (hr' : zRow r') (hu : ∀ k, k < 96 → m r k = u k) (hv : ∀ k, k < 96 → m r' k = v k) : ∀ (d i f : Nat) (a : Int32), i + d = 96 → d < f → fb_X7_greatestDifference_4 f (some r) (some r') a (nI i) (zC n m p) = some (zgd u v d i a, zC n m p) := by
  intro d
  induction d with
  | zero =>
    intro i f a hi hf
    obtain ⟨f, rfl⟩ : ∃ k, f = k + 1 := ⟨f - 1, by omega⟩
    obtain rfl : i = 96 := by omega
    unfold fb_X7_greatestDifference_4
    rw [if_pos (show (96 : Int32) ≤ nI 96 by decide)]
    rfl
  | succ d ih =>
    intro i f a hi hf
    obtain ⟨f, rfl⟩ : ∃ k, f = k + 1 := ⟨f - 1, by omega⟩
    unfold fb_X7_greatestDifference_4
    rw [if_neg (show ¬ (96 : Int32) ≤ nI i from nI_ge (b := 96) (by omega) (by omega)), z_ra hr (by omega), hu _ (by omega), Option.bind_some, z_ra hr' (by omega), hv _ (by omega), Option.bind_some, nI_1, z_0sub]
    exact ih _ _ _ (by omega) (by omega)
/-! the model -/
theorem z_p282 {j : Nat} (ht : t < 48) (hj : j < 96) : ax_al (zC n m p) 9 (some 282) (nI (96 * t + j)) = some (m 282 (96 * t + j)) := z_a2 (by omega)
theorem f_mscope_lp (ht : t < 48) (hb : b + 32 ≤ 96) (hu : ∀ k, k < 96 → m 282 (96 * t + k) = u k) : ∀ (d i f : Nat) (a : Int32), i + d = 32 → d < f → fb_X10_scope_55 f (some 275) q (nI (96 * t + b)) a (nI i) (zC n m p) = some (zfo (zgP q) u b d i a, zC n m p) := by
  intro d
  induction d with
  | zero =>
    intro i f a hi hf
    obtain ⟨f, rfl⟩ : ∃ k, f = k + 1 := ⟨f - 1, by omega⟩
    obtain rfl : i = 32 := by omega
    unfold fb_X10_scope_55
    rw [if_pos (show (32 : Int32) ≤ nI 32 by decide)]
    rfl
  | succ d ih =>
    intro i f a hi hf
    obtain ⟨f, rfl⟩ : ∃ k, f = k + 1 := ⟨f - 1, by omega⟩
    unfold fb_X10_scope_55 fb_X10_scope_87
    rw [if_neg (show ¬ (32 : Int32) ≤ nI i from nI_ge (b := 32) (by omega) (by omega)), z_m8, Option.bind_some, nI_add, show 96 * t + b + i = 96 * t + (b + i) by omega, z_p282 ht (by omega), hu _ (by omega), Option.bind_some, nI_1]
    show _ = some (zfo (zgP q) u b d (i + 1) (zgP q a (u (b + i))), zC n m p)
    unfold zgP ax_bd
    split
    · exact ih _ _ _ (by omega) (by omega)
    · dsimp only
      rw [Int32.add_zero]
      exact ih _ _ _ (by omega) (by omega)
theorem f_mcmp_lp {s : Nat} (ht : t < 48) (hs : s < 48) (hu : ∀ k, k < 96 → m 282 (96 * t + k) = u k) (hv : ∀ k, k < 96 → m 282 (96 * s + k) = v k) : ∀ (d i f : Nat) (a : Int32), i + d = 96 → d < f → fb_X10_compare_57 f (some 275) (nI (96 * s)) (nI (96 * t)) a (nI i) (zC n m p) = some (zgd u v d i a, zC n m p) := by
  intro d
  induction d with
  | zero =>
    intro i f a hi hf
    obtain ⟨f, rfl⟩ : ∃ k, f = k + 1 := ⟨f - 1, by omega⟩
    obtain rfl : i = 96 := by omega
    unfold fb_X10_compare_57
    rw [if_pos (show (96 : Int32) ≤ nI 96 by decide)]
    rfl
  | succ d ih =>
    intro i f a hi hf
    obtain ⟨f, rfl⟩ : ∃ k, f = k + 1 := ⟨f - 1, by omega⟩
    unfold fb_X10_compare_57 fb_X10_compare_100
    rw [if_neg (show ¬ (96 : Int32) ≤ nI i from nI_ge (b := 96) (by omega) (by omega)), z_m8, Option.bind_some, nI_add, z_p282 ht (by omega), hu _ (by omega), Option.bind_some, Option.bind_some, nI_add, z_p282 hs (by omega), hv _ (by omega), Option.bind_some, nI_1]
    unfold ax_bd
    dsimp only
    show _ = some (zgd u v d (i + 1) (if a < zab (u i - v i) then zab (u i - v i) else a), zC n m p)
    unfold zab
    by_cases h0 : 0 ≤ u i - v i
    · rw [if_pos h0, if_pos h0]
      by_cases h1 : u i - v i ≤ a
      · rw [if_pos h1, if_neg (Int32.not_lt.mpr h1)]
        exact ih _ _ _ (by omega) (by omega)
      · rw [if_neg h1, if_pos (Int32.not_le.mp h1)]
        exact ih _ _ _ (by omega) (by omega)
    · rw [if_neg h0, if_neg h0]
      by_cases h1 : -(u i - v i) ≤ a
      · rw [if_pos h1, if_neg (Int32.not_lt.mpr h1)]
        exact ih _ _ _ (by omega) (by omega)
      · rw [if_neg h1, if_pos (Int32.not_le.mp h1)]
        exact ih _ _ _ (by omega) (by omega)
theorem f_msums76 {i : Nat} {a2 a3 a4 a5 a6 : Int32} {k16 : Option Nat → Int32 → Int32 → Int32 → Int32 → Int32 → Int32 → Int32 → ax_S → Option (Int32 × ax_S)} (ht : t < 48) (hb : b + 32 ≤ 96) (hu : ∀ k, k < 96 → m 282 (96 * t + k) = u k) (hi : i < 32) : ∀ (d j f : Nat) (c : Bool), j + d = i → d < f → fb_X10_sums_76 k16 f (some 275) (nI (96 * t + b)) a2 a3 a4 a5 a6 (nI i) (u (b + i)) (zq c) (nI j) (zC n m p) = k16 (some 275) (nI (96 * t + b)) a2 a3 a4 a5 (if (c && !zsb u b i d j) = true then a6 + 1 else a6) (nI (i + 1)) (zC n m p) := by
  intro d
  induction d with
  | zero =>
    intro j f c hj hf
    obtain ⟨f, rfl⟩ : ∃ k, f = k + 1 := ⟨f - 1, by omega⟩
    obtain rfl : j = i := by omega
    unfold fb_X10_sums_76 fb_X10_sums_127 ax_bd
    rw [if_pos (nI_le (Nat.le_refl _) (by omega)), nI_1]
    cases c
    · rw [if_pos (show zq false = 0 from rfl)]
      dsimp only
      rw [Int32.add_zero]
      rfl
    · rw [if_neg (by decide)]
      rfl
  | succ d ih =>
    intro j f c hj hf
    obtain ⟨f, rfl⟩ : ∃ k, f = k + 1 := ⟨f - 1, by omega⟩
    unfold fb_X10_sums_76 fb_X10_sums_106
    rw [if_neg (nI_ge (by omega) (by omega)), nI_1]
    cases c
    · rw [if_pos (show zq false = 0 from rfl)]
      have h := ih (j + 1) f false (by omega) (by omega)
      exact h
    · rw [if_neg (show ¬ zq true = 0 by decide), z_m8, Option.bind_some, nI_add, show 96 * t + b + j = 96 * t + (b + j) by omega, z_p282 ht (by omega), hu _ (by omega), Option.bind_some]
      unfold zsb
      by_cases hq : u (b + j) = u (b + i)
      · rw [if_pos hq, if_pos hq]
        have h := ih (j + 1) f false (by omega) (by omega)
        exact h
      · rw [if_neg hq, if_neg hq]
        exact ih (j + 1) f true (by omega) (by omega)
theorem f_msums_lp {a2 : Int32} (ht : t < 48) (hb : b + 32 ≤ 96) (hu : ∀ k, k < 96 → m 282 (96 * t + k) = u k) : ∀ (d i f : Nat) (a3 a4 a5 a6 : Int32), i + d = 32 → d < f → fb_X10_sums_16 f (some 275) (nI (96 * t + b)) a2 a3 a4 a5 a6 (nI i) (zC n m p) = some (if a2 = 0 then zfo zgL u b d i a3 else if a2 = 1 then zfo zgG u b d i a4 else if a2 = 2 then zfo zgT u b d i a5 else zdf u b d i a6, zC n m p) := by
  intro d
  induction d with
  | zero =>
    intro i f a3 a4 a5 a6 hi hf
    obtain ⟨f, rfl⟩ : ∃ k, f = k + 1 := ⟨f - 1, by omega⟩
    obtain rfl : i = 32 := by omega
    unfold fb_X10_sums_16
    rw [if_pos (show (32 : Int32) ≤ nI 32 by decide)]
    split
    · rfl
    · split
      · rfl
      · split <;> rfl
  | succ d ih =>
    intro i f a3 a4 a5 a6 hi hf
    obtain ⟨f, rfl⟩ : ∃ k, f = k + 1 := ⟨f - 1, by omega⟩
    have h61 : ∀ b0 b1 : Int32, fb_X10_sums_61 (fb_X10_sums_16 f) (some 275) (nI (96 * t + b)) a2 b0 a5 a6 (nI i) (u (b + i)) b1 (zC n m p) = fb_X10_sums_16 f (some 275) (nI (96 * t + b)) a2 b0 b1 (a5 + u (b + i)) (if zsb u b i i 0 = true then a6 else a6 + 1) (nI (i + 1)) (zC n m p) := by
      intro b0 b1
      unfold fb_X10_sums_61 ax_bd
      dsimp only
      have h := f_msums76 (n := n) (p := p) (a2 := a2) (a3 := b0) (a4 := b1) (a5 := a5 + u (b + i)) (a6 := a6) (k16 := fb_X10_sums_16 f) ht hb hu (show i < 32 by omega) i 0 10000 true (by omega) (by omega)
      rw [nI_0] at h
      refine Eq.trans h ?_
      cases zsb u b i i 0 <;> rfl
    have h46 : ∀ b0 : Int32, fb_X10_sums_46 (fb_X10_sums_16 f) (some 275) (nI (96 * t + b)) a2 a4 a5 a6 (nI i) (u (b + i)) b0 (zC n m p) = fb_X10_sums_16 f (some 275) (nI (96 * t + b)) a2 b0 (zgG a4 (u (b + i))) (a5 + u (b + i)) (if zsb u b i i 0 = true then a6 else a6 + 1) (nI (i + 1)) (zC n m p) := by
      intro b0
      unfold fb_X10_sums_46 zgG
      by_cases h1 : u (b + i) ≤ a4
      · rw [if_pos h1, if_neg (Int32.not_lt.mpr h1), h61]
      · rw [if_neg h1, if_pos (Int32.not_le.mp h1), h61]
    unfold fb_X10_sums_16
    rw [if_neg (show ¬ (32 : Int32) ≤ nI i from nI_ge (b := 32) (by omega) (by omega)), z_m8, Option.bind_some, nI_add, show 96 * t + b + i = 96 * t + (b + i) by omega, z_p282 ht (by omega), hu _ (by omega), Option.bind_some, h46, h46]
    have hL : (if a3 ≤ u (b + i) then a3 else u (b + i)) = zgL a3 (u (b + i)) := by
      unfold zgL
      by_cases h1 : a3 ≤ u (b + i)
      · rw [if_pos h1, if_neg (Int32.not_lt.mpr h1)]
      · rw [if_neg h1, if_pos (Int32.not_le.mp h1)]
    have hfin : ∀ v : Int32, v = zgL a3 (u (b + i)) → fb_X10_sums_16 f (some 275) (nI (96 * t + b)) a2 v (zgG a4 (u (b + i))) (a5 + u (b + i)) (if zsb u b i i 0 = true then a6 else a6 + 1) (nI (i + 1)) (zC n m p) = some (if a2 = 0 then zfo zgL u b (d + 1) i a3 else if a2 = 1 then zfo zgG u b (d + 1) i a4 else if a2 = 2 then zfo zgT u b (d + 1) i a5 else zdf u b (d + 1) i a6, zC n m p) := by
      intro v hv
      rw [ih (i + 1) f _ _ _ _ (by omega) (by omega), hv]
      rfl
    by_cases h1 : a3 ≤ u (b + i)
    · rw [if_pos h1] at hL ⊢
      exact hfin _ hL
    · rw [if_neg h1] at hL ⊢
      exact hfin _ hL
end SCOPES
