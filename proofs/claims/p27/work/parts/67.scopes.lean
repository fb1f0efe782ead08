/-! ===== what is counted of a picture ===== -/
def zq (b : Bool) : Int32 := if b then 1 else 0
def zfo (g : Int32 → Int32 → Int32) (u : Nat → Int32) (b : Nat) : Nat → Nat → Int32 → Int32
  | 0, _, a => a
  | d + 1, i, a => zfo g u b d (i + 1) (g a (u (b + i)))
def zgP (q : Int32) (a x : Int32) : Int32 := if x / 16 = q then a + 1 else a
def zgL (a x : Int32) : Int32 := if x < a then x else a
def zgG (a x : Int32) : Int32 := if a < x then x else a
def zgT (a x : Int32) : Int32 := a + x
/-- does the value at i stand before, from j on, among d -/
def zsb (u : Nat → Int32) (b i : Nat) : Nat → Nat → Bool
  | 0, _ => false
  | d + 1, j => if u (b + j) = u (b + i) then true else zsb u b i d (j + 1)
def zdf (u : Nat → Int32) (b : Nat) : Nat → Nat → Int32 → Int32
  | 0, _, a => a
  | d + 1, i, a => zdf u b d (i + 1) (if zsb u b i i 0 = true then a else a + 1)
def zab (x : Int32) : Int32 := if 0 ≤ x then x else -x
def zgd (u v : Nat → Int32) : Nat → Nat → Int32 → Int32
  | 0, _, a => a
  | d + 1, i, a => zgd u v d (i + 1) (if a < zab (u i - v i) then zab (u i - v i) else a)
section SCOPES
variable {n r r' b t : Nat} {m : Nat → Nat → Int32} {p : Nat → Nat} {u v : Nat → Int32} {q x y : Int32}
theorem f_inPart_lp (hr : zRow r) (hb : b + 32 ≤ 96) (hu : ∀ k, k < 96 → m r k = u k) : ∀ (d i f : Nat) (a : Int32), i + d = 32 → d < f → fb_X7_inPart_11 f (some r) q (nI b) a (nI i) (zC n m p) = some (zfo (zgP q) u b d i a, zC n m p) := by
  intro d
  induction d with
  | zero =>
    intro i f a hi hf
    obtain ⟨f, rfl⟩ : ∃ k, f = k + 1 := ⟨f - 1, by omega⟩
    obtain rfl : i = 32 := by omega
    unfold fb_X7_inPart_11
    rw [if_pos (show (32 : Int32) ≤ nI 32 by decide)]
    rfl
  | succ d ih =>
    intro i f a hi hf
    obtain ⟨f, rfl⟩ : ∃ k, f = k + 1 := ⟨f - 1, by omega⟩
    unfold fb_X7_inPart_11
    rw [if_neg (show ¬ (32 : Int32) ≤ nI i from nI_ge (b := 32) (by omega) (by omega)), nI_add, z_ra hr (by omega), hu _ (by omega), Option.bind_some, nI_1]
    show _ = some (zfo (zgP q) u b d (i + 1) (zgP q a (u (b + i))), zC n m p)
    unfold zgP
    split <;> exact ih _ _ _ (by omega) (by omega)
theorem f_least_lp (hr : zRow r) (hb : b + 32 ≤ 96) (hu : ∀ k, k < 96 → m r k = u k) : ∀ (d i f : Nat) (a : Int32), i + d = 32 → d < f → fb_X7_least_12 f (some r) (nI b) a (nI i) (zC n m p) = some (zfo zgL u b d i a, zC n m p) := by
  intro d
  induction d with
  | zero =>
    intro i f a hi hf
    obtain ⟨f, rfl⟩ : ∃ k, f = k + 1 := ⟨f - 1, by omega⟩
    obtain rfl : i = 32 := by omega
    unfold fb_X7_least_12
    rw [if_pos (show (32 : Int32) ≤ nI 32 by decide)]
    rfl
  | succ d ih =>
    intro i f a hi hf
    obtain ⟨f, rfl⟩ : ∃ k, f = k + 1 := ⟨f - 1, by omega⟩
    unfold fb_X7_least_12
    rw [if_neg (show ¬ (32 : Int32) ≤ nI i from nI_ge (b := 32) (by omega) (by omega)), nI_add, z_ra hr (by omega), hu _ (by omega), Option.bind_some, nI_1]
    exact ih _ _ _ (by omega) (by omega)
theorem f_greatest_lp (hr : zRow r) (hb : b + 32 ≤ 96) (hu : ∀ k, k < 96 → m r k = u k) : ∀ (d i f : Nat) (a : Int32), i + d = 32 → d < f → fb_X7_greatest_10 f (some r) (nI b) a (nI i) (zC n m p) = some (zfo zgG u b d i a, zC n m p) := by
  intro d
  induction d with
  | zero =>
    intro i f a hi hf
    obtain ⟨f, rfl⟩ : ∃ k, f = k + 1 := ⟨f - 1, by omega⟩
    obtain rfl : i = 32 := by omega
    unfold fb_X7_greatest_10
    rw [if_pos (show (32 : Int32) ≤ nI 32 by decide)]
    rfl
  | succ d ih =>
    intro i f a hi hf
    obtain ⟨f, rfl⟩ : ∃ k, f = k + 1 := ⟨f - 1, by omega⟩
    unfold fb_X7_greatest_10
    rw [if_neg (show ¬ (32 : Int32) ≤ nI i from nI_ge (b := 32) (by omega) (by omega)), nI_add, z_ra hr (by omega), hu _ (by omega), Option.bind_some, nI_1]
    exact ih _ _ _ (by omega) (by omega)
theorem f_total_lp (hr : zRow r) (hb : b + 32 ≤ 96) (hu : ∀ k, k < 96 → m r k = u k) : ∀ (d i f : Nat) (a : Int32), i + d = 32 → d < f → fb_X7_total_10 f (some r) (nI b) a (nI i) (zC n m p) = some (zfo zgT u b d i a, zC n m p) := by
  intro d
  induction d with
  | zero =>
    intro i f a hi hf
    obtain ⟨f, rfl⟩ : ∃ k, f = k + 1 := ⟨f - 1, by omega⟩
    obtain rfl : i = 32 := by omega
    unfold fb_X7_total_10
    rw [if_pos (show (32 : Int32) ≤ nI 32 by decide)]
    rfl
  | succ d ih =>
    intro i f a hi hf
    obtain ⟨f, rfl⟩ : ∃ k, f = k + 1 := ⟨f - 1, by omega⟩
    unfold fb_X7_total_10
    rw [if_neg (show ¬ (32 : Int32) ≤ nI i from nI_ge (b := 32) (by omega) (by omega)), nI_add, z_ra hr (by omega), hu _ (by omega), Option.bind_some, nI_1]
    exact ih _ _ _ (by omega) (by omega)
theorem f_stands_lp {i : Nat} (hr : zRow r) (hb : b + i < 96) (hu : ∀ k, k < 96 → m r k = u k) : ∀ (d j f : Nat), j + d = i → d < f → fb_X7_standsBefore_2 f (some r) (nI (b + i)) (nI (b + j)) (zC n m p) = some (zq (zsb u b i d j), zC n m p) := by
  intro d
  induction d with
  | zero =>
    intro j f hj hf
    obtain ⟨f, rfl⟩ : ∃ k, f = k + 1 := ⟨f - 1, by omega⟩
    obtain rfl : j = i := by omega
    unfold fb_X7_standsBefore_2
    rw [if_pos (nI_le (Nat.le_refl _) (by omega))]
    rfl
  | succ d ih =>
    intro j f hj hf
    obtain ⟨f, rfl⟩ : ∃ k, f = k + 1 := ⟨f - 1, by omega⟩
    unfold fb_X7_standsBefore_2
    rw [if_neg (nI_ge (by omega) (by omega)), z_ra hr (by omega), hu _ (by omega), Option.bind_some, z_ra hr (by omega), hu _ (by omega), Option.bind_some, nI_1]
    unfold zsb
    split
    · rfl
    · exact ih (j + 1) f (by omega) (by omega)
theorem zq_bz {c : Bool} {s : ax_S} : ax_bz (some (zq c, s)) = some (zq c, s) := by
  cases c
  · exact zbz0
  · exact zbz1
theorem f_different_lp (hr : zRow r) (hb : b + 32 ≤ 96) (hu : ∀ k, k < 96 → m r k = u k) : ∀ (d i f : Nat) (a : Int32), i + d = 32 → d < f → fb_X7_different_10 f (some r) (nI b) a (nI (b + i)) (zC n m p) = some (zdf u b d i a, zC n m p) := by
  intro d
  induction d with
  | zero =>
    intro i f a hi hf
    obtain ⟨f, rfl⟩ : ∃ k, f = k + 1 := ⟨f - 1, by omega⟩
    obtain rfl : i = 32 := by omega
    unfold fb_X7_different_10
    rw [if_pos (show nI b + 32 ≤ nI (b + 32) by rw [show nI b + 32 = nI (b + 32) from nI_add b 32]; exact nI_le (Nat.le_refl _) (by omega))]
    rfl
  | succ d ih =>
    intro i f a hi hf
    obtain ⟨f, rfl⟩ : ∃ k, f = k + 1 := ⟨f - 1, by omega⟩
    unfold fb_X7_different_10 fn_X7_standsBefore fi_X7_standsBefore
    have hs := f_stands_lp (n := n) (p := p) (b := b) (i := i) hr (by omega) hu i 0 10000 (by omega) (by omega)
    rw [Nat.add_zero] at hs
    rw [if_neg (show ¬ nI b + 32 ≤ nI (b + i) by rw [show nI b + 32 = nI (b + 32) from nI_add b 32]; exact nI_ge (by omega) (by omega)), hs, zq_bz, Option.bind_some, nI_1]
    dsimp only
    unfold zdf
    cases zsb u b i i 0
    · rw [if_pos (show zq false = 0 from rfl), if_neg (by decide)]
      exact ih (i + 1) f _ (by omega) (by omega)
    · rw [if_neg (by decide), if_pos rfl]
      exact ih (i + 1) f _ (by omega) (by omega)
theorem z_0sub (x : Int32) : 0 - x = -x := Int32.zero_sub x
theorem f_gd_lp (hr : zRow r) (hr' : zRow r') (hu : ∀ k, k < 96 → m r k = u k) (hv : ∀ k, k < 96 → m r' k = v k) : ∀ (d i f : Nat) (a : Int32), i + d = 96 → d < f → fb_X7_greatestDifference_4 f (some r) (some r') a (nI i) (zC n m p) = some (zgd u v d i a, zC n m p) := by
  intro d
  induction d with
  | zero =>
    intro i f a hi hf
    obtain ⟨f, rfl⟩ : ∃ k, f = k + 1 := ⟨f - 1, by omega⟩
    obtain rfl : i = 96 := by omega
    unfold fb_X7_greatestDifference_4
    rw [if_pos (show (96 : Int32) ≤ nI 96 by decide)]
    rfl
  | succ d ih =>
    intro i f a hi hf
    obtain ⟨f, rfl⟩ : ∃ k, f = k + 1 := ⟨f - 1, by omega⟩
    unfold fb_X7_greatestDifference_4
    rw [if_neg (show ¬ (96 : Int32) ≤ nI i from nI_ge (b := 96) (by omega) (by omega)), z_ra hr (by omega), hu _ (by omega), Option.bind_some, z_ra hr' (by omega), hv _ (by omega), Option.bind_some, nI_1, z_0sub]
    exact ih _ _ _ (by omega) (by omega)
/-! the model -/
end SCOPES

