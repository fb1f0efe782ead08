/-! ===== painting, the model ===== -/
theorem z_toI {a b : Nat} (ha : a < 2 ^ 30) (hb : b < 2 ^ 30) : (nI a - nI b).toInt = (a : Int) - b := by
  rw [Int32.toInt_sub, nI_toInt (by omega), nI_toInt (by omega)]
  apply Int.bmod_eq_of_le <;> omega
theorem z_negle {e : Nat} (he : e < 2 ^ 30) : (-nI e).toInt = -(e : Int) := by
  have := z_toI (a := 0) (b := e) (by omega) he
  rw [nI_0, Int32.zero_sub] at this
  omega
theorem z_gt0 {a : Nat} (h : 0 < a) (h2 : a < 2 ^ 31) : (0 : Int32) < nI a := nI_lt (a := 0) h h2
theorem zlim_mod {x : Int32} : (if 0 ≤ x then (if x ≤ 255 then x else 255) else 0) = zlim x := by
  unfold zlim
  by_cases h1 : x < 255
  · rw [if_pos h1]
    by_cases h2 : 0 < x
    · rw [if_pos h2, if_pos (Int32.le_of_lt h2), if_pos (Int32.le_of_lt h1)]
    · rw [if_neg h2]
      by_cases h3 : 0 ≤ x
      · have : x = 0 := Int32.le_antisymm (Int32.not_lt.mp h2) h3
        rw [this]
        rfl
      · rw [if_neg h3]
  · rw [if_neg h1, if_pos (show (0 : Int32) < 255 by decide)]
    have h2 := Int32.not_lt.mp h1
    rw [if_pos (Int32.le_trans (show (0 : Int32) ≤ 255 by decide) h2)]
    by_cases h3 : x ≤ 255
    · rw [if_pos h3]
      exact Int32.le_antisymm h3 h2
    · rw [if_neg h3]
theorem zlim_in (x : Int32) : ∃ a, a ≤ 255 ∧ zlim x = nI a := by
  have h : 0 ≤ zlim x ∧ zlim x ≤ 255 := by
    unfold zlim
    by_cases h1 : x < 255
    · rw [if_pos h1]
      by_cases h2 : 0 < x
      · rw [if_pos h2]
        exact ⟨Int32.le_of_lt h2, Int32.le_of_lt h1⟩
      · rw [if_neg h2]
        decide
    · rw [if_neg h1, if_pos (by decide)]
      decide
  exact z_in (N := 255) (by omega) h.1 h.2
def zir (V : Nat → Nat → Int32) (x : Nat) (f : Int32) : Prop := V x 1 ≤ f ∧ f ≤ V x 2
section MADE
variable {n N x k : Nat} {m : Nat → Nat → Int32} {p : Nat → Nat} {V : Nat → Nat → Int32} {w : Nat → Nat → Int32} {f : Int32}
/-- a picture's values: in its range, or those of its first input -/
noncomputable def zpc (V : Nat → Nat → Int32) (x : Nat) (f : Int32) (w : Nat → Nat → Int32) (k : Nat) : Int32 := @ite _ (zir V x f) (Classical.propDecidable _) (zpt V x f w k) (w 0 k)
def zwb (u : Nat → Int32) : Prop := ∀ k, k < 96 → ∃ a, a ≤ 255 ∧ u k = nI a
theorem z_rem4 {j : Nat} (hj : j < 96) : nI j - nI j / 4 * 4 = nI (j % 4) := pk_rem (a := j) (d := 4) (by omega) (by omega) (by omega)
theorem z_rem32 {j : Nat} (hj : j < 96) : nI j - nI j / 32 * 32 = nI (j % 32) := pk_rem (a := j) (d := 32) (by omega) (by omega) (by omega)
end MADE
