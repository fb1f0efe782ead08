/-! ===== the number of bits; which keys go ===== -/
/-! the number of bits, as both programs find it -/
def zsz : Nat → Int32 → Int32 → Option Int32
  | 0, _, _ => none
  | f + 1, a, x => if x = 0 then some a else zsz f (a + 1) (x &&& (x - 1))
def zbc (a0 : Int32) : Int32 :=
  let v1 := a0 - ((a0.toUInt32 >>> ((1 : Int32).toUInt32 &&& Int32.toUInt32 31)).toInt32 &&& 1431655765)
  let v2 := (v1 &&& 858993459) + ((v1.toUInt32 >>> ((2 : Int32).toUInt32 &&& Int32.toUInt32 31)).toInt32 &&& 858993459)
  let v3 := (v2 + (v2.toUInt32 >>> ((4 : Int32).toUInt32 &&& Int32.toUInt32 31)).toInt32) &&& 252645135
  let v4 := v3 + (v3.toUInt32 >>> ((8 : Int32).toUInt32 &&& Int32.toUInt32 31)).toInt32
  let v5 := v4 + (v4.toUInt32 >>> ((16 : Int32).toUInt32 &&& Int32.toUInt32 31)).toInt32
  v5 &&& 63
theorem f_bitCount (x : Int32) (s : ax_S) : fn_J6_bitCount_0f7a4 x s = some (zbc x, s) := rfl
theorem zsz_mono : ∀ (f : Nat) (a x v : Int32), zsz f a x = some v → ∀ k, zsz (f + k) a x = some v := by
  intro f
  induction f with
  | zero => intro a x v h; cases h
  | succ f ih =>
    intro a x v h k
    rw [show f + 1 + k = (f + k) + 1 by omega]
    unfold zsz at h ⊢
    by_cases hx : x = 0
    · rw [if_pos hx] at h ⊢
      exact h
    · rw [if_neg hx] at h ⊢
      exact ih _ _ _ h k
set_option maxRecDepth 100000 in
theorem zbits_all : ((List.range 4096).all fun k => zsz 13 0 (nI k) == some (zbc (nI k))) = true := by decide +kernel
theorem zsm_nI {x : Int32} (h : zsm x) : ∃ k, k < 4096 ∧ x = nI k := by
  refine ⟨x.toBitVec.toNat, ?_, ?_⟩
  · have h1 : x.toBitVec.toNat = (x.toBitVec.setWidth 12).toNat := by
      have e : x.toBitVec = (x.toBitVec.setWidth 12).setWidth 32 := by
        apply BitVec.eq_of_getLsbD_eq
        intro i hi
        by_cases h12 : i < 12
        · simp [hi, h12]
        · rw [h i (by omega) hi]
          simp [h12]
      have e2 := congrArg BitVec.toNat e
      rw [e2]
      simp
      omega
    rw [h1]
    have := (x.toBitVec.setWidth 12).isLt
    omega
  · rw [← Int32.toBitVec_inj]
    apply BitVec.eq_of_toNat_eq
    rw [pk_tn (by have := x.toBitVec.isLt; omega)]
/-- which keys go, as the model tells it -/
def zvm (s a0 a1 b0 b1 : Int32) (x y : Nat) : Bool := decide ((s >>> (nI x &&& 31)) &&& 1 = 1) && (decide (a0 ≤ nI y ∧ nI y ≤ a1) && !decide (b0 ≤ nI y ∧ nI y ≤ b1))
