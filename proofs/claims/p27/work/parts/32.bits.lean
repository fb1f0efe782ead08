/-! ===== sets of nodes as bits of ints ===== -/
/-- bit i of an int, as both programs ask for it -/
def zb (x : Int32) (i : Nat) : Prop := (x >>> (nI i &&& 31)) &&& 1 = 1
/-- the set of one -/
def z1 (i : Nat) : Int32 := 1 <<< (nI i &&& 31)
theorem zb_iff {x : Int32} {i : Nat} (hi : i < 31) : zb x i ↔ x.toBitVec.getLsbD i = true := by
  unfold zb
  have e : (nI i &&& 31) = nI i := by
    have hc : i = 0 ∨ i = 1 ∨ i = 2 ∨ i = 3 ∨ i = 4 ∨ i = 5 ∨ i = 6 ∨ i = 7 ∨ i = 8 ∨ i = 9 ∨ i = 10 ∨ i = 11 ∨ i = 12 ∨ i = 13 ∨ i = 14 ∨ i = 15 ∨ i = 16 ∨ i = 17 ∨ i = 18 ∨ i = 19 ∨ i = 20 ∨ i = 21 ∨ i = 22 ∨ i = 23 ∨ i = 24 ∨ i = 25 ∨ i = 26 ∨ i = 27 ∨ i = 28 ∨ i = 29 ∨ i = 30 := by omega
    rcases hc with rfl | rfl | rfl | rfl | rfl | rfl | rfl | rfl | rfl | rfl | rfl | rfl | rfl | rfl | rfl | rfl | rfl | rfl | rfl | rfl | rfl | rfl | rfl | rfl | rfl | rfl | rfl | rfl | rfl | rfl | rfl <;> decide
  rw [e]
  have h1 : ((x >>> nI i) &&& 1 = 1) ↔ ((x >>> nI i) &&& 1).toBitVec = (1 : Int32).toBitVec := by rw [Int32.toBitVec_inj]
  rw [h1]
  have h2 : ((x >>> nI i) &&& 1).toBitVec = x.toBitVec.sshiftRight i &&& 1#32 := by
    simp only [Int32.toBitVec_and, Int32.toBitVec_shiftRight]
    have h3 : ((nI i).toBitVec.smod 32) = BitVec.ofNat 32 i := by
      have hc : i = 0 ∨ i = 1 ∨ i = 2 ∨ i = 3 ∨ i = 4 ∨ i = 5 ∨ i = 6 ∨ i = 7 ∨ i = 8 ∨ i = 9 ∨ i = 10 ∨ i = 11 ∨ i = 12 ∨ i = 13 ∨ i = 14 ∨ i = 15 ∨ i = 16 ∨ i = 17 ∨ i = 18 ∨ i = 19 ∨ i = 20 ∨ i = 21 ∨ i = 22 ∨ i = 23 ∨ i = 24 ∨ i = 25 ∨ i = 26 ∨ i = 27 ∨ i = 28 ∨ i = 29 ∨ i = 30 := by omega
      rcases hc with rfl | rfl | rfl | rfl | rfl | rfl | rfl | rfl | rfl | rfl | rfl | rfl | rfl | rfl | rfl | rfl | rfl | rfl | rfl | rfl | rfl | rfl | rfl | rfl | rfl | rfl | rfl | rfl | rfl | rfl | rfl <;> decide
    rw [h3]
    rw [BitVec.sshiftRight_eq']
    have h4 : (BitVec.ofNat 32 i).toNat = i := by
      simp
      omega
    rw [h4]
    rfl
  rw [h2]
  constructor
  · intro h
    have h5 := congrArg (fun b => b.getLsbD 0) h
    simpa [BitVec.getLsbD_sshiftRight, BitVec.getElem_sshiftRight, show i < 32 by omega] using h5
  · intro h
    apply BitVec.eq_of_getLsbD_eq
    intro j hj
    by_cases hj0 : j = 0
    · subst hj0
      simp [BitVec.getLsbD_sshiftRight, h, show i < 32 by omega]
    · have : (1#32).getLsbD j = false := by
        have : j = 0 ∨ (1#32).getLsbD j = false := by
          simp [hj0]
        rcases this with h | h
        · exact absurd h hj0
        · exact h
      simp [this]
/-- only the bits of nodes -/
def zsm (x : Int32) : Prop := ∀ i, 12 ≤ i → i < 32 → x.toBitVec.getLsbD i = false
theorem z1_bit {i j : Nat} (hi : i < 12) : (z1 i).toBitVec.getLsbD j = decide (j = i) := by
  have hc : i = 0 ∨ i = 1 ∨ i = 2 ∨ i = 3 ∨ i = 4 ∨ i = 5 ∨ i = 6 ∨ i = 7 ∨ i = 8 ∨ i = 9 ∨ i = 10 ∨ i = 11 := by omega
  have e : (z1 i).toBitVec = BitVec.twoPow 32 i := by
    rcases hc with rfl | rfl | rfl | rfl | rfl | rfl | rfl | rfl | rfl | rfl | rfl | rfl <;> decide
  rw [e, BitVec.getLsbD_twoPow]
  by_cases h : j = i
  · subst h
    simp
    omega
  · have : ¬ i = j := fun q => h q.symm
    simp [h, this]
theorem z1_b {i j : Nat} (hi : i < 12) (hj : j < 31) : zb (z1 i) j ↔ j = i := by
  rw [zb_iff hj, z1_bit hi]
  simp
theorem z1_sm {i : Nat} (hi : i < 12) : zsm (z1 i) := fun j h1 h2 => by
  rw [z1_bit hi]
  simp
  omega
theorem z0_b {j : Nat} (hj : j < 31) : ¬ zb 0 j := by
  rw [zb_iff hj]
  simp
theorem z0_sm : zsm 0 := fun j h1 h2 => by simp
theorem zor_b {x y : Int32} {i : Nat} (hi : i < 31) : zb (x ||| y) i ↔ zb x i ∨ zb y i := by
  rw [zb_iff hi, zb_iff hi, zb_iff hi]
  simp
theorem zor_sm {x y : Int32} (hx : zsm x) (hy : zsm y) : zsm (x ||| y) := fun i h1 h2 => by
  have a := hx i h1 h2
  have b := hy i h1 h2
  simp [a, b]
theorem zext {x y : Int32} (hx : zsm x) (hy : zsm y) (h : ∀ i, i < 12 → (zb x i ↔ zb y i)) : x = y := by
  rw [← Int32.toBitVec_inj]
  apply BitVec.eq_of_getLsbD_eq
  intro i hi
  by_cases hi12 : i < 12
  · have h1 := h i hi12
    rw [zb_iff (by omega), zb_iff (by omega)] at h1
    cases hb : x.toBitVec.getLsbD i
    · cases hc : y.toBitVec.getLsbD i
      · rfl
      · exact absurd (h1.mpr hc) (by rw [hb]; decide)
    · exact (h1.mp hb).symm
  · rw [hx i (by omega) hi, hy i (by omega) hi]
theorem zand_0 {x y : Int32} (hx : zsm x) : x &&& y = 0 ↔ ∀ i, i < 12 → ¬ (zb x i ∧ zb y i) := by
  constructor
  · intro h i hi hb
    rw [zb_iff (by omega), zb_iff (by omega)] at hb
    have h1 := congrArg (fun z : Int32 => z.toBitVec.getLsbD i) h
    simp [hb.1, hb.2] at h1
  · intro h
    rw [← Int32.toBitVec_inj]
    apply BitVec.eq_of_getLsbD_eq
    intro i hi
    by_cases hi12 : i < 12
    · have h1 := h i hi12
      rw [zb_iff (by omega), zb_iff (by omega)] at h1
      cases hb : x.toBitVec.getLsbD i
      · simp [hb]
      · cases hc : y.toBitVec.getLsbD i
        · simp [hc]
        · exact absurd ⟨hb, hc⟩ h1
    · simp [hx i (by omega) hi]
theorem zandn_0 {x y : Int32} (hx : zsm x) : x &&& (y ^^^ (-1)) = 0 ↔ ∀ i, i < 12 → zb x i → zb y i := by
  have hn : ∀ i, i < 32 → (y ^^^ (-1)).toBitVec.getLsbD i = !y.toBitVec.getLsbD i := by
    intro i hi
    have e : ((-1 : Int32)).toBitVec = BitVec.allOnes 32 := by decide
    simp [e, hi]
  constructor
  · intro h i hi hb
    rw [zb_iff (by omega)] at hb ⊢
    have h1 := congrArg (fun z : Int32 => z.toBitVec.getLsbD i) h
    simp only [Int32.toBitVec_and, BitVec.getLsbD_and, hn i (by omega), hb] at h1
    simpa using h1
  · intro h
    rw [← Int32.toBitVec_inj]
    apply BitVec.eq_of_getLsbD_eq
    intro i hi
    simp only [Int32.toBitVec_and, BitVec.getLsbD_and, hn i hi]
    by_cases hi12 : i < 12
    · have h1 := h i hi12
      rw [zb_iff (by omega), zb_iff (by omega)] at h1
      cases hb : x.toBitVec.getLsbD i
      · simp
      · simp [h1 hb]
    · simp [hx i (by omega) hi]
