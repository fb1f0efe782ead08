/-! ===== the class's small functions ===== -/
def zB (c : Prop) [Decidable c] : Int32 := if c then 1 else 0
theorem zB_t {c : Prop} [Decidable c] (h : c) : zB c = 1 := if_pos h
theorem zB_f {c : Prop} [Decidable c] (h : ¬ c) : zB c = 0 := if_neg h
theorem zB_0 {c : Prop} [Decidable c] : zB c = 0 ↔ ¬ c := by
  unfold zB
  split <;> simp_all
theorem zB_bz {c : Prop} [Decidable c] {s : ax_S} : ax_bz (some (zB c, s)) = some (zB c, s) := by
  unfold ax_bz zB
  split <;> simp
theorem zbz0 {s : ax_S} : ax_bz (some (0, s)) = some (0, s) := by simp [ax_bz]
theorem zbz1 {s : ax_S} : ax_bz (some (1, s)) = some (1, s) := by simp [ax_bz]
theorem f_isIn (a b c : Int32) (s : ax_S) : fn_X9_isIn a b c s = some (zB (b ≤ a ∧ a ≤ c), s) := by
  unfold fn_X9_isIn fi_X9_isIn
  by_cases h1 : a < b
  · rw [if_pos h1, zB_f (fun h => absurd h.1 (Int32.not_le.mpr h1)), zbz0]
  · rw [if_neg h1]
    by_cases h2 : c < a
    · rw [if_pos h2, zB_f (fun h => absurd h.2 (Int32.not_le.mpr h2)), zbz0]
    · rw [if_neg h2, zB_t ⟨Int32.not_lt.mp h1, Int32.not_lt.mp h2⟩, zbz1]
theorem f_isFrame (a : Int32) (s : ax_S) : fn_X9_isFrame a s = some (zB (0 ≤ a ∧ a ≤ 99), s) := by
  unfold fn_X9_isFrame fi_X9_isFrame
  rw [f_isIn]
  exact zB_bz
theorem f_isChannel (a : Int32) (s : ax_S) : fn_X9_isChannel a s = some (zB (0 ≤ a ∧ a ≤ 2), s) := by
  unfold fn_X9_isChannel fi_X9_isChannel
  rw [f_isIn]
  exact zB_bz
theorem f_contains (x a : Int32) (s : ax_S) : fn_X9_contains x a s = some (zB ((0 ≤ a ∧ a ≤ 11) ∧ (x >>> (a &&& 31)) &&& 1 = 1), s) := by
  unfold fn_X9_contains fi_X9_contains
  rw [f_isIn]
  simp only [Option.bind_some]
  by_cases h1 : 0 ≤ a ∧ a ≤ 11
  · rw [zB_t h1, if_neg (by decide)]
    by_cases h2 : (x >>> (a &&& 31)) &&& 1 = 1
    · rw [if_pos h2, zB_t ⟨h1, h2⟩, zbz1]
    · rw [if_neg h2, zB_f (fun h => h2 h.2), zbz0]
  · rw [zB_f h1, if_pos rfl, zB_f (fun h => h1 h.1), zbz0]
/-- an int between two numbers -/
theorem z_in {x : Int32} {N : Nat} (hN : N < 2 ^ 31) (h0 : 0 ≤ x) (h1 : x ≤ nI N) : ∃ j : Nat, j ≤ N ∧ x = nI j := by
  obtain ⟨j, hj, rfl⟩ := nI_of (x := x) (fun h => absurd h (Int32.not_lt.mpr h0))
  exact ⟨j, (nI_leI hj hN).mp h1, rfl⟩
theorem z_inlt {x : Int32} {N : Nat} (hN : N < 2 ^ 31) (h0 : 0 ≤ x) (h1 : x ≤ nI N - 1) : ∃ j : Nat, j < N ∧ x = nI j := by
  cases N with
  | zero =>
    have e : nI 0 - 1 = (-1 : Int32) := by decide
    rw [e] at h1
    have := Int32.le_trans h0 h1
    exact absurd this (by decide)
  | succ k =>
    rw [nI_pred] at h1
    obtain ⟨j, hj, rfl⟩ := z_in (by omega) h0 h1
    exact ⟨j, by omega, rfl⟩
theorem z_le_pred {j N : Nat} (hN : N < 2 ^ 31) (h : j < N) : nI j ≤ nI N - 1 := by
  cases N with
  | zero => omega
  | succ k =>
    rw [nI_pred]
    exact (nI_leI (by omega) (by omega)).mpr (by omega)
theorem z_pos {j : Nat} (h : j < 2 ^ 31) : (0 : Int32) ≤ nI j := nI_pos' h
/-- what both programs ask of an index: is x one of 0 .. N - 1 -/
theorem z_ix_iff {x : Int32} {N : Nat} (hN : N < 2 ^ 31) : (0 ≤ x ∧ x ≤ nI N - 1) ↔ ∃ j : Nat, j < N ∧ x = nI j := by
  constructor
  · intro h
    exact z_inlt hN h.1 h.2
  · rintro ⟨j, hj, rfl⟩
    exact ⟨z_pos (by omega), z_le_pred hN hj⟩
/-- the tables -/
def zT (m : Nat → Nat → Int32) : Prop := ∀ a j, a < 6 → m a j = (ax_tab.getD a []).getD j 0
def zin (k : Nat) : Nat := [0, 1, 1, 1, 1, 1, 3].getD k 0
def zpn (k : Nat) : Nat := [1, 3, 3, 0, 1, 4, 0].getD k 0
def znn (k : Nat) : Nat := [1, 1, 1, 0, 1, 4, 0].getD k 0
def zlo (k p : Nat) : Int32 := (ax_tab.getD 3 []).getD (k * 4 + p) 0
def zhi (k p : Nat) : Int32 := (ax_tab.getD 4 []).getD (k * 4 + p) 0
def zaf (k p : Nat) : Int32 := (ax_tab.getD 5 []).getD (k * 4 + p) 0
section LEAF
variable {n a b i j k : Nat} {m : Nat → Nat → Int32} {p : Nat → Nat} {x y : Int32}
theorem f_entry (hT : zT m) (ha : a < 6) (hj : j < (zs_sh n a).2) (hl : (zs_sh n a).2 < 2 ^ 31) : fn_X2_entry (some a) (nI j) (zC n m p) = some ((ax_tab.getD a []).getD j 0, zC n m p) := by
  have hs : (zs_sh n a).1 = 9 := by
    have hc : a = 0 ∨ a = 1 ∨ a = 2 ∨ a = 3 ∨ a = 4 ∨ a = 5 := by omega
    rcases hc with rfl | rfl | rfl | rfl | rfl | rfl <;> rfl
  unfold fn_X2_entry
  rw [if_neg (nI_pos (by omega)), z_ln (by omega) hs]
  simp only [Option.bind_some]
  rw [if_neg (nI_ge hj hl), z_al (by omega) hs hj (by omega), hT a j ha]
  rfl
theorem f_inputs (hT : zT m) (hk : k < 7) : fn_X2_inputs (nI k) (zC n m p) = some (nI (zin k), zC n m p) := by
  unfold fn_X2_inputs
  rw [f_entry hT (by omega) (by exact hk) (by show 7 < _; omega)]
  have hc : k = 0 ∨ k = 1 ∨ k = 2 ∨ k = 3 ∨ k = 4 ∨ k = 5 ∨ k = 6 := by omega
  rcases hc with rfl | rfl | rfl | rfl | rfl | rfl | rfl <;> rfl
theorem f_parameters (hT : zT m) (hk : k < 7) : fn_X2_parameters (nI k) (zC n m p) = some (nI (zpn k), zC n m p) := by
  unfold fn_X2_parameters
  rw [f_entry hT (by omega) (by exact hk) (by show 7 < _; omega)]
  have hc : k = 0 ∨ k = 1 ∨ k = 2 ∨ k = 3 ∨ k = 4 ∨ k = 5 ∨ k = 6 := by omega
  rcases hc with rfl | rfl | rfl | rfl | rfl | rfl | rfl <;> rfl
theorem f_numbers (hT : zT m) (hk : k < 7) : fn_X2_numbers (nI k) (zC n m p) = some (nI (znn k), zC n m p) := by
  unfold fn_X2_numbers
  rw [f_entry hT (by omega) (by exact hk) (by show 7 < _; omega)]
  have hc : k = 0 ∨ k = 1 ∨ k = 2 ∨ k = 3 ∨ k = 4 ∨ k = 5 ∨ k = 6 := by omega
  rcases hc with rfl | rfl | rfl | rfl | rfl | rfl | rfl <;> rfl
theorem z_k4 (hk : k < 7) (hi : i < 4) : nI k * 4 + nI i = nI (k * 4 + i) := by
  have e : (4 : Int32) = nI 4 := rfl
  rw [e, pk_mul, nI_add]
theorem f_lowest (hT : zT m) (hk : k < 7) (hi : i < 4) : fn_X2_lowest (nI k) (nI i) (zC n m p) = some (zlo k i, zC n m p) := by
  unfold fn_X2_lowest
  rw [z_k4 hk hi, f_entry hT (by omega) (by show _ < 28; omega) (by show 28 < _; omega)]
  rfl
theorem f_highest (hT : zT m) (hk : k < 7) (hi : i < 4) : fn_X2_highest (nI k) (nI i) (zC n m p) = some (zhi k i, zC n m p) := by
  unfold fn_X2_highest
  rw [z_k4 hk hi, f_entry hT (by omega) (by show _ < 28; omega) (by show 28 < _; omega)]
  rfl
theorem f_atFirst (hT : zT m) (hk : k < 7) (hi : i < 4) : fn_X2_atFirst (nI k) (nI i) (zC n m p) = some (zaf k i, zC n m p) := by
  unfold fn_X2_atFirst
  rw [z_k4 hk hi, f_entry hT (by omega) (by show _ < 28; omega) (by show 28 < _; omega)]
  rfl
/-- the set of a node's inputs -/
def zis (v : Nat → Int32) : Nat → Int32
  | 0 => 0
  | j + 1 => if v j = -1005 then zis v j else zis v j ||| (1 <<< (v j &&& 31))
theorem f_inputSet_lp (hb : zNB b) : ∀ (d j f : Nat), j + d = 3 → d < f → fb_X3_inputSet_4 f (some b) (zis (m (b + 1)) j) (nI j) (zC n m p) = some (zis (m (b + 1)) 3, zC n m p) := by
  obtain ⟨h9, hlt, s0, s1, s2, r3, r4⟩ := zNB_ok (n := n) (p := p) hb
  intro d
  induction d with
  | zero =>
    intro j f hj hf
    obtain ⟨f, rfl⟩ : ∃ k, f = k + 1 := ⟨f - 1, by omega⟩
    obtain rfl : j = 3 := by omega
    unfold fb_X3_inputSet_4
    rw [if_pos (by decide)]
  | succ d ih =>
    intro j f hj hf
    obtain ⟨f, rfl⟩ : ∃ k, f = k + 1 := ⟨f - 1, by omega⟩
    unfold fb_X3_inputSet_4
    have e3 : ¬ (3 : Int32) ≤ nI j := nI_ge (b := 3) (by omega) (by omega)
    rw [if_neg e3, z_gr (by omega) (by rw [s0]), r3]
    simp only [Option.bind_some]
    rw [z_al (by omega) (by rw [s1]) (by rw [s1]; show j < 3; omega) (by omega)]
    simp only [Option.bind_some]
    have ihj := ih (j + 1) f (by omega) (by omega)
    simp only [zis] at ihj
    rw [show nI j + 1 = nI (j + 1) from nI_1 j]
    split
    · rename_i hc
      rw [if_pos hc] at ihj
      exact ihj
    · rename_i hc
      rw [if_neg hc] at ihj
      exact ihj
theorem f_inputSet (hb : zNB b) : fn_X3_inputSet (some b) (zC n m p) = some (zis (m (b + 1)) 3, zC n m p) := f_inputSet_lp hb 3 0 10000 rfl (by omega)
end LEAF
