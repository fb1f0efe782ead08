/-! ===== the law's small functions; what is counted of pictures ===== -/
section LF
variable {n N i j k f U0 x : Nat} {m : Nat → Nat → Int32} {p : Nat → Nat} {u v : Nat → Int32} {V : Nat → Nat → Int32} {C : zSt}
theorem l_in_all : ∀ k, k < 7 → (if nI k = 0 then (0 : Int32) else if nI k = 6 then 3 else 1) = nI (zin k) := by decide +kernel
theorem l_inputs (hk : k < 7) (s : ax_S) : fn_L_inputs (nI k) s = some (nI (zin k), s) := by
  rw [← l_in_all k hk]
  unfold fn_L_inputs
  split
  · rfl
  · split <;> rfl
theorem l_par_all : ∀ k, k < 7 → (if nI k = 0 then (1 : Int32) else if nI k = 4 then 1 else if 3 ≤ nI k then (if nI k = 5 then 4 else 0) else 3) = nI (zpn k) := by decide +kernel
theorem l_parameters (hk : k < 7) (s : ax_S) : fn_L_parameters (nI k) s = some (nI (zpn k), s) := by
  rw [← l_par_all k hk]
  unfold fn_L_parameters
  split
  · rfl
  · split
    · rfl
    · split
      · split <;> rfl
      · rfl
theorem l_high_all : ∀ k, k < 7 → ∀ q, q < zpn k → (if nI k = 0 then (999 : Int32) else if nI k = 1 then 64 else if nI k = 2 then 255 else if nI k = 4 then 3 else if nI q = 0 then 2 else if nI q = 3 then 99 else 255) = zhi k q := by decide +kernel
theorem l_high {q : Nat} (hk : k < 7) (hq : q < zpn k) (s : ax_S) : fn_L_high (nI k) (nI q) s = some (zhi k q, s) := by
  rw [← l_high_all k hk q hq]
  unfold fn_L_high
  split
  · rfl
  · split
    · rfl
    · split
      · rfl
      · split
        · rfl
        · split
          · rfl
          · split <;> rfl
theorem zlo_255 : ∀ k, k < 7 → ∀ q, q < zpn k → (-255 : Int32) ≤ zlo k q := by decide +kernel
/-- a cell: some number -/
theorem l_cell (hn : n < 2 ^ 31) (hj : j < 2 ^ 31) : ∃ z, z < 2 ^ 31 ∧ fn_L_cell (some 6) (nI j) (zC n m p) = some (nI z, zC n m p) := by
  unfold fn_L_cell
  rw [z_ln (t := 9) (a := 6) (by omega) rfl, Option.bind_some, show (zs_sh n 6).2 = n from rfl]
  by_cases h : n ≤ j
  · rw [if_pos (nI_le h hj)]
    obtain ⟨z, hz, e⟩ := pk_andE ((15556387 : Int32) * nI j + 431) (m := 2147483647) 31 (by decide)
    exact ⟨z, hz, by rw [e]⟩
  · rw [if_neg (nI_ge (by omega) hn), z_al (t := 9) (a := 6) (by omega) rfl (by show j < n; omega) hj, Option.bind_some]
    obtain ⟨z, hz, e⟩ := pk_andE (m 6 j) (m := 2147483647) 31 (by decide)
    exact ⟨z, hz, by rw [e]⟩
/-- differences of pictures -/
theorem zab_b {a b : Nat} (ha : a ≤ 255) (hb : b ≤ 255) : ∃ c, c ≤ 255 ∧ zab (nI a - nI b) = nI c := by
  by_cases h : b ≤ a
  · refine ⟨a - b, by omega, ?_⟩
    unfold zab
    rw [nI_sub h, if_pos (z_pos (by omega))]
  · refine ⟨b - a, by omega, ?_⟩
    have e : nI a - nI b = -nI (b - a) := by
      rw [← nI_sub (show a ≤ b by omega), Int32.neg_sub]
    have hn : ¬ (0 : Int32) ≤ -nI (b - a) := by
      rw [Int32.le_iff_toInt_le, z_negle (by omega)]
      have : (0 : Int32).toInt = 0 := rfl
      omega
    unfold zab
    rw [e, if_neg hn, Int32.neg_neg]
theorem zgd_b : ∀ (d i c : Nat), i + d = 96 → zwb u → zwb v → c ≤ 255 → ∃ e, e ≤ 255 ∧ zgd u v d i (nI c) = nI e := by
  intro d
  induction d with
  | zero => intro i c _ _ _ hc; exact ⟨c, hc, rfl⟩
  | succ d ih =>
    intro i c hi hu hv hc
    obtain ⟨a, ha, ea⟩ := hu i (by omega)
    obtain ⟨b, hb, eb⟩ := hv i (by omega)
    obtain ⟨c', hc', ec⟩ := zab_b ha hb
    unfold zgd
    rw [ea, eb, ec]
    split
    · exact ih (i + 1) c' (by omega) hu hv hc'
    · exact ih (i + 1) c (by omega) hu hv hc
theorem zgd_self : ∀ (d i : Nat), zgd u u d i 0 = 0 := by
  intro d
  induction d with
  | zero => intro i; rfl
  | succ d ih =>
    intro i
    unfold zgd
    rw [show u i - u i = 0 from Int32.sub_self _, if_neg (by decide)]
    exact ih (i + 1)
end LF
