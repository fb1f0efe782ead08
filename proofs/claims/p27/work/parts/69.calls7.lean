/-! ===== calls: scope, sum, compare ===== -/
section CALLS8
variable {n N L B i f U0 : Nat} {m m' : Nat → Nat → Int32} {p X Y c T : Nat → Nat} {V : Nat → Nat → Int32} {C : zSt} {E K : Nat → Nat → Nat} {W : Nat → Nat → Nat → Int32} {x y z v w : Int32} {S : Nat → Option (Nat × (Nat → Nat → Int32))}
theorem f_scope_no (hg : m 10 1 = nI N) (h : ¬ ((0 ≤ x ∧ x ≤ nI N - 1) ∧ (0 ≤ y ∧ y ≤ 99) ∧ (0 ≤ z ∧ z ≤ 2) ∧ (0 ≤ v ∧ v ≤ 15))) : fn_X9_scope (some 9) x y z v (zC n m p) = some (-1001, zC n m p) := by
  unfold fn_X9_scope
  rw [f_isIn, Option.bind_some]
  dsimp only
  rw [z_cr, show zR p 9 0 = some 10 from rfl, Option.bind_some, z_gs, Option.bind_some, f_has z10 hg, Option.bind_some]
  by_cases h1 : 0 ≤ x ∧ x ≤ nI N - 1
  · rw [zB_t h1]
    dsimp only
    rw [if_neg (by decide), f_isFrame, Option.bind_some]
    by_cases h2 : 0 ≤ y ∧ y ≤ 99
    · rw [zB_t h2]
      dsimp only
      rw [if_neg (by decide), f_isChannel, Option.bind_some]
      by_cases h3 : 0 ≤ z ∧ z ≤ 2
      · rw [zB_t h3]
        dsimp only
        rw [if_neg (by decide), if_pos (zB_f (fun q => h ⟨h1, h2, h3, q⟩))]
      · rw [zB_f h3]
        dsimp only
        rw [if_pos rfl]
    · rw [zB_f h2]
      dsimp only
      rw [if_pos rfl]
  · rw [zB_f h1]
    dsimp only
    rw [if_pos rfl]
def zsm4 (v : Int32) (b : Nat) (u : Nat → Int32) : Int32 := if v = 0 then zfo zgL u b 32 0 255 else if v = 1 then zfo zgG u b 32 0 0 else if v = 2 then zfo zgT u b 32 0 0 else zdf u b 32 0 0
theorem f_sum_no (hg : m 10 1 = nI N) (h : ¬ ((0 ≤ x ∧ x ≤ nI N - 1) ∧ (0 ≤ y ∧ y ≤ 99) ∧ (0 ≤ z ∧ z ≤ 2))) : fn_X9_sum (some 9) x y z v (zC n m p) = some (-1001, zC n m p) := by
  unfold fn_X9_sum
  rw [z_cr, show zR p 9 0 = some 10 from rfl, Option.bind_some, z_gs, Option.bind_some, f_has z10 hg, Option.bind_some]
  by_cases h1 : 0 ≤ x ∧ x ≤ nI N - 1
  · rw [zB_t h1]
    dsimp only
    rw [if_neg (by decide), f_isFrame, Option.bind_some]
    by_cases h2 : 0 ≤ y ∧ y ≤ 99
    · rw [zB_t h2]
      dsimp only
      rw [if_neg (by decide), f_isChannel, Option.bind_some, zB_f (fun q => h ⟨h1, h2, q⟩)]
      dsimp only
      rw [if_pos rfl]
    · rw [zB_f h2]
      dsimp only
      rw [if_pos rfl]
  · rw [zB_f h1]
    dsimp only
    rw [if_pos rfl]
theorem f_cmp_no (hg : m 10 1 = nI N) (h : ¬ ((0 ≤ x ∧ x ≤ nI N - 1) ∧ (0 ≤ y ∧ y ≤ nI N - 1) ∧ (0 ≤ z ∧ z ≤ 99))) : fn_X9_compare (some 9) x y z (zC n m p) = some (-1001, zC n m p) := by
  unfold fn_X9_compare
  rw [z_cr, show zR p 9 0 = some 10 from rfl, Option.bind_some, z_gs, Option.bind_some, f_has z10 hg, Option.bind_some]
  by_cases h1 : 0 ≤ x ∧ x ≤ nI N - 1
  · rw [zB_t h1]
    dsimp only
    rw [if_neg (by decide), z_cr, show zR p 9 0 = some 10 from rfl, Option.bind_some, z_gs, Option.bind_some, f_has z10 hg, Option.bind_some]
    by_cases h2 : 0 ≤ y ∧ y ≤ nI N - 1
    · rw [zB_t h2]
      dsimp only
      rw [if_neg (by decide), f_isFrame, Option.bind_some, zB_f (fun q => h ⟨h1, h2, q⟩)]
      dsimp only
      rw [if_pos rfl]
    · rw [zB_f h2]
      dsimp only
      rw [if_pos rfl]
  · rw [zB_f h1]
    dsimp only
    rw [if_pos rfl]
end CALLS8
