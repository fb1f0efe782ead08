/-! ===== the law: what is refused ===== -/
section REF
variable {n N L B : Nat} {m : Nat → Nat → Int32} {p T : Nat → Nat} {V : Nat → Nat → Int32} {C : zSt} {S : Nat → Option (Nat × (Nat → Nat → Int32))}
theorem lg_same (h : Int64) : lg_cmp h h = 0 := by
  unfold lg_cmp
  simp
theorem z_noN (hN : N ≤ 12) : ¬ ((0 : Int32) ≤ nI N ∧ nI N ≤ nI N - 1) := fun q => by
  obtain ⟨j, hj, e⟩ := z_inlt (N := N) (by omega) q.1 q.2
  have := nI_inj (by omega) (by omega) e
  omega
theorem z_no1 (N : Nat) : ¬ ((0 : Int32) ≤ -1 ∧ (-1 : Int32) ≤ nI N - 1) := fun q => absurd q.1 (by decide)
theorem l_refuses (h1 : zCls m p ((N, V), C, (L, T), S)) (h3 : zAbs B ((N, V), C, (L, T), S)) (hN : 1 ≤ N) : fn_L_refuses (some 9) (nI N) (zC n m p) = some (1, zC n m p) := by
  have hOK := h3.1
  have hN12 := hOK.1
  obtain ⟨k, hk, hv⟩ := z_kind hOK (show 0 < N by omega)
  obtain ⟨z3, z4⟩ := zin_lt k hk
  have hNo := z_noN hN12
  have i3 : ¬ ((0 : Int32) ≤ 3 ∧ (3 : Int32) ≤ nI (zin k) - 1) := fun q => by
    obtain ⟨j, hj, e⟩ := z_inlt (N := zin k) (by omega) q.1 q.2
    have := nI_inj (a := 3) (by omega) (by omega) e
    omega
  have i4 : ¬ ((0 : Int32) ≤ 4 ∧ (4 : Int32) ≤ nI (zpn k) - 1) := fun q => by
    obtain ⟨j, hj, e⟩ := z_inlt (N := zpn k) (by omega) q.1 q.2
    have := nI_inj (a := 4) (by omega) (by omega) e
    omega
  have x0 : (0 : Int32) ≤ 0 ∧ (0 : Int32) ≤ nI N - 1 := ⟨by decide, z_le_pred (j := 0) (by omega) (by omega)⟩
  have c1 := k_connect_no2 (n := n) (z := 0) (y := 3) h1 h3 (show 0 < N by omega) hk hv i3
  have c2 := k_connect_no2 (n := n) (z := -1005) (y := -1) h1 h3 (show 0 < N by omega) hk hv (z_no1 _)
  have c3 := k_set_no2 (n := n) (z := 0) (y := 4) h1 h3 (show 0 < N by omega) hk hv i4
  have c4 := k_node_no (n := n) (y := -1) h1 h3 (show 0 < N by omega) (by decide)
  have c5 := k_parameter_no (n := n) (y := 4) h1 h3 (show 0 < N by omega) hk hv i4
  rw [nI_0] at c1 c2 c3 c4 c5
  unfold fn_L_refuses fi_L_refuses
  rw [z_gi9, Option.bind_some, k_checksum h1 h3, Option.bind_some]
  dsimp only
  rw [z_gi9, Option.bind_some, k_addNode_no (by decide), Option.bind_some]
  dsimp only
  rw [if_pos rfl, z_gi9, Option.bind_some, k_connect_no h1 hNo, Option.bind_some]
  dsimp only
  rw [if_pos rfl, z_gi9, Option.bind_some, c1, Option.bind_some]
  dsimp only
  rw [if_pos rfl, z_gi9, Option.bind_some, c2, Option.bind_some]
  dsimp only
  rw [if_pos rfl, z_gi9, Option.bind_some, k_set_no h1 hNo, Option.bind_some]
  dsimp only
  rw [if_pos rfl, z_gi9, Option.bind_some, c3, Option.bind_some]
  dsimp only
  rw [if_pos rfl, z_gi9, Option.bind_some, k_setRange_no h1 (z_no1 N), Option.bind_some]
  dsimp only
  rw [if_pos rfl, z_gi9, Option.bind_some, k_setRange_no2 h1 x0 (by decide), Option.bind_some]
  dsimp only
  rw [if_pos rfl, z_gi9, Option.bind_some, c4, Option.bind_some]
  dsimp only
  rw [if_pos rfl, z_gi9, Option.bind_some, k_input_no2 h1 h3 hNo, Option.bind_some]
  dsimp only
  rw [if_pos rfl, z_gi9, Option.bind_some, c5, Option.bind_some]
  dsimp only
  rw [if_pos rfl]
  unfold fb_L_refuses_150
  rw [if_neg (by decide), z_gi9, Option.bind_some, k_value_no h1 (fun q => absurd q.2.1 (by decide)), Option.bind_some]
  dsimp only
  rw [if_pos rfl, z_gi9, Option.bind_some, k_value_no h1 (fun q => absurd q.2.2.1 (by decide)), Option.bind_some]
  dsimp only
  rw [if_pos rfl, z_gi9, Option.bind_some, k_value_no h1 (fun q => absurd q.2.2.2.1 (by decide)), Option.bind_some]
  dsimp only
  rw [if_pos rfl, z_gi9, Option.bind_some, k_value_no h1 (fun q => absurd q.2.2.2.2 (by decide)), Option.bind_some]
  dsimp only
  rw [if_pos rfl, z_gi9, Option.bind_some, k_scope_no h1 hNo, Option.bind_some]
  dsimp only
  rw [if_pos rfl, z_gi9, Option.bind_some, k_sum_no h1 (by decide), Option.bind_some]
  dsimp only
  rw [if_pos rfl, z_gi9, Option.bind_some, k_compare_no h1 hNo, Option.bind_some]
  dsimp only
  rw [if_pos rfl, z_gi9, Option.bind_some, k_setRoom_no (by decide), Option.bind_some]
  dsimp only
  rw [if_pos rfl, z_gi9, Option.bind_some, k_isCached_no h1 (z_no1 N), Option.bind_some]
  dsimp only
  rw [if_pos rfl, z_gi9, Option.bind_some, k_count_no (by decide), Option.bind_some]
  dsimp only
  rw [if_pos rfl, z_gi9, Option.bind_some, k_append_no (by decide), Option.bind_some]
  dsimp only
  rw [if_pos rfl, z_gi9, Option.bind_some, k_save_no (by decide), Option.bind_some]
  dsimp only
  rw [if_pos rfl, z_gi9, Option.bind_some, k_restore_no (by decide), Option.bind_some]
  dsimp only
  rw [if_pos rfl]
  unfold fb_L_refuses_331
  rw [if_neg (by decide), z_gi9, Option.bind_some, k_checksum h1 h3, Option.bind_some]
  dsimp only
  rw [if_pos (lg_same _), zbz1]
end REF
