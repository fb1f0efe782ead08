/-! ===== the law's loop ===== -/
def zLw (xs : Nat → Int32) (m : Nat → Nat → Int32) (p : Nat → Nat) (B : Nat) : Prop := m 6 = xs ∧ (∀ j, j < 8 → m 7 j = ax_chars.getD j 0) ∧ ∃ A, zCls m p A ∧ zMdl m A ∧ zAbs B A
section LAW
variable {n i B : Nat} {m : Nat → Nat → Int32} {p : Nat → Nat} {xs : Nat → Int32}
theorem zLw_step {α : Type} {F G : ax_S → Option (α × ax_S)} (h : zLw xs m p B) (hB : B < 2 ^ 30) (hz : zop7 n F G) : ∃ r m1 p1 m2, F (zC n m p) = some (r, zC n m1 p1) ∧ G (zC n m1 p1) = some (r, zC n m2 p1) ∧ m1 6 = xs ∧ zLw xs m2 p1 (B + 100) := by
  obtain ⟨h6, h7, A, h1, h2, h3⟩ := h
  obtain ⟨r, m1, p1, m2, A', a1, a2, a3, a4, a5, a6, a7⟩ := hz m p A B h7 h1 h2 h3 hB
  exact ⟨r, m1, p1, m2, a1, a2, by rw [a3 6 (by omega)]; exact h6, by rw [a4 6 (by omega), a3 6 (by omega)]; exact h6, fun j hj => by rw [a4 7 (by omega), a3 7 (by omega)]; exact h7 j hj, A', zCls_fr a5 a4, a6, a7⟩
theorem zcmp_rf (r : Int64) : lg_cmp r r = 0 := by simp [lg_cmp]
theorem z_sc (h : m 6 = xs) {j : Nat} (hj : j < n) (hn : n ≤ 3072) : ax_al (zC n m p) 9 (some 6) (nI j) = some (xs j) := by
  rw [z_al (a := 6) (t := 9) (by omega) rfl (by exact hj) (by omega), h]

theorem z_sc1 (h : m 6 = xs) (hj : i + 1 < n) (hn : n ≤ 3072) : ax_al (zC n m p) 9 (some 6) (nI i + 1) = some (xs (i + 1)) := by
  rw [show nI i + 1 = nI (i + 1) from nI_add i 1, z_sc h hj hn]

theorem z_sc2 (h : m 6 = xs) (hj : i + 2 < n) (hn : n ≤ 3072) : ax_al (zC n m p) 9 (some 6) (nI i + 2) = some (xs (i + 2)) := by
  rw [show nI i + 2 = nI (i + 2) from nI_add i 2, z_sc h hj hn]

theorem z_sc3 (h : m 6 = xs) (hj : i + 3 < n) (hn : n ≤ 3072) : ax_al (zC n m p) 9 (some 6) (nI i + 3) = some (xs (i + 3)) := by
  rw [show nI i + 3 = nI (i + 3) from nI_add i 3, z_sc h hj hn]

theorem z_sc4 (h : m 6 = xs) (hj : i + 4 < n) (hn : n ≤ 3072) : ax_al (zC n m p) 9 (some 6) (nI i + 4) = some (xs (i + 4)) := by
  rw [show nI i + 4 = nI (i + 4) from nI_add i 4, z_sc h hj hn]

theorem z_sc5 (h : m 6 = xs) (hj : i + 5 < n) (hn : n ≤ 3072) : ax_al (zC n m p) 9 (some 6) (nI i + 5) = some (xs (i + 5)) := by
  rw [show nI i + 5 = nI (i + 5) from nI_add i 5, z_sc h hj hn]

theorem z_ln6 : ax_ln (zC n m p) 9 (some 6) = some (nI n) := z_ln (a := 6) (t := 9) (by omega) rfl
theorem z_len6 (hn : n ≤ 3072) (hi : i ≤ 3078) : (nI n - 6 < nI i) ↔ n < i + 6 := by
  by_cases h6 : 6 ≤ n
  · rw [show nI n - 6 = nI (n - 6) from nI_sub (b := 6) h6, nI_ltI (by omega) (by omega)]
    omega
  · have hneg : nI n - 6 < 0 := by
      have hc : n = 0 ∨ n = 1 ∨ n = 2 ∨ n = 3 ∨ n = 4 ∨ n = 5 := by omega
      rcases hc with rfl | rfl | rfl | rfl | rfl | rfl <;> decide
    exact ⟨fun _ => by omega, fun _ => Int32.lt_of_lt_of_le hneg (z_pos (by omega))⟩
set_option maxHeartbeats 4000000 in
set_option maxRecDepth 100000 in
theorem f_law_lp (hn : n ≤ 3072) : ∀ (d i f : Nat) (m : Nat → Nat → Int32) (p : Nat → Nat) (B : Nat), n < i + 6 * d + 6 → i ≤ n → d < f → B + 100 * d < 2 ^ 30 → zLw xs m p B → ∃ s, fb_L_law_18 f (some 6) (some 9) (some 275) (nI i) (zC n m p) = some (1, s) := by
  intro d
  induction d with
  | zero =>
    intro i f m p B hd hin hf hB h
    obtain ⟨f, rfl⟩ : ∃ k, f = k + 1 := ⟨f - 1, by omega⟩
    refine ⟨zC n m p, ?_⟩
    unfold fb_L_law_18
    rw [z_ln6, Option.bind_some, if_pos ((z_len6 (i := i) hn (by omega)).mpr (by omega))]
  | succ d ih =>
    intro i f m p B hd hin hf hB h
    obtain ⟨f, rfl⟩ : ∃ k, f = k + 1 := ⟨f - 1, by omega⟩
    unfold fb_L_law_18
    rw [z_ln6, Option.bind_some]
    by_cases hst : n < i + 6
    · exact ⟨zC n m p, if_pos ((z_len6 (i := i) hn (by omega)).mpr hst)⟩
    · have hnext : ∀ (m2 : Nat → Nat → Int32) (p1 : Nat → Nat), zLw xs m2 p1 (B + 100) → ∃ s, fb_L_law_18 f (some 6) (some 9) (some 275) (nI i + 6) (zC n m2 p1) = some (1, s) := fun m2 p1 h2 => by
        rw [show nI i + 6 = nI (i + 6) from nI_add i 6]
        exact ih (i + 6) f m2 p1 (B + 100) (by omega) (by omega) (by omega) (by omega) h2
      have hB' : B < 2 ^ 30 := by omega
      rw [if_neg (fun q => hst ((z_len6 (i := i) hn (by omega)).mp q)), z_sc h.1 (by omega) hn, Option.bind_some]
      unfold ax_bd
      dsimp only
      generalize xs i &&& 31 = v

      by_cases hv0 : v = 0
      · obtain ⟨r, m1, p1, m2, e1, e2, e3, e4⟩ := zLw_step (n := n) h hB' (zop7_of c_clear)
        rw [if_pos hv0, z_gi9, Option.bind_some, e1, Option.bind_some]
        dsimp only
        rw [z_mo 0, Option.bind_some, e2, Option.bind_some]
        dsimp only
        rw [if_pos rfl]
        exact hnext m2 p1 e4
      rw [if_neg hv0]
      by_cases hv1 : v = 1
      · obtain ⟨r, m1, p1, m2, e1, e2, e3, e4⟩ := zLw_step (n := n) h hB' (zop7_of (c_addNode (x := xs (i + 1))))
        rw [if_pos hv1, z_sc1 h.1 (by omega) hn, Option.bind_some, z_gi9, Option.bind_some, e1, Option.bind_some]
        dsimp only
        rw [z_sc1 e3 (by omega) hn, Option.bind_some, z_mo 0, Option.bind_some, e2, Option.bind_some]
        dsimp only
        rw [if_pos rfl]
        exact hnext m2 p1 e4
      rw [if_neg hv1]
      by_cases hv2 : v = 2
      · obtain ⟨r, m1, p1, m2, e1, e2, e3, e4⟩ := zLw_step (n := n) h hB' (zop7_of (c_connect (x := xs (i + 1)) (y := xs (i + 2)) (z := xs (i + 3))))
        rw [if_pos hv2, z_sc1 h.1 (by omega) hn, Option.bind_some, z_sc2 h.1 (by omega) hn, Option.bind_some, z_sc3 h.1 (by omega) hn, Option.bind_some, z_gi9, Option.bind_some, e1, Option.bind_some]
        dsimp only
        rw [z_sc1 e3 (by omega) hn, Option.bind_some, z_sc2 e3 (by omega) hn, Option.bind_some, z_sc3 e3 (by omega) hn, Option.bind_some, z_mo 0, Option.bind_some, e2, Option.bind_some]
        dsimp only
        rw [if_pos rfl]
        exact hnext m2 p1 e4
      rw [if_neg hv2]
      by_cases hv3 : v = 3
      · obtain ⟨r, m1, p1, m2, e1, e2, e3, e4⟩ := zLw_step (n := n) h hB' (zop7_of (c_set (x := xs (i + 1)) (y := xs (i + 2)) (z := xs (i + 3))))
        rw [if_pos hv3, z_sc1 h.1 (by omega) hn, Option.bind_some, z_sc2 h.1 (by omega) hn, Option.bind_some, z_sc3 h.1 (by omega) hn, Option.bind_some, z_gi9, Option.bind_some, e1, Option.bind_some]
        dsimp only
        rw [z_sc1 e3 (by omega) hn, Option.bind_some, z_sc2 e3 (by omega) hn, Option.bind_some, z_sc3 e3 (by omega) hn, Option.bind_some, z_mo 0, Option.bind_some, e2, Option.bind_some]
        dsimp only
        rw [if_pos rfl]
        exact hnext m2 p1 e4
      rw [if_neg hv3]
      by_cases hv4 : v = 4
      · obtain ⟨r, m1, p1, m2, e1, e2, e3, e4⟩ := zLw_step (n := n) h hB' (zop7_of (c_setRange (x := xs (i + 1)) (y := xs (i + 2)) (z := xs (i + 3))))
        rw [if_pos hv4, z_sc1 h.1 (by omega) hn, Option.bind_some, z_sc2 h.1 (by omega) hn, Option.bind_some, z_sc3 h.1 (by omega) hn, Option.bind_some, z_gi9, Option.bind_some, e1, Option.bind_some]
        dsimp only
        rw [z_sc1 e3 (by omega) hn, Option.bind_some, z_sc2 e3 (by omega) hn, Option.bind_some, z_sc3 e3 (by omega) hn, Option.bind_some, z_mo 0, Option.bind_some, e2, Option.bind_some]
        dsimp only
        rw [if_pos rfl]
        exact hnext m2 p1 e4
      rw [if_neg hv4]
      by_cases hv5 : v = 5
      · obtain ⟨r, m1, p1, m2, e1, e2, e3, e4⟩ := zLw_step (n := n) h hB' (zop7_of c_nodes)
        rw [if_pos hv5, z_gi9, Option.bind_some, e1, Option.bind_some]
        dsimp only
        rw [z_mo 0, Option.bind_some, e2, Option.bind_some]
        dsimp only
        rw [if_pos rfl]
        exact hnext m2 p1 e4
      rw [if_neg hv5]
      by_cases hv6 : v = 6
      · obtain ⟨r, m1, p1, m2, e1, e2, e3, e4⟩ := zLw_step (n := n) h hB' (zop7_of (c_node (x := xs (i + 1)) (y := xs (i + 2))))
        rw [if_pos hv6, z_sc1 h.1 (by omega) hn, Option.bind_some, z_sc2 h.1 (by omega) hn, Option.bind_some, z_gi9, Option.bind_some, e1, Option.bind_some]
        dsimp only
        rw [z_sc1 e3 (by omega) hn, Option.bind_some, z_sc2 e3 (by omega) hn, Option.bind_some, z_mo 0, Option.bind_some, e2, Option.bind_some]
        dsimp only
        rw [if_pos rfl]
        exact hnext m2 p1 e4
      rw [if_neg hv6]
      by_cases hv7 : v = 7
      · obtain ⟨r, m1, p1, m2, e1, e2, e3, e4⟩ := zLw_step (n := n) h hB' (zop7_of (c_input (x := xs (i + 1)) (y := xs (i + 2))))
        rw [if_pos hv7, z_sc1 h.1 (by omega) hn, Option.bind_some, z_sc2 h.1 (by omega) hn, Option.bind_some, z_gi9, Option.bind_some, e1, Option.bind_some]
        dsimp only
        rw [z_sc1 e3 (by omega) hn, Option.bind_some, z_sc2 e3 (by omega) hn, Option.bind_some, z_mo 0, Option.bind_some, e2, Option.bind_some]
        dsimp only
        rw [if_pos rfl]
        exact hnext m2 p1 e4
      rw [if_neg hv7]
      by_cases hv8 : v = 8
      · obtain ⟨r, m1, p1, m2, e1, e2, e3, e4⟩ := zLw_step (n := n) h hB' (zop7_of (c_parameter (x := xs (i + 1)) (y := xs (i + 2))))
        rw [if_pos hv8, z_sc1 h.1 (by omega) hn, Option.bind_some, z_sc2 h.1 (by omega) hn, Option.bind_some, z_gi9, Option.bind_some, e1, Option.bind_some]
        dsimp only
        rw [z_sc1 e3 (by omega) hn, Option.bind_some, z_sc2 e3 (by omega) hn, Option.bind_some, z_mo 0, Option.bind_some, e2, Option.bind_some]
        dsimp only
        rw [if_pos rfl]
        exact hnext m2 p1 e4
      rw [if_neg hv8]
      by_cases hv9 : v = 9
      · obtain ⟨r, m1, p1, m2, e1, e2, e3, e4⟩ := zLw_step (n := n) h hB' (zop7_of (c_value (x := xs (i + 1)) (y := xs (i + 2)) (z := xs (i + 3)) (v := xs (i + 4)) (w := xs (i + 5))))
        rw [if_pos hv9, z_sc1 h.1 (by omega) hn, Option.bind_some, z_sc2 h.1 (by omega) hn, Option.bind_some, z_sc3 h.1 (by omega) hn, Option.bind_some, z_sc4 h.1 (by omega) hn, Option.bind_some, z_sc5 h.1 (by omega) hn, Option.bind_some, z_gi9, Option.bind_some, e1, Option.bind_some]
        dsimp only
        rw [z_sc1 e3 (by omega) hn, Option.bind_some, z_sc2 e3 (by omega) hn, Option.bind_some, z_sc3 e3 (by omega) hn, Option.bind_some, z_sc4 e3 (by omega) hn, Option.bind_some, z_sc5 e3 (by omega) hn, Option.bind_some, z_mo 0, Option.bind_some, e2, Option.bind_some]
        dsimp only
        rw [if_pos rfl]
        exact hnext m2 p1 e4
      rw [if_neg hv9]
      by_cases hv10 : v = 10
      · obtain ⟨r, m1, p1, m2, e1, e2, e3, e4⟩ := zLw_step (n := n) h hB' (zop7_of (c_scope (x := xs (i + 1)) (y := xs (i + 2)) (z := xs (i + 3)) (v := xs (i + 4))))
        rw [if_pos hv10, z_sc1 h.1 (by omega) hn, Option.bind_some, z_sc2 h.1 (by omega) hn, Option.bind_some, z_sc3 h.1 (by omega) hn, Option.bind_some, z_sc4 h.1 (by omega) hn, Option.bind_some, z_gi9, Option.bind_some, e1, Option.bind_some]
        dsimp only
        rw [z_sc1 e3 (by omega) hn, Option.bind_some, z_sc2 e3 (by omega) hn, Option.bind_some, z_sc3 e3 (by omega) hn, Option.bind_some, z_sc4 e3 (by omega) hn, Option.bind_some, z_mo 0, Option.bind_some, e2, Option.bind_some]
        dsimp only
        rw [if_pos rfl]
        exact hnext m2 p1 e4
      rw [if_neg hv10]
      by_cases hv11 : v = 11
      · obtain ⟨r, m1, p1, m2, e1, e2, e3, e4⟩ := zLw_step (n := n) h hB' (zop7_of (c_sum (x := xs (i + 1)) (y := xs (i + 2)) (z := xs (i + 3)) (v := xs (i + 4))))
        rw [if_pos hv11, z_sc1 h.1 (by omega) hn, Option.bind_some, z_sc2 h.1 (by omega) hn, Option.bind_some, z_sc3 h.1 (by omega) hn, Option.bind_some, z_sc4 h.1 (by omega) hn, Option.bind_some, z_gi9, Option.bind_some, e1, Option.bind_some]
        dsimp only
        rw [z_sc1 e3 (by omega) hn, Option.bind_some, z_sc2 e3 (by omega) hn, Option.bind_some, z_sc3 e3 (by omega) hn, Option.bind_some, z_sc4 e3 (by omega) hn, Option.bind_some, z_mo 0, Option.bind_some, e2, Option.bind_some]
        dsimp only
        rw [if_pos rfl]
        exact hnext m2 p1 e4
      rw [if_neg hv11]
      by_cases hv12 : v = 12
      · obtain ⟨r, m1, p1, m2, e1, e2, e3, e4⟩ := zLw_step (n := n) h hB' (zop7_of (c_compare (x := xs (i + 1)) (y := xs (i + 2)) (z := xs (i + 3))))
        rw [if_pos hv12, z_sc1 h.1 (by omega) hn, Option.bind_some, z_sc2 h.1 (by omega) hn, Option.bind_some, z_sc3 h.1 (by omega) hn, Option.bind_some, z_gi9, Option.bind_some, e1, Option.bind_some]
        dsimp only
        rw [z_sc1 e3 (by omega) hn, Option.bind_some, z_sc2 e3 (by omega) hn, Option.bind_some, z_sc3 e3 (by omega) hn, Option.bind_some, z_mo 0, Option.bind_some, e2, Option.bind_some]
        dsimp only
        rw [if_pos rfl]
        exact hnext m2 p1 e4
      rw [if_neg hv12]
      by_cases hv13 : v = 13
      · obtain ⟨r, m1, p1, m2, e1, e2, e3, e4⟩ := zLw_step (n := n) h hB' (zop7_of (c_setRoom (x := xs (i + 1))))
        rw [if_pos hv13, z_sc1 h.1 (by omega) hn, Option.bind_some, z_gi9, Option.bind_some, e1, Option.bind_some]
        dsimp only
        rw [z_sc1 e3 (by omega) hn, Option.bind_some, z_mo 0, Option.bind_some, e2, Option.bind_some]
        dsimp only
        rw [if_pos rfl]
        exact hnext m2 p1 e4
      rw [if_neg hv13]
      by_cases hv14 : v = 14
      · obtain ⟨r, m1, p1, m2, e1, e2, e3, e4⟩ := zLw_step (n := n) h hB' (zop7_of (c_isCached (x := xs (i + 1)) (y := xs (i + 2))))
        rw [if_pos hv14, z_sc1 h.1 (by omega) hn, Option.bind_some, z_sc2 h.1 (by omega) hn, Option.bind_some, z_gi9, Option.bind_some, e1, Option.bind_some]
        dsimp only
        rw [z_sc1 e3 (by omega) hn, Option.bind_some, z_sc2 e3 (by omega) hn, Option.bind_some, z_mo 0, Option.bind_some, e2, Option.bind_some]
        dsimp only
        rw [if_pos rfl]
        exact hnext m2 p1 e4
      rw [if_neg hv14]
      by_cases hv15 : v = 15
      · obtain ⟨r, m1, p1, m2, e1, e2, e3, e4⟩ := zLw_step (n := n) h hB' (zop7_of (c_count (x := xs (i + 1))))
        rw [if_pos hv15, z_sc1 h.1 (by omega) hn, Option.bind_some, z_gi9, Option.bind_some, e1, Option.bind_some]
        dsimp only
        rw [z_sc1 e3 (by omega) hn, Option.bind_some, z_mo 0, Option.bind_some, e2, Option.bind_some]
        dsimp only
        rw [if_pos rfl]
        exact hnext m2 p1 e4
      rw [if_neg hv15]
      by_cases hv16 : v = 16
      · obtain ⟨r, m1, p1, m2, e1, e2, e3, e4⟩ := zLw_step (n := n) h hB' (zop7_of (c_append (x := xs (i + 1))))
        rw [if_pos hv16, z_sc1 h.1 (by omega) hn, Option.bind_some, z_gi9, Option.bind_some, e1, Option.bind_some]
        dsimp only
        rw [z_sc1 e3 (by omega) hn, Option.bind_some, z_mo 0, Option.bind_some, e2, Option.bind_some]
        dsimp only
        rw [if_pos rfl]
        exact hnext m2 p1 e4
      rw [if_neg hv16]
      by_cases hv17 : v = 17
      · obtain ⟨r, m1, p1, m2, e1, e2, e3, e4⟩ := zLw_step (n := n) h hB' (zop7_of c_clearText)
        rw [if_pos hv17, z_gi9, Option.bind_some, e1, Option.bind_some]
        dsimp only
        rw [z_mo 0, Option.bind_some, e2, Option.bind_some]
        dsimp only
        rw [if_pos rfl]
        exact hnext m2 p1 e4
      rw [if_neg hv17]
      by_cases hv18 : v = 18
      · obtain ⟨r, m1, p1, m2, e1, e2, e3, e4⟩ := zLw_step (n := n) h hB' c_faultPosition
        rw [if_pos hv18, z_gi9, Option.bind_some, e1, Option.bind_some]
        dsimp only
        rw [z_mo 0, Option.bind_some, e2, Option.bind_some]
        dsimp only
        rw [if_pos rfl]
        exact hnext m2 p1 e4
      rw [if_neg hv18]
      by_cases hv19 : v = 19
      · obtain ⟨r, m1, p1, m2, e1, e2, e3, e4⟩ := zLw_step (n := n) h hB' c_faultDepth
        rw [if_pos hv19, z_gi9, Option.bind_some, e1, Option.bind_some]
        dsimp only
        rw [z_mo 0, Option.bind_some, e2, Option.bind_some]
        dsimp only
        rw [if_pos rfl]
        exact hnext m2 p1 e4
      rw [if_neg hv19]
      by_cases hv20 : v = 20
      · obtain ⟨r, m1, p1, m2, e1, e2, e3, e4⟩ := zLw_step (n := n) h hB' c_build
        rw [if_pos hv20, z_gi9, Option.bind_some, e1, Option.bind_some]
        dsimp only
        rw [z_mo 0, Option.bind_some, e2, Option.bind_some]
        dsimp only
        rw [if_pos rfl]
        exact hnext m2 p1 e4
      rw [if_neg hv20]
      by_cases hv21 : v = 21
      · obtain ⟨r, m1, p1, m2, e1, e2, e3, e4⟩ := zLw_step (n := n) h hB' (zop7_of (c_save (x := xs (i + 1))))
        rw [if_pos hv21, z_sc1 h.1 (by omega) hn, Option.bind_some, z_gi9, Option.bind_some, e1, Option.bind_some]
        dsimp only
        rw [z_sc1 e3 (by omega) hn, Option.bind_some, z_mo 0, Option.bind_some, e2, Option.bind_some]
        dsimp only
        rw [if_pos rfl]
        exact hnext m2 p1 e4
      rw [if_neg hv21]
      by_cases hv22 : v = 22
      · obtain ⟨r, m1, p1, m2, e1, e2, e3, e4⟩ := zLw_step (n := n) h hB' (zop7_of (c_restore (x := xs (i + 1))))
        rw [if_pos hv22, z_sc1 h.1 (by omega) hn, Option.bind_some, z_gi9, Option.bind_some, e1, Option.bind_some]
        dsimp only
        rw [z_sc1 e3 (by omega) hn, Option.bind_some, z_mo 0, Option.bind_some, e2, Option.bind_some]
        dsimp only
        rw [if_pos rfl]
        exact hnext m2 p1 e4
      rw [if_neg hv22]
      by_cases hv23 : v = 23
      · obtain ⟨r, m1, p1, m2, e1, e2, e3, e4⟩ := zLw_step (n := n) h hB' (zop7_of c_checksum)
        rw [if_pos hv23, z_gi9, Option.bind_some, e1, Option.bind_some]
        dsimp only
        rw [z_mo 0, Option.bind_some, e2, Option.bind_some]
        dsimp only
        rw [if_pos (zcmp_rf r)]
        exact hnext m2 p1 e4
      rw [if_neg hv23]
      obtain ⟨h6, h7, A, h1, h2, h3⟩ := h
      exact hnext m p ⟨h6, h7, A, h1, h2, zAbs_mono h3 (by omega)⟩
end LAW
