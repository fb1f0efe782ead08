/-! ===== the function of the law answers 1 on every script ===== -/
theorem ax_m0 {n a j : Nat} {xs : Nat → Int32} (h : 9 ≤ a) : (ax_s0 n xs).2.1 a j = 0 := by
  show (if a = 6 then xs j else if a = 7 then ax_chars.getD j 0 else (ax_tab.getD a []).getD j 0) = 0
  have e : ax_tab.getD a [] = [] := by
    rw [List.getD_eq_getElem?_getD, List.getElem?_eq_none (show ax_tab.length ≤ a from Nat.le_trans (Nat.le_of_ble_eq_true rfl) h)]
    rfl
  rw [if_neg (by omega), if_neg (by omega), e]
  rfl
set_option maxRecDepth 100000 in
theorem ax_pure (n : Nat) (hn : n ≤ 3072) (xs : Nat → Int32) : ∃ q, fi_L_law (some 6) (ax_s0 n xs) = some q ∧ q.1 = 1 := by
  have h0 : ax_s0 n xs = zK n 9 (ax_s0 n xs).2.1 (fun _ _ => none) := rfl
  have hm : ∀ a, 9 ≤ a → ∀ j, (ax_s0 n xs).2.1 a j = 0 := fun a ha j => ax_m0 ha
  have p6 : (ax_s0 n xs).2.1 6 = xs := rfl
  have p7 : ∀ j, j < 8 → (ax_s0 n xs).2.1 7 j = ax_chars.getD j 0 := fun _ _ => rfl
  have pT : zT (ax_s0 n xs).2.1 := fun a j ha => by
    show (if a = 6 then xs j else if a = 7 then ax_chars.getD j 0 else (ax_tab.getD a []).getD j 0) = _
    rw [if_neg (by omega), if_neg (by omega)]
  rw [h0]
  generalize (ax_s0 n xs).2.1 = m at hm p6 p7 pT
  obtain ⟨R1, a1, a2, a3⟩ := i_cls (n := n) hm
  have hm' : ∀ a, 9 ≤ a → a ≠ 51 → ∀ j, ax_u2 m 51 3 16 a j = 0 := fun a ha hb j => by rw [ax_u2_ne hb]; exact hm a ha j
  obtain ⟨m2, R2, b1, b2, b3, b4, b5, b6⟩ := i_mdl (n := n) (m := ax_u2 m 51 3 16) (R0 := R1) (fun a ha j => hm' a (by omega) (by omega) j) a3
  obtain rfl := zJ_R b2 a2 a3
  have lo : ∀ a, a < 9 → m2 a = m a := fun a ha => by rw [b3 a (by omega)]; exact funext fun j => ax_u2_ne (by omega) j
  have hL : zLw xs m2 (fun j => j) 0 := zLw_0 (by rw [lo 6 (by omega)]; exact p6) (fun j hj => by rw [lo 7 (by omega)]; exact p7 j hj) (fun a j ha => by rw [lo a (by omega)]; exact pT a j ha) (fun a h1 h2 h3 h4 h5 j => by
      by_cases h6 : a < 275
      · rw [b3 a h6]
        exact hm' a h1 h4 j
      · exact b6 a (by omega) h2 h3 j) (fun j => by
      rw [b3 51 (by omega)]
      by_cases hj : j = 3
      · subst hj
        rw [ax_u2_self, if_pos rfl]
      · rw [ax_u2_nk hj, if_neg hj]
        exact hm _ (by omega) j) b4 b5
  obtain ⟨s, hs⟩ := f_law_lp hn 512 0 10000 m2 (fun j => j) 0 (by omega) (by omega) (by omega) (by omega) hL
  rw [nI_0] at hs
  refine ⟨(1, s), ?_, rfl⟩
  unfold fi_L_law
  rw [zk_nw (show zs_sh n 9 = (6, 6) from rfl) (hm _ (by omega)) (fun _ => rfl), ax_bd_s, zk_len, ax_bd_s, zk_sh (show 9 < 9 + 1 by omega) (show zs_sh n 9 = (6, 6) from rfl), Option.bind_some, show 9 + 1 = 10 from rfl, a1, Option.bind_some]
  rw [zk_nw (show zs_sh n 275 = (7, 28) from rfl) (hm' _ (by omega) (by omega)) (a3 275 (by omega)), ax_bd_s, zk_len, ax_bd_s, zk_sh (show 275 < 275 + 1 by omega) (show zs_sh n 275 = (7, 28) from rfl), Option.bind_some, show 275 + 1 = 276 from rfl, b1, Option.bind_some]
  exact hs
