/-! ===== the function of the law answers 1 on every script ===== -/
theorem ax_m0 {n a j : Nat} {xs : Nat → Int32} (h : 9 ≤ a) : (ax_s0 n xs).2.1 a j = 0 := by
  show (if a = 6 then xs j else if a = 7 then ax_chars.getD j 0 else (ax_tab.getD a []).getD j 0) = 0
  have e : ax_tab.getD a [] = [] := by
    rw [List.getD_eq_getElem?_getD, List.getElem?_eq_none (show ax_tab.length ≤ a from Nat.le_trans (Nat.le_of_ble_eq_true rfl) h)]
    rfl
  rw [if_neg (by omega), if_neg (by omega), e]
  rfl
section PURE
variable {n N B M : Nat} {m : Nat → Nat → Int32} {p : Nat → Nat} {V : Nat → Nat → Int32} {C : zSt} {LT : Nat × (Nat → Nat)} {S : Nat → Option (Nat × (Nat → Nat → Int32))}
/-- the nodes are added, then the steps are gone -/
theorem l_78 (hn : n < 2 ^ 31) (hM1 : 1 ≤ M) (hM : M < 10) : ∀ (d i fu : Nat) (m : Nat → Nat → Int32) (p : Nat → Nat) (B : Nat) (V : Nat → Nat → Int32) (C : zSt) (S : Nat → Option (Nat × (Nat → Nat → Int32))), i + d = M → d < fu → zLw m p B i V C LT S → B + 100 * d < 1000000 → ∃ m' p', fb_L_law_78 fu (some 6) (some 9) (some 275) (some 276) (some 277) (nI M) 1 (nI i) (zC n m p) = some (1, zC n m' p') := by
  obtain ⟨L, T⟩ := LT
  intro d
  induction d with
  | zero =>
    intro i fu m p B V C S hi hf h hB
    obtain ⟨fu, rfl⟩ : ∃ k, fu = k + 1 := ⟨fu - 1, by omega⟩
    obtain rfl : i = M := by omega
    obtain ⟨m', p', e⟩ := l_139 (n := n) hn hM1 hM 22 0 10000 m p B V C S rfl (by omega) h (by omega)
    rw [nI_0] at e
    refine ⟨m', p', ?_⟩
    unfold fb_L_law_78
    rw [if_pos (nI_le (by omega) (by omega))]
    exact e
  | succ d ih =>
    intro i fu m p B V C S hi hf h hB
    obtain ⟨fu, rfl⟩ : ∃ k, fu = k + 1 := ⟨fu - 1, by omega⟩
    obtain ⟨z, hz, hc⟩ := l_cell (n := n) (m := m) (p := p) (j := 1 + i) hn (by omega)
    have key : ∀ k, k < 7 → ∃ m' p', fb_L_law_125 (fb_L_law_78 fu) (some 6) (some 9) (some 275) (some 276) (some 277) (nI M) (nI i) (some 9) (some 275) (some 276) (some 277) (nI i) (nI k) (zC n m p) = some (1, zC n m' p') := by
      intro k hk
      obtain ⟨m1, p1, e1, h1, -⟩ := l_adds (n := n) h (show i < 9 by omega) hk
      obtain ⟨m', p', e⟩ := ih (i + 1) fu m1 p1 _ _ _ _ (by omega) (by omega) h1 (by omega)
      refine ⟨m', p', ?_⟩
      unfold fb_L_law_125
      rw [e1, Option.bind_some]
      dsimp only
      rw [nI_1]
      exact e
    have e7 := l_rem (z := z) (s := (2 : Int32) &&& 31) (d := 7) hz s2 (by omega) (by omega)
    rw [show nI 7 = (7 : Int32) from rfl] at e7
    have h7 : z / 2 ^ 2 % 7 < 7 := Nat.mod_lt _ (by omega)
    generalize z / 2 ^ 2 % 7 = k at e7 h7
    unfold fb_L_law_78
    rw [if_neg (nI_ge (by omega) (by omega)), if_neg (by decide), show (1 : Int32) + nI i = nI (1 + i) from nI_add 1 i, hc, Option.bind_some]
    dsimp only
    rw [if_neg (show ¬ (3 : Int32) = 0 by decide), Option.bind_some]
    by_cases h3 : nI z - nI z / 3 * 3 = 0
    · rw [if_pos h3]
      obtain ⟨m', p', e⟩ := key 0 (by omega)
      rw [nI_0] at e
      exact ⟨m', p', e⟩
    · rw [if_neg h3, if_neg (show ¬ (7 : Int32) = 0 by decide), Option.bind_some, e7]
      exact key k h7
/-- the state behind the constructors -/
def zA0 : zA := ((0, fun _ _ => 0), (fun i => if i = 3 then 16 else 0, fun _ _ => 0, fun _ _ _ => 0), (0, fun _ => 0), fun _ => none)
theorem zCls_0 (hT : zT m) (h0 : ∀ a, 9 ≤ a → a ≠ 51 → ∀ j, m a j = 0) (h51 : ∀ j, m 51 j = if j = 3 then 16 else 0) : zCls m (fun j => j) zA0 ∧ zAbs 0 zA0 := by
  have hz : ∀ a, 9 ≤ a → a ≠ 51 → ∀ j, m a j = nI 0 := fun a b c j => h0 a b c j
  refine ⟨⟨⟨hT, ⟨Nat.zero_le _, ⟨hz _ (by omega) (by omega) _, fun i w hi => absurd hi (by omega), fun i w hi => absurd hi (by omega), fun i w hi => absurd hi (by omega)⟩, fun t ht => absurd ht (by omega), fun _ => 0, fun i hi => absurd hi (by omega), fun i hi => absurd hi (by omega), fun i hi => absurd hi (by omega)⟩, fun k hk => h0 _ (by omega) (by omega) _, ⟨hz _ (by omega) (by omega) _, fun j hj => absurd hj (by omega)⟩, fun s hs => h0 _ (by omega) (by omega) _⟩, fun _ => 0, fun _ => 0, fun _ _ => 0, ?_⟩, ?_⟩
  · refine ⟨⟨fun j hj => hj, fun i j _ _ h => h⟩, fun i h1 h2 => ?_, Nat.zero_le _, zP_0⟩
    rw [h51]
    show _ = nI (if i = 3 then 16 else 0)
    by_cases h3 : i = 3
    · rw [if_pos h3, if_pos h3]
      rfl
    · rw [if_neg h3, if_neg h3]
      rfl
  · exact ⟨⟨Nat.zero_le _, fun i hi => absurd hi (by omega), fun _ => 0, fun i j k hi => absurd hi (by omega)⟩, zI5_0 (c := fun i => if i = 3 then 16 else 0) (Nat.le_of_ble_eq_true rfl) (Nat.le_of_ble_eq_true rfl) rfl, Nat.le_refl _, Nat.zero_le _, fun _ => by show 0 < 128; omega, fun s M W h => by cases h⟩
end PURE
set_option maxRecDepth 100000 in
theorem ax_pure (n : Nat) (hn : n ≤ 260) (xs : Nat → Int32) : ∃ q, fi_L_law (some 6) (ax_s0 n xs) = some q ∧ q.1 = 1 := by
  have h0 : ax_s0 n xs = zK n 9 (ax_s0 n xs).2.1 (fun _ _ => none) := rfl
  have hm : ∀ a, 9 ≤ a → ∀ j, (ax_s0 n xs).2.1 a j = 0 := fun a ha j => ax_m0 ha
  have pT : zT (ax_s0 n xs).2.1 := fun a j ha => by
    show (if a = 6 then xs j else if a = 7 then ax_chars.getD j 0 else (ax_tab.getD a []).getD j 0) = _
    rw [if_neg (by omega), if_neg (by omega)]
  rw [h0]
  generalize (ax_s0 n xs).2.1 = m at hm pT
  obtain ⟨R1, a1, a2, a3⟩ := i_cls (n := n) hm
  have hm' : ∀ a, 9 ≤ a → a ≠ 51 → ∀ j, ax_u2 m 51 3 16 a j = 0 := fun a ha hb j => by rw [ax_u2_ne hb]; exact hm a ha j
  have hR : R1 = zR (fun j => j) := by
    funext a j
    by_cases h : a < 275
    · exact a2 a h j
    · rw [a3 a (by omega) j, zr_hi (by omega)]
  have pT' : zT (ax_u2 m 51 3 16) := fun a j ha => by rw [ax_u2_ne (by omega)]; exact pT a j ha
  have h51 : ∀ j, ax_u2 m 51 3 16 51 j = if j = 3 then 16 else 0 := fun j => by
    by_cases hj : j = 3
    · subst hj
      rw [ax_u2_self, if_pos rfl]
    · rw [ax_u2_nk hj, if_neg hj]
      exact hm _ (by omega) j
  obtain ⟨c1, c2⟩ := zCls_0 pT' hm' h51
  subst hR
  generalize ax_u2 m 51 3 16 = m2 at a1 hm' c1
  obtain ⟨y, hy, hc⟩ := l_cell (n := n) (m := m2) (p := fun j => j) (j := 0) (by omega) (by omega)
  have hr := k_restore_none (n := n) c1 (s := 0) (by omega) rfl
  obtain ⟨m3, p3, e3, -, c3, c4⟩ := k_build (n := n) c1 c2
  obtain ⟨m4, p4, e4, -, c5, c6⟩ := k_clear (n := n) c3 c4
  have hQ0 : zQV (fun _ _ _ => 0) (zA0.2.1) := ⟨fun _ _ h => absurd rfl h, Nat.le_of_ble_eq_true rfl, Nat.le_of_ble_eq_true rfl⟩
  have hL : zLw m4 p4 200 0 (fun _ _ => 0) (zcl zA0.2.1) (0, fun _ => 0) (fun _ => none) := ⟨c5, c6, zQV_cl hQ0, fun i hi => absurd hi (by omega), fun i k hi => absurd hi (by omega)⟩
  have e7 : nI y - nI y / 7 * 7 = nI (y % 7) := pk_rem (d := 7) hy (by omega) (by omega)
  have h7 : y % 7 < 7 := Nat.mod_lt _ (by omega)
  generalize y % 7 = w at e7 h7
  obtain ⟨m', p', e⟩ := l_78 (n := n) (M := 3 + w) (by omega) (by omega) (by omega) (3 + w) 0 10000 m4 p4 200 _ _ _ (by omega) (by omega) hL (by omega)
  rw [nI_0] at hc hr e4 e
  refine ⟨(1, zC n m' p'), ?_, rfl⟩
  unfold fi_L_law
  rw [zk_nw (show zs_sh n 9 = (6, 6) from rfl) (hm _ (by omega)) (fun _ => rfl), ax_bd_s, zk_len, ax_bd_s, zk_sh (show 9 < 9 + 1 by omega) (show zs_sh n 9 = (6, 6) from rfl), Option.bind_some, show 9 + 1 = 10 from rfl, a1, Option.bind_some]
  rw [zk_nw (show zs_sh n 275 = (9, 36) from rfl) (hm' _ (by omega) (by omega)) (a3 275 (by omega)), ax_bd_s, zk_len, ax_bd_s, show 275 + 1 = 276 from rfl]
  rw [zk_nw (show zs_sh n 276 = (9, 36) from rfl) (hm' _ (by omega) (by omega)) (a3 276 (by omega)), ax_bd_s, zk_len, ax_bd_s, show 276 + 1 = 277 from rfl]
  rw [zk_nw (show zs_sh n 277 = (9, 48) from rfl) (hm' _ (by omega) (by omega)) (a3 277 (by omega)), ax_bd_s, zk_len, ax_bd_s, show zK n (277 + 1) m2 (zR fun j => j) = zC n m2 (fun j => j) from rfl]
  rw [hc, Option.bind_some, if_neg (show ¬ (7 : Int32) = 0 by decide), Option.bind_some]
  dsimp only
  rw [e7, show (3 : Int32) + nI w = nI (3 + w) from nI_add 3 w, ax_bd_s, z_gi9, Option.bind_some, hr, Option.bind_some]
  dsimp only
  rw [if_pos rfl, z_gi9, Option.bind_some, e3, Option.bind_some]
  dsimp only
  rw [if_pos rfl, z_gi9, Option.bind_some, e4, Option.bind_some]
  dsimp only
  rw [if_pos rfl]
  exact e
