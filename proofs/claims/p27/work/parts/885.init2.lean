/-! ===== the constructors: cache, reader, all of the class, the model ===== -/
section INIT2
variable {n k a t l i j b g v : Nat} {m : Nat → Nat → Int32} {R : Nat → Nat → Option Nat} {x y : Int32} {r : Option Nat}
/-- a row is filled from the left -/
theorem zrow_s {Z : Nat → Option Nat} (h : ∀ j, R a j = if j < t then Z j else none) (htk : t ≤ k) (hv : Z k = r) (hgap : ∀ j, t ≤ j → j < k → Z j = none) : ∀ j, ax_u2 R a k r a j = if j < k + 1 then Z j else none := by
  intro j
  by_cases hj : j = k
  · subst hj
    rw [ax_u2_self, if_pos (by omega), hv]
  · rw [ax_u2_nk hj, h]
    by_cases h1 : j < t
    · rw [if_pos h1, if_pos (by omega)]
    · rw [if_neg h1]
      by_cases h2 : j < k
      · rw [if_pos (by omega), hgap j (by omega) h2]
      · rw [if_neg (by omega)]
theorem i_pic (s0 : zs_sh n b = (3, 4)) (s1 : zs_sh n (b + 1) = (9, 96)) (hm : ∀ j, m (b + 1) j = 0) (hR : ∀ j, R (b + 1) j = none) : fn_X5_init (some b) (zK n (b + 1) m R) = some (zK n (b + 2) m (ax_u2 R b 3 (some (b + 1)))) := by
  unfold fn_X5_init
  rw [zk_sh (by omega) s0, Option.bind_some, zk_nw s1 hm hR, ax_bd_s, zk_len, ax_bd_s, zk_pr (show b < b + 1 + 1 by omega) s0, Option.bind_some]
def zCH (R : Nat → Nat → Option Nat) (i : Nat) : Prop := (∀ j, R 51 j = if j = 0 then some 52 else none) ∧ (∀ j, R 52 j = if j < i then some (53 + 2 * j) else none) ∧ (∀ a, 53 ≤ a → a < 53 + 2 * i → ∀ j, R a j = if (a - 53) % 2 = 0 ∧ j = 3 then some (a + 1) else none) ∧ ∀ a, 53 + 2 * i ≤ a → ∀ j, R a j = none
theorem i_cache_lp (hm : ∀ a, 51 < a → ∀ j, m a j = 0) : ∀ (d i f : Nat) (R : Nat → Nat → Option Nat), i + d = 48 → d < f → zCH R i → ∃ R', fb_X0_init_21 f (some 51) (nI i) (zK n (53 + 2 * i) m R) = some (zK n 149 m R') ∧ zCH R' 48 ∧ ∀ a, a < 51 → R' a = R a := by
  intro d
  induction d with
  | zero =>
    intro i f R hi hf h
    obtain ⟨f, rfl⟩ : ∃ k, f = k + 1 := ⟨f - 1, by omega⟩
    obtain rfl : i = 48 := by omega
    refine ⟨R, ?_, h, fun _ _ => rfl⟩
    unfold fb_X0_init_21
    rw [if_pos (by decide)]
  | succ d ih =>
    intro i f R hi hf h
    obtain ⟨f, rfl⟩ : ∃ k, f = k + 1 := ⟨f - 1, by omega⟩
    obtain ⟨h1, h2, h3, h4⟩ := h
    obtain ⟨p1, p2, p3, -⟩ := zPic (n := n) (p := fun j => j) (show i < 48 by omega)
    have p3 : zs_sh n (53 + 2 * i + 1) = (9, 96) := by rw [show 53 + 2 * i + 1 = 54 + 2 * i by omega]; exact p3
    have e1 := i_pic (n := n) (m := m) (R := R) p2 p3 (hm _ (by omega)) (h4 _ (by omega))
    generalize hR1 : ax_u2 R (53 + 2 * i) 3 (some (53 + 2 * i + 1)) = R1 at e1
    have q1 : ∀ a, a ≠ 53 + 2 * i → R1 a = R a := fun a ha => by funext j; rw [← hR1]; exact ax_u2_ne ha j
    generalize hR2 : ax_u2 R1 52 i (some (53 + 2 * i)) = R2
    have q2 : ∀ a, a ≠ 52 → R2 a = R1 a := fun a ha => by funext j; rw [← hR2]; exact ax_u2_ne ha j
    have hst : zCH R2 (i + 1) := by
      refine ⟨fun j => by rw [q2 _ (by omega), q1 _ (by omega)]; exact h1 j, fun j => ?_, fun a h5 h6 j => ?_, fun a ha j => by rw [q2 _ (by omega), q1 _ (by omega)]; exact h4 a (by omega) j⟩
      · rw [← hR2]
        by_cases hj : j = i
        · subst hj
          rw [ax_u2_self, if_pos (by omega)]
        · rw [ax_u2_nk hj, q1 _ (by omega), h2]
          by_cases hji : j < i
          · rw [if_pos hji, if_pos (by omega)]
          · rw [if_neg hji, if_neg (by omega)]
      · rw [q2 _ (by omega)]
        by_cases hb : a = 53 + 2 * i
        · subst hb
          rw [← hR1]
          by_cases hj : j = 3
          · subst hj
            rw [ax_u2_self, if_pos ⟨by omega, rfl⟩]
          · rw [ax_u2_nk hj, h4 _ (by omega), if_neg (fun q => hj q.2)]
        · rw [q1 _ hb]
          by_cases hb1 : a < 53 + 2 * i
          · exact h3 a h5 hb1 j
          · rw [h4 _ (by omega), if_neg (fun q => by omega)]
    obtain ⟨R', g1, g2, g3⟩ := ih (i + 1) f R2 (by omega) (by omega) hst
    refine ⟨R', ?_, g2, fun a ha => by rw [g3 a ha, q2 _ (by omega), q1 _ (by omega)]⟩
    have r0 : R 51 0 = some 52 := by rw [h1]; rfl
    unfold fb_X0_init_21
    rw [if_neg (show ¬ (48 : Int32) ≤ nI i from nI_ge (b := 48) (by omega) (by omega)), zk_gr (show 51 < 53 + 2 * i by omega) (show zs_sh n 51 = (0, 8) from rfl), r0, Option.bind_some, zk_nw p2 (hm _ (by omega)) (h4 _ (Nat.le_refl _)), ax_bd_s, zk_len, ax_bd_s, zk_sh (show 53 + 2 * i < 53 + 2 * i + 1 by omega) p2, Option.bind_some, e1, Option.bind_some, zk_aw (show 52 < 53 + 2 * i + 2 by omega) (by omega) (show zs_sh n 52 = (13, 48) from rfl) (show i < 48 by omega) (by omega) (show 53 + 2 * i < 53 + 2 * i + 2 by omega) p2 rfl, hR2, Option.bind_some, nI_1]
    exact g1
theorem i_cache (hm : ∀ a, 51 < a → ∀ j, m a j = 0) (hR : ∀ a, 51 ≤ a → ∀ j, R a j = none) : ∃ R', fn_X0_init (some 51) (zK n 52 m R) = some (zK n 149 (ax_u2 m 51 3 16) R') ∧ zCH R' 48 ∧ ∀ a, a < 51 → R' a = R a := by
  have hst : zCH (ax_u2 R 51 0 (some 52)) 0 := by
    refine ⟨fun j => ?_, fun j => by rw [ax_u2_ne (by omega), hR _ (by omega), if_neg (by omega)], fun a h1 h2 => by omega, fun a ha j => by rw [ax_u2_ne (by omega)]; exact hR a (by omega) j⟩
    by_cases hj : j = 0
    · subst hj
      rw [ax_u2_self, if_pos rfl]
    · rw [ax_u2_nk hj, hR _ (by omega), if_neg hj]
  obtain ⟨R', e1, e2, e3⟩ := i_cache_lp (n := n) (m := ax_u2 m 51 3 16) (fun a ha j => by rw [ax_u2_ne (by omega)]; exact hm a ha j) 48 0 60 _ rfl (by omega) hst
  refine ⟨R', ?_, e2, fun a ha => by rw [e3 a ha]; funext j; exact ax_u2_ne (by omega) j⟩
  rw [nI_0] at e1
  have s51 : zs_sh n 51 = (0, 8) := rfl
  unfold fn_X0_init
  rw [zk_sh (show 51 < 52 by omega) s51, Option.bind_some, zk_nw (show zs_sh n 52 = (13, 48) from rfl) (hm _ (by omega)) (hR _ (by omega)), ax_bd_s, zk_len, ax_bd_s, zk_pr (show 51 < 52 + 1 by omega) s51, Option.bind_some, zk_pi (show 51 < 52 + 1 by omega) s51, Option.bind_some]
  exact e1
def zRH (R : Nat → Nat → Option Nat) (i : Nat) : Prop := (∀ j, R 149 j = zR (fun j => j) 149 j) ∧ (∀ j, R 150 j = zR (fun j => j) 150 j) ∧ (∀ a, a = 151 ∨ a = 152 → ∀ j, R a j = none) ∧ (∀ j, R 153 j = if j < i then some (154 + 3 * j) else none) ∧ (∀ k, 5 ≤ k → k < 5 + 3 * i → ∀ j, R (149 + k) j = zg_r 149 k j) ∧ ∀ a, 154 + 3 * i ≤ a → ∀ j, R a j = none
theorem zs_dr (hi : i < 12) : zs_sh n (154 + 3 * i) = (2, 5) ∧ zs_sh n (154 + 3 * i + 1) = (9, 3) ∧ zs_sh n (154 + 3 * i + 2) = (9, 4) := by
  have hc : i = 0 ∨ i = 1 ∨ i = 2 ∨ i = 3 ∨ i = 4 ∨ i = 5 ∨ i = 6 ∨ i = 7 ∨ i = 8 ∨ i = 9 ∨ i = 10 ∨ i = 11 := by omega
  rcases hc with rfl | rfl | rfl | rfl | rfl | rfl | rfl | rfl | rfl | rfl | rfl | rfl <;> exact ⟨rfl, rfl, rfl⟩
theorem i_reader_lp (hm : ∀ a, 149 < a → ∀ j, m a j = 0) : ∀ (d i f : Nat) (R : Nat → Nat → Option Nat), i + d = 12 → d < f → zRH R i → ∃ R', fb_X6_init_33 f (some 149) (nI i) (zK n (154 + 3 * i) m R) = some (zK n 190 m R') ∧ zRH R' 12 ∧ ∀ a, a < 149 → R' a = R a := by
  intro d
  induction d with
  | zero =>
    intro i f R hi hf h
    obtain ⟨f, rfl⟩ : ∃ k, f = k + 1 := ⟨f - 1, by omega⟩
    obtain rfl : i = 12 := by omega
    refine ⟨R, ?_, h, fun _ _ => rfl⟩
    unfold fb_X6_init_33
    rw [if_pos (by decide)]
  | succ d ih =>
    intro i f R hi hf h
    obtain ⟨f, rfl⟩ : ∃ k, f = k + 1 := ⟨f - 1, by omega⟩
    obtain ⟨h1, h2, h3, h4, h5, h6⟩ := h
    obtain ⟨sb, sb1, sb2⟩ := zs_dr (n := n) (show i < 12 by omega)
    obtain ⟨R1, e1, e2, e3⟩ := i_node (m := m) (R := R) sb sb1 sb2 (fun a ha => hm a (by omega)) (fun a ha => h6 a ha)
    generalize hR2 : ax_u2 R1 153 i (some (154 + 3 * i)) = R2
    have q2 : ∀ a, a ≠ 153 → R2 a = R1 a := fun a ha => by funext j; rw [← hR2]; exact ax_u2_ne ha j
    have hst : zRH R2 (i + 1) := by
      refine ⟨fun j => by rw [q2 _ (by omega), e3 _ (by omega)]; exact h1 j, fun j => by rw [q2 _ (by omega), e3 _ (by omega)]; exact h2 j, fun a ha j => by rw [q2 _ (by omega), e3 _ (by omega)]; exact h3 a ha j, fun j => ?_, fun k hk5 hk j => ?_, fun a ha j => by rw [q2 _ (by omega), e3 _ (by omega)]; exact h6 a (by omega) j⟩
      · rw [← hR2]
        by_cases hj : j = i
        · subst hj
          rw [ax_u2_self, if_pos (by omega)]
        · rw [ax_u2_nk hj, e3 _ (by omega), h4]
          by_cases hji : j < i
          · rw [if_pos hji, if_pos (by omega)]
          · rw [if_neg hji, if_neg (by omega)]
      · rw [q2 _ (by omega)]
        by_cases hk2 : k < 5 + 3 * i
        · rw [e3 _ (by omega)]
          exact h5 k hk5 hk2 j
        · have hc : k = 5 + 3 * i ∨ k = 5 + 3 * i + 1 ∨ k = 5 + 3 * i + 2 := by omega
          rcases hc with rfl | rfl | rfl
          · rw [show 149 + (5 + 3 * i) = 154 + 3 * i by omega, e2, zg_r0, show 149 + 5 + 3 * i = 154 + 3 * i by omega]
          · rw [e3 _ (by omega), h6 _ (by omega), zg_r1]
          · rw [e3 _ (by omega), h6 _ (by omega), zg_r2]
    obtain ⟨R', g1, g2, g3⟩ := ih (i + 1) f R2 (by omega) (by omega) hst
    refine ⟨R', ?_, g2, fun a ha => by rw [g3 a ha, q2 _ (by omega), e3 _ (by omega)]⟩
    have r0 : R 149 2 = some 153 := by rw [h1]; rfl
    unfold fb_X6_init_33
    rw [if_neg (show ¬ (12 : Int32) ≤ nI i from nI_ge (b := 12) (by omega) (by omega)), zk_gr (show 149 < 154 + 3 * i by omega) (show zs_sh n 149 = (4, 7) from rfl), r0, Option.bind_some, zk_nw sb (hm _ (by omega)) (h6 _ (Nat.le_refl _)), ax_bd_s, zk_len, ax_bd_s, zk_sh (show 154 + 3 * i < 154 + 3 * i + 1 by omega) sb, Option.bind_some, e1, Option.bind_some, zk_aw (show 153 < 154 + 3 * i + 3 by omega) (by omega) (show zs_sh n 153 = (12, 12) from rfl) (show i < 12 by omega) (by omega) (show 154 + 3 * i < 154 + 3 * i + 3 by omega) sb rfl, hR2, Option.bind_some, nI_1]
    exact g1
theorem i_reader (hm : ∀ a, 149 < a → ∀ j, m a j = 0) (hR : ∀ a, 149 ≤ a → ∀ j, R a j = none) : ∃ R', fn_X6_init (some 149) (zK n 150 m R) = some (zK n 190 m R') ∧ zRH R' 12 ∧ ∀ a, a < 149 → R' a = R a := by
  have s149 : zs_sh n 149 = (4, 7) := rfl
  have s150 : zs_sh n 150 = (5, 2) := rfl
  generalize h1 : ax_u2 R 150 0 (some 151) = R1
  generalize h2 : ax_u2 R1 149 0 (some 150) = R2
  generalize h3 : ax_u2 R2 149 1 (some 152) = R3
  generalize h4 : ax_u2 R3 149 2 (some 153) = R4
  have q1 : ∀ a, a ≠ 150 → R1 a = R a := fun a ha => by funext j; rw [← h1]; exact ax_u2_ne ha j
  have q2 : ∀ a, a ≠ 149 → R2 a = R1 a := fun a ha => by funext j; rw [← h2]; exact ax_u2_ne ha j
  have q3 : ∀ a, a ≠ 149 → R3 a = R2 a := fun a ha => by funext j; rw [← h3]; exact ax_u2_ne ha j
  have q4 : ∀ a, a ≠ 149 → R4 a = R3 a := fun a ha => by funext j; rw [← h4]; exact ax_u2_ne ha j
  have z0 : ∀ j, R1 149 j = if j < 0 then zR (fun j => j) 149 j else none := fun j => by rw [q1 _ (by omega), hR _ (by omega), if_neg (by omega)]
  have z1 := zrow_s (k := 0) (r := some 150) z0 (by omega) rfl (fun j a b => by omega)
  rw [h2] at z1
  have z2 := zrow_s (k := 1) (r := some 152) z1 (by omega) rfl (fun j a b => by omega)
  rw [h3] at z2
  have z3 := zrow_s (k := 2) (r := some 153) z2 (by omega) rfl (fun j a b => by omega)
  rw [h4] at z3
  have y0 : ∀ j, R 150 j = if j < 0 then zR (fun j => j) 150 j else none := fun j => by rw [hR _ (by omega), if_neg (by omega)]
  have y1 := zrow_s (k := 0) (r := some 151) y0 (by omega) rfl (fun j a b => by omega)
  rw [h1] at y1
  have n149 : ∀ j, 3 ≤ j → zR (fun j => j) 149 j = none := fun j hj => by
    show (if j = 0 then _ else if j = 1 then _ else if j = 2 then _ else _) = _
    rw [if_neg (by omega), if_neg (by omega), if_neg (by omega)]
  have n150 : ∀ j, 1 ≤ j → zR (fun j => j) 150 j = none := fun j hj => by
    show (if j = 0 then _ else _) = _
    rw [if_neg (by omega)]
  have hst : zRH R4 0 := by
    refine ⟨fun j => ?_, fun j => ?_, fun a ha j => by rw [q4 _ (by omega), q3 _ (by omega), q2 _ (by omega), q1 _ (by omega)]; exact hR a (by omega) j, fun j => by rw [q4 _ (by omega), q3 _ (by omega), q2 _ (by omega), q1 _ (by omega), hR _ (by omega), if_neg (by omega)], fun k h5 h6 => by omega, fun a ha j => by rw [q4 _ (by omega), q3 _ (by omega), q2 _ (by omega), q1 _ (by omega)]; exact hR a (by omega) j⟩
    · rw [z3]
      by_cases hj : j < 2 + 1
      · rw [if_pos hj]
      · rw [if_neg hj, n149 j (by omega)]
    · rw [q4 _ (by omega), q3 _ (by omega), q2 _ (by omega), y1]
      by_cases hj : j < 0 + 1
      · rw [if_pos hj]
      · rw [if_neg hj, n150 j (by omega)]
  obtain ⟨R', e1, e2, e3⟩ := i_reader_lp (n := n) hm 12 0 60 R4 rfl (by omega) hst
  refine ⟨R', ?_, e2, fun a ha => by rw [e3 a ha, q4 _ (by omega), q3 _ (by omega), q2 _ (by omega), q1 _ (by omega)]⟩
  rw [nI_0] at e1
  have h8 : fn_X8_init (some 150) (zK n (150 + 1) m R) = some (zK n 152 m R1) := by
    unfold fn_X8_init
    rw [zk_sh (show 150 < 150 + 1 by omega) s150, Option.bind_some, zk_nw (show zs_sh n (150 + 1) = (8, 80) from rfl) (hm _ (by omega)) (hR _ (by omega)), ax_bd_s, zk_len, ax_bd_s, zk_pr (show 150 < 150 + 1 + 1 by omega) s150, h1, Option.bind_some]
  unfold fn_X6_init
  rw [zk_sh (show 149 < 150 by omega) s149, Option.bind_some, zk_nw s150 (hm _ (by omega)) (hR _ (by omega)), ax_bd_s, zk_len, ax_bd_s, zk_sh (show 150 < 150 + 1 by omega) s150, Option.bind_some, h8, Option.bind_some, zk_pr (show 149 < 152 by omega) s149, h2, Option.bind_some]
  rw [zk_nw (show zs_sh n 152 = (9, 4) from rfl) (hm _ (by omega)) (fun j => by rw [q2 _ (by omega), q1 _ (by omega)]; exact hR _ (by omega) j), ax_bd_s, zk_len, ax_bd_s, zk_pr (show 149 < 152 + 1 by omega) s149, h3, Option.bind_some]
  rw [zk_nw (show zs_sh n (152 + 1) = (12, 12) from rfl) (hm _ (by omega)) (fun j => by rw [q3 _ (by omega), q2 _ (by omega), q1 _ (by omega)]; exact hR _ (by omega) j), ax_bd_s, zk_len, ax_bd_s, zk_pr (show 149 < 152 + 1 + 1 by omega) s149, h4, Option.bind_some]
  exact e1
end INIT2
