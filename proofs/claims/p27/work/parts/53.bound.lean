/-! ===== values are 0 .. 255 ===== -/
section BOUND
variable {x k : Nat} {V : Nat → Nat → Int32} {w : Nat → Nat → Int32}
theorem zsrc_b {s f k : Nat} (hs : s ≤ 999) (hf : f < 100) (hk : k < 96) : ∃ a, a ≤ 255 ∧ zsrc (nI s) (nI f) k = nI a := by
  have e : ((((((7 * nI s) + (31 * (nI k - nI k / 8 * 8))) + (17 * ((nI k / 8) - (nI k / 8) / 4 * 4))) + (11 * nI f)) + (53 * (nI k / 32))) + (((nI k - nI k / 8 * 8) * ((nI k / 8) - (nI k / 8) / 4 * 4)) * nI f)) = nI (7 * s + 31 * (k % 8) + 17 * (k / 8 % 4) + 11 * f + 53 * (k / 32) + k % 8 * (k / 8 % 4) * f) := by
    rw [z_rem8 hk, z_div32 hk, show nI k / 8 = nI (k / 8) from pk_div (a := k) (d := 8) (by omega) (by omega) (by omega), z_rem4 (by omega), show (7 : Int32) = nI 7 from rfl, show (31 : Int32) = nI 31 from rfl, show (17 : Int32) = nI 17 from rfl, show (11 : Int32) = nI 11 from rfl, show (53 : Int32) = nI 53 from rfl]
    simp only [pk_mul, nI_add]
  have hb : k % 8 * (k / 8 % 4) ≤ 7 * 3 := Nat.mul_le_mul (by omega) (by omega)
  have hc : k % 8 * (k / 8 % 4) * f ≤ 7 * 3 * 99 := Nat.mul_le_mul hb (by omega)
  unfold zsrc
  rw [e]
  exact ⟨_, by omega, pk_rem (a := 7 * s + 31 * (k % 8) + 17 * (k / 8 % 4) + 11 * f + 53 * (k / 32) + k % 8 * (k / 8 % 4) * f) (d := 256) (by omega) (by omega) (by omega)⟩
theorem zbl_b {w : Nat → Int32} {b : Nat} : ∀ (d c A : Nat), (∀ i, c ≤ i → i < c + d → ∃ a, a ≤ 255 ∧ w (b + i) = nI a) → ∃ S, S ≤ A + 255 * d ∧ zbl w b d c (nI A) = nI S := by
  intro d
  induction d with
  | zero => intro c A h; exact ⟨A, by omega, rfl⟩
  | succ d ih =>
    intro c A h
    obtain ⟨a, ha, e⟩ := h c (by omega) (by omega)
    obtain ⟨S, h1, h2⟩ := ih (c + 1) (A + a) (fun i h1 h2 => h i (by omega) (by omega))
    refine ⟨S, by omega, ?_⟩
    unfold zbl
    rw [e, nI_add]
    exact h2
theorem zblur_b {w : Nat → Int32} {r : Nat} (hk : k < 96) (hr : r < 4) (hw : zwb w) : ∃ a, a ≤ 255 ∧ zblur w k r = nI a := by
  have hn : 0 < zbn (k % 8) r := by unfold zbn; omega
  have hn2 : zbn (k % 8) r ≤ 8 := by unfold zbn; omega
  obtain ⟨S, h1, h2⟩ := zbl_b (w := w) (b := k - k % 8) (zbn (k % 8) r) (k % 8 - r) 0 (fun i h1 h2 => hw _ (by unfold zbn at h2; omega))
  rw [nI_0] at h2
  refine ⟨S / zbn (k % 8) r, ?_, ?_⟩
  · exact Nat.div_le_of_le_mul (by rw [Nat.mul_comm]; omega)
  · unfold zblur
    rw [h2, pk_div (by omega) hn (by omega)]
theorem zmask_b {a b c d : Nat} (hd : d ≤ 99) : ∃ v, v ≤ 255 ∧ zmask (nI a) (nI b) (nI c) (nI d) = nI v := by
  unfold zmask
  by_cases h1 : nI b ≤ nI c
  · rw [if_pos h1]
    generalize hv : (if 0 < (if nI b - nI a < nI a - nI c then nI a - nI c else nI b - nI a) then (if nI b - nI a < nI a - nI c then nI a - nI c else nI b - nI a) else 0) = v
    have h0 : 0 ≤ v := by
      rw [← hv]
      generalize (if nI b - nI a < nI a - nI c then nI a - nI c else nI b - nI a) = u
      by_cases h2 : 0 < u
      · rw [if_pos h2]; exact Int32.le_of_lt h2
      · rw [if_neg h2]; decide
    by_cases h2 : v ≤ nI d
    · rw [if_pos h2]
      obtain ⟨t, ht, rfl⟩ := z_in (N := d) (by omega) h0 h2
      have hdiv : 255 * t / (d + 1) ≤ 255 := Nat.div_le_of_le_mul (by rw [Nat.mul_comm]; exact Nat.mul_le_mul (by omega) (by omega))
      refine ⟨255 - 255 * t / (d + 1), Nat.sub_le _ _, ?_⟩
      rw [show (255 : Int32) = nI 255 from rfl, pk_mul, nI_1, pk_div (by omega) (by omega) (by omega), nI_sub hdiv]
    · rw [if_neg h2]
      exact ⟨0, by omega, rfl⟩
  · rw [if_neg h1]
    exact ⟨0, by omega, rfl⟩
theorem zpt_b {f : Nat} (hV : zPar V x) (hf : f < 100) (h0 : zwb (w 0)) (h1 : zwb (w 1)) (h2 : zwb (w 2)) : zwb (zpt V x (nI f) w) := by
  intro k hk
  obtain ⟨kd, hk7, hk2, hq⟩ := hV
  unfold zpt
  have hc : kd = 0 ∨ kd = 1 ∨ kd = 2 ∨ kd = 3 ∨ kd = 4 ∨ kd = 5 ∨ kd = 6 := by omega
  rcases hc with rfl | rfl | rfl | rfl | rfl | rfl | rfl
  · obtain ⟨s, hs, es⟩ := z_in (N := 999) (by omega) (hq 0 (by decide)).1 (hq 0 (by decide)).2
    rw [hk2, if_pos (by decide), show V x 6 = nI s from es]
    exact zsrc_b hs hf hk
  · rw [hk2, if_neg (by decide), if_pos (by decide)]
    exact zlim_in _
  · rw [hk2, if_neg (by decide), if_neg (by decide), if_pos (by decide)]
    exact zlim_in _
  · obtain ⟨a, ha, ea⟩ := h0 k hk
    rw [hk2, if_neg (by decide), if_neg (by decide), if_neg (by decide), if_pos (by decide), ea]
    exact ⟨255 - a, by omega, nI_sub (a := 255) ha⟩
  · obtain ⟨re, hre, e6⟩ := z_in (N := 3) (by omega) (hq 0 (by decide)).1 (hq 0 (by decide)).2
    rw [hk2, if_neg (by decide), if_neg (by decide), if_neg (by decide), if_neg (by decide), if_pos (by decide), show V x 6 = nI re from e6, nI_clamp (by omega)]
    exact zblur_b hk (by omega) h0
  · obtain ⟨se, hse, e6⟩ := z_in (N := 2) (by omega) (hq 0 (by decide)).1 (hq 0 (by decide)).2
    obtain ⟨lo, hlo, el⟩ := z_in (N := 255) (by omega) (hq 1 (by decide)).1 (hq 1 (by decide)).2
    obtain ⟨hi, hhi, eh⟩ := z_in (N := 255) (by omega) (hq 2 (by decide)).1 (hq 2 (by decide)).2
    obtain ⟨so, hso, es⟩ := z_in (N := 99) (by omega) (hq 3 (by decide)).1 (hq 3 (by decide)).2
    obtain ⟨a, ha, ea⟩ := h0 (32 * se + k % 32) (by omega)
    rw [hk2, if_neg (by decide), if_neg (by decide), if_neg (by decide), if_neg (by decide), if_neg (by decide), if_pos (by decide), show V x 6 = nI se from e6, nI_clamp (by omega), ea, show V x 7 = nI lo from el, show V x 8 = nI hi from eh, show V x 9 = nI so from es]
    exact zmask_b hso
  · obtain ⟨a, ha, ea⟩ := h0 k hk
    obtain ⟨b, hb, eb⟩ := h1 k hk
    obtain ⟨c, hc, ec⟩ := h2 k hk
    rw [hk2, if_neg (by decide), if_neg (by decide), if_neg (by decide), if_neg (by decide), if_neg (by decide), if_neg (by decide), ea, eb, ec]
    have g1 : a * (255 - c) ≤ 255 * (255 - c) := Nat.mul_le_mul ha (Nat.le_refl _)
    have g2 : b * c ≤ 255 * c := Nat.mul_le_mul hb (Nat.le_refl _)
    refine ⟨(a * (255 - c) + b * c) / 255, by omega, ?_⟩
    rw [show (255 : Int32) = nI 255 from rfl, nI_sub hc, pk_mul, pk_mul, nI_add, pk_div (by omega) (by omega) (by omega)]
theorem zpc_b {f : Nat} (hV : zPar V x) (hf : f < 100) (h0 : zwb (w 0)) (h1 : zir V x (nI f) → zwb (w 1) ∧ zwb (w 2)) : zwb (zpc V x (nI f) w) := by
  intro k hk
  unfold zpc
  by_cases h : zir V x (nI f)
  · rw [if_pos h]
    exact zpt_b hV hf h0 (h1 h).1 (h1 h).2 k hk
  · rw [if_neg h]
    exact h0 k hk
end BOUND
