/-! ===== painting, the model ===== -/
theorem z_toI {a b : Nat} (ha : a < 2 ^ 30) (hb : b < 2 ^ 30) : (nI a - nI b).toInt = (a : Int) - b := by
  rw [Int32.toInt_sub, nI_toInt (by omega), nI_toInt (by omega)]
  apply Int.bmod_eq_of_le <;> omega
theorem z_negle {e : Nat} (he : e < 2 ^ 30) : (-nI e).toInt = -(e : Int) := by
  have := z_toI (a := 0) (b := e) (by omega) he
  rw [nI_0, Int32.zero_sub] at this
  omega
theorem z_gt0 {a : Nat} (h : 0 < a) (h2 : a < 2 ^ 31) : (0 : Int32) < nI a := nI_lt (a := 0) h h2
theorem zlim_mod {x : Int32} : (if 0 ≤ x then (if x ≤ 255 then x else 255) else 0) = zlim x := by
  unfold zlim
  by_cases h1 : x < 255
  · rw [if_pos h1]
    by_cases h2 : 0 < x
    · rw [if_pos h2, if_pos (Int32.le_of_lt h2), if_pos (Int32.le_of_lt h1)]
    · rw [if_neg h2]
      by_cases h3 : 0 ≤ x
      · have : x = 0 := Int32.le_antisymm (Int32.not_lt.mp h2) h3
        rw [this]
        rfl
      · rw [if_neg h3]
  · rw [if_neg h1, if_pos (show (0 : Int32) < 255 by decide)]
    have h2 := Int32.not_lt.mp h1
    rw [if_pos (Int32.le_trans (show (0 : Int32) ≤ 255 by decide) h2)]
    by_cases h3 : x ≤ 255
    · rw [if_pos h3]
      exact Int32.le_antisymm h3 h2
    · rw [if_neg h3]
theorem zlim_in (x : Int32) : ∃ a, a ≤ 255 ∧ zlim x = nI a := by
  have h : 0 ≤ zlim x ∧ zlim x ≤ 255 := by
    unfold zlim
    by_cases h1 : x < 255
    · rw [if_pos h1]
      by_cases h2 : 0 < x
      · rw [if_pos h2]
        exact ⟨Int32.le_of_lt h2, Int32.le_of_lt h1⟩
      · rw [if_neg h2]
        decide
    · rw [if_neg h1, if_pos (by decide)]
      decide
  exact z_in (N := 255) (by omega) h.1 h.2
def zir (V : Nat → Nat → Int32) (x : Nat) (f : Int32) : Prop := V x 1 ≤ f ∧ f ≤ V x 2
section MADE
variable {n N x k : Nat} {m : Nat → Nat → Int32} {p : Nat → Nat} {V : Nat → Nat → Int32} {w : Nat → Nat → Int32} {f : Int32}
theorem f_mrange (hG : zGM m N V) (hN : N ≤ 12) (hx : x < N) : fn_X10_isInRange (some 275) (nI x) f (zC n m p) = some (zB (V x 1 ≤ f ∧ f ≤ V x 2), zC n m p) := by
  unfold fn_X10_isInRange fi_X10_isInRange fn_X10_at
  rw [z_mr, show zR p 275 0 = some 276 from rfl]
  simp only [Option.bind_some]
  rw [show (1 : Int32) + 10 * nI x + 1 = nI (1 + 10 * x + 1) from z_at x 1, z_v (by omega), hG.2.1 x 1 hx (by omega)]
  simp only [Option.bind_some]
  rw [z_mr, show zR p 275 0 = some 276 from rfl]
  simp only [Option.bind_some]
  rw [show (1 : Int32) + 10 * nI x + 2 = nI (1 + 10 * x + 2) from z_at x 2, z_v (by omega), hG.2.1 x 2 hx (by omega)]
  simp only [Option.bind_some]
  rw [f_in]
  simp only [Option.bind_some]
  exact zB_bz
theorem f_limit (s : ax_S) (v : Int32) : fn_X10_limit v s = some (zlim v, s) := by
  unfold fn_X10_limit
  rw [← zlim_mod]
  split
  · split <;> rfl
  · rfl
theorem f_keyed {a b c d : Nat} (ha : a ≤ 255) (hb : b ≤ 255) (hc : c ≤ 255) (hd : d ≤ 99) (s : ax_S) : fn_X10_keyed (nI a) (nI b) (nI c) (nI d) s = some (zmask (nI a) (nI b) (nI c) (nI d), s) := by
  have hd1 : nI d + 1 ≠ 0 := by rw [nI_1]; exact nI_ne0 (by omega) (by omega)
  unfold fn_X10_keyed zmask
  by_cases h1 : b ≤ c
  · rw [if_pos (nI_le h1 (by omega)), if_pos (nI_le h1 (by omega))]
    by_cases h2 : b ≤ a
    · rw [if_pos (nI_le h2 (by omega))]
      by_cases h3 : a ≤ c
      · rw [if_pos (nI_le h3 (by omega))]
        have e : (if 0 < (if nI b - nI a < nI a - nI c then nI a - nI c else nI b - nI a) then (if nI b - nI a < nI a - nI c then nI a - nI c else nI b - nI a) else 0) = 0 := by
          rw [if_neg]
          split
          · rw [Int32.lt_iff_toInt_lt, z_toI (by omega) (by omega)]
            simp
            omega
          · rw [Int32.lt_iff_toInt_lt, z_toI (by omega) (by omega)]
            simp
            omega
        rw [e, if_pos (z_pos (by omega))]
        unfold fb_X10_keyed_30
        rw [if_pos rfl, show (255 : Int32) * 0 = 0 from by decide, Int32.zero_div, Int32.sub_zero]
      · rw [if_neg (nI_ge (by omega) (by omega))]
        have e : (if 0 < (if nI b - nI a < nI a - nI c then nI a - nI c else nI b - nI a) then (if nI b - nI a < nI a - nI c then nI a - nI c else nI b - nI a) else 0) = nI (a - c) := by
          rw [if_pos (show nI b - nI a < nI a - nI c by rw [Int32.lt_iff_toInt_lt, z_toI (by omega) (by omega), z_toI (by omega) (by omega)]; omega), nI_sub (by omega), if_pos (z_gt0 (by omega) (by omega))]
        rw [e]
        unfold fb_X10_keyed_30
        rw [nI_sub (by omega), if_neg (nI_ne0 (by omega) (by omega))]
        by_cases h4 : nI (a - c) ≤ nI d
        · rw [if_pos h4, if_pos h4, if_neg hd1, Option.bind_some]
        · rw [if_neg h4, if_neg h4]
    · rw [if_neg (nI_ge (by omega) (by omega))]
      have e : (if 0 < (if nI b - nI a < nI a - nI c then nI a - nI c else nI b - nI a) then (if nI b - nI a < nI a - nI c then nI a - nI c else nI b - nI a) else 0) = nI (b - a) := by
        rw [if_neg (show ¬ nI b - nI a < nI a - nI c by rw [Int32.lt_iff_toInt_lt, z_toI (by omega) (by omega), z_toI (by omega) (by omega)]; omega), nI_sub (by omega), if_pos (z_gt0 (by omega) (by omega))]
      rw [e]
      unfold fb_X10_keyed_30
      rw [nI_sub (by omega), if_neg (nI_ne0 (by omega) (by omega))]
      by_cases h4 : nI (b - a) ≤ nI d
      · rw [if_pos h4, if_pos h4, if_neg hd1, Option.bind_some]
      · rw [if_neg h4, if_neg h4]
  · rw [if_neg (nI_ge (by omega) (by omega)), if_neg (nI_ge (by omega) (by omega))]
def zSeen (n : Nat) (m : Nat → Nat → Int32) (p : Nat → Nat) (V : Nat → Nat → Int32) (x : Nat) (f : Int32) (w : Nat → Nat → Int32) : Prop := ∀ i k, i < 3 → (i = 0 ∨ zir V x f) → k < 96 → fn_X10_seen (some 275) (nI x) (nI i) f (nI k) (zC n m p) = some (w i k, zC n m p)
theorem f_mblur2 (hs : zSeen n m p V x f w) {r : Nat} (hk : k < 96) (hr : r < 4) : ∀ (d c t fu : Nat) (acc : Int32), c + d = k % 8 + r + 1 → d < fu → 0 < t + (min 7 (k % 8 + r) + 1 - c) → t + d < 1000 → fb_X10_blurred_15 fu (some 275) (nI x) f (nI k) (nI r) acc (nI t) (nI c) (zC n m p) = some (zbl (w 0) (k - k % 8) (min 7 (k % 8 + r) + 1 - c) c acc / nI (t + (min 7 (k % 8 + r) + 1 - c)), zC n m p) := by
  intro d
  induction d with
  | zero =>
    intro c t f hc1 hc2 hc3 ht h9
    obtain ⟨f, rfl⟩ : ∃ k, f = k + 1 := ⟨f - 1, by omega⟩
    have e0 : min 7 (k % 8 + r) + 1 - c = 0 := by omega
    rw [e0] at ht ⊢
    unfold fb_X10_blurred_15
    rw [z_rem8 hk, nI_add, if_pos (nI_lt (by omega) (by omega)), if_neg (nI_ne0 (by omega) (by omega)), Option.bind_some]
    rfl
  | succ d ih =>
    intro c t fu acc hc hf ht h9
    obtain ⟨fu, rfl⟩ : ∃ k, fu = k + 1 := ⟨fu - 1, by omega⟩
    unfold fb_X10_blurred_15
    rw [z_rem8 hk, nI_add, if_neg (nI_nlt (by omega) (by omega)), f_in, Option.bind_some, nI_1]
    by_cases h7 : c ≤ 7
    · rw [zB_t ⟨z_pos (by omega), nI_le (b := 7) h7 (by omega)⟩]
      dsimp only
      rw [if_neg (by decide), z_mo 0, Option.bind_some, nI_sub (by omega), nI_add, show (0 : Int32) = nI 0 from rfl, hs 0 _ (by omega) (Or.inl rfl) (by omega), Option.bind_some]
      unfold ax_bd
      dsimp only
      rw [nI_1]
      have e1 : min 7 (k % 8 + r) + 1 - c = (min 7 (k % 8 + r) + 1 - (c + 1)) + 1 := by omega
      rw [e1, show t + (min 7 (k % 8 + r) + 1 - (c + 1) + 1) = t + 1 + (min 7 (k % 8 + r) + 1 - (c + 1)) by omega]
      exact ih (c + 1) (t + 1) fu _ (by omega) (by omega) (by omega) (by omega)
    · rw [zB_f (fun q => nI_ge (a := 7) (b := c) (by omega) (by omega) q.2)]
      dsimp only
      rw [if_pos rfl]
      have e1 : min 7 (k % 8 + r) + 1 - c = 0 := by omega
      have e2 : min 7 (k % 8 + r) + 1 - (c + 1) = 0 := by omega
      have ih1 := ih (c + 1) t fu acc (by omega) (by omega) (by omega) (by omega)
      rw [e1]
      rw [e2] at ih1
      exact ih1
theorem f_mblur1 {r : Nat} (hk : k < 96) (hr : r < 4) {fu : Nat} {acc t : Int32} : ∀ e, e < 100 → fb_X10_blurred_15 (fu + e) (some 275) (nI x) f (nI k) (nI r) acc t (-nI e) (zC n m p) = fb_X10_blurred_15 fu (some 275) (nI x) f (nI k) (nI r) acc t 0 (zC n m p) := by
  intro e
  induction e with
  | zero =>
    intro he
    rw [nI_0, Int32.neg_zero]
    rfl
  | succ e ih =>
    intro he
    have hneg : ¬ (0 : Int32) ≤ -nI (e + 1) := by
      rw [Int32.le_iff_toInt_le, z_negle (by omega)]
      simp
    rw [← ih (by omega), show fu + (e + 1) = (fu + e) + 1 from rfl]
    conv => lhs; unfold fb_X10_blurred_15
    rw [z_rem8 hk, nI_add, if_neg (fun q => hneg (Int32.le_of_lt (Int32.lt_of_le_of_lt (z_pos (by omega)) q))), f_in, Option.bind_some, zB_f (fun q => hneg q.1)]
    dsimp only
    rw [if_pos rfl, show -nI (e + 1) + 1 = -nI e by rw [nI_succ, Int32.neg_add, Int32.sub_add_cancel]]
theorem f_mblur (hs : zSeen n m p V x f w) {r : Nat} (hk : k < 96) (hr : r < 4) : fn_X10_blurred (some 275) (nI x) f (nI k) (nI r) (zC n m p) = some (zblur (w 0) k r, zC n m p) := by
  unfold fn_X10_blurred
  unfold ax_bd
  dsimp only
  rw [z_rem8 hk]
  have hz : ∀ c fu, c = k % 8 - r → 20 < fu → fb_X10_blurred_15 fu (some 275) (nI x) f (nI k) (nI r) 0 0 (nI c) (zC n m p) = some (zblur (w 0) k r, zC n m p) := fun c fu hc hfu => by
    have := f_mblur2 hs hk hr (k % 8 + r + 1 - c) c 0 fu 0 (by omega) (by omega) (by omega) (by omega)
    rw [nI_0, Nat.zero_add] at this
    rw [this]
    unfold zblur zbn
    rw [← hc]
  by_cases h : r ≤ k % 8
  · rw [nI_sub h]
    exact hz _ _ rfl (by omega)
  · have e1 : nI (k % 8) - nI r = -nI (r - k % 8) := by rw [← nI_sub (show k % 8 ≤ r by omega), Int32.neg_sub]
    rw [e1]
    have h2 := f_mblur1 (n := n) (m := m) (p := p) (x := x) (f := f) (r := r) (fu := 10000 - (r - k % 8)) (acc := 0) (t := 0) hk hr (r - k % 8) (by omega)
    rw [show 10000 - (r - k % 8) + (r - k % 8) = 10000 by omega] at h2
    rw [h2]
    have h3 := hz 0 (10000 - (r - k % 8)) (by omega) (by omega)
    rw [nI_0] at h3
    exact h3
/-- a picture's values: in its range, or those of its first input -/
noncomputable def zpc (V : Nat → Nat → Int32) (x : Nat) (f : Int32) (w : Nat → Nat → Int32) (k : Nat) : Int32 := @ite _ (zir V x f) (Classical.propDecidable _) (zpt V x f w k) (w 0 k)
def zwb (u : Nat → Int32) : Prop := ∀ k, k < 96 → ∃ a, a ≤ 255 ∧ u k = nI a
theorem z_rem4 {j : Nat} (hj : j < 96) : nI j - nI j / 4 * 4 = nI (j % 4) := pk_rem (a := j) (d := 4) (by omega) (by omega) (by omega)
theorem z_rem32 {j : Nat} (hj : j < 96) : nI j - nI j / 32 * 32 = nI (j % 32) := pk_rem (a := j) (d := 32) (by omega) (by omega) (by omega)
theorem f_made (hG : zGM m N V) (hOK : zOK N V) (hx : x < N) (hs : zSeen n m p V x f w) (hw : zwb (w 0)) (h0 : V x 0 = 0 → ∀ k, w 0 k = 0) (hk : k < 96) : fn_X10_made (some 275) (nI x) f (nI k) (zC n m p) = some (zpc V x f w k, zC n m p) := by
  have hN := hOK.1
  obtain ⟨kd, hk7, hk2, hq⟩ := zOK_par hOK hx
  have hkind : m 276 (1 + 10 * x) = V x 0 := hG.2.1 x 0 hx (by omega)
  have hpar : ∀ q, q < zpn kd → q < 4 → ax_al (zC n m p) 9 (some 276) (nI (1 + 10 * x + 6) + nI q) = some (V x (6 + q)) := fun q h1 h2 => by
    rw [nI_add, z_v (by omega), show 1 + 10 * x + 6 + q = 1 + 10 * x + (6 + q) by omega, hG.2.2 x kd q hx hk7 hk2 h1]
  have hpar0 : 0 < zpn kd → ax_al (zC n m p) 9 (some 276) (nI (1 + 10 * x + 6)) = some (V x 6) := fun h1 => by
    rw [z_v (by omega)]
    exact congrArg some (hG.2.2 x kd 0 hx hk7 hk2 h1)
  have hs0 : ∀ k, k < 96 → fn_X10_seen (some 275) (nI x) 0 f (nI k) (zC n m p) = some (w 0 k, zC n m p) := fun k hk => hs 0 k (by omega) (Or.inl rfl) hk
  have hvr : ax_gr (zC n m p) 7 0 (some 275) = some (some 276) := by rw [z_mr]; rfl
  unfold fn_X10_made
  rw [z_mo 0, Option.bind_some, f_mkind (by omega), hkind, Option.bind_some, z_mo 0, Option.bind_some, f_mrange hG hN hx, Option.bind_some]
  unfold zpc
  by_cases hir : zir V x f
  · rw [if_pos hir, zB_t (show V x 1 ≤ f ∧ f ≤ V x 2 from hir)]
    dsimp only
    rw [if_neg (by decide)]
    unfold ax_bd fn_X10_at
    dsimp only
    rw [Option.bind_some, z_div32 hk, show (1 : Int32) + 10 * nI x + 6 = nI (1 + 10 * x + 6) from z_at x 6]
    dsimp only
    rw [hvr, z_mo 0]
    simp only [Option.bind_some]
    unfold zpt
    have hc : kd = 0 ∨ kd = 1 ∨ kd = 2 ∨ kd = 3 ∨ kd = 4 ∨ kd = 5 ∨ kd = 6 := by omega
    rcases hc with rfl | rfl | rfl | rfl | rfl | rfl | rfl
    · rw [hk2, if_pos (by decide), if_pos (by decide), hpar0 (by decide), Option.bind_some]
      unfold zsrc
      rw [z_div32 hk]
    · rw [hk2, if_neg (by decide), if_pos (by decide), if_neg (by decide), if_pos (by decide), hs0 k hk, Option.bind_some, hvr, Option.bind_some, hpar (k / 32) (by show k / 32 < 3; omega) (by omega), Option.bind_some, f_limit, Option.bind_some]
    · rw [hk2, if_neg (by decide), if_neg (by decide), if_pos (by decide), if_neg (by decide), if_neg (by decide), if_pos (by decide), hs0 k hk, Option.bind_some, hvr, Option.bind_some, hpar (k / 32) (by show k / 32 < 3; omega) (by omega), Option.bind_some, f_limit, Option.bind_some]
    · rw [hk2, if_neg (by decide), if_neg (by decide), if_neg (by decide), if_pos (by decide), if_neg (by decide), if_neg (by decide), if_neg (by decide), if_pos (by decide), hs0 k hk, Option.bind_some]
    · obtain ⟨q1, q2⟩ := hq 0 (by decide)
      obtain ⟨re, hre, e6⟩ := z_in (N := 3) (by omega) q1 q2
      have e6' : V x 6 = nI re := e6
      rw [hk2, if_neg (by decide), if_neg (by decide), if_neg (by decide), if_neg (by decide), if_pos (by decide), if_neg (by decide), if_neg (by decide), if_neg (by decide), if_neg (by decide), if_pos (by decide), hpar0 (by decide), Option.bind_some, e6', f_mblur hs hk (by omega), Option.bind_some, nI_clamp (by omega)]
    · obtain ⟨q1, q2⟩ := hq 0 (by decide)
      obtain ⟨se, hse, e6⟩ := z_in (N := 2) (by omega) q1 q2
      have e6' : V x 6 = nI se := e6
      obtain ⟨lo, hlo, el⟩ := z_in (N := 255) (by omega) (hq 1 (by decide)).1 (hq 1 (by decide)).2
      obtain ⟨hi, hhi, eh⟩ := z_in (N := 255) (by omega) (hq 2 (by decide)).1 (hq 2 (by decide)).2
      obtain ⟨so, hso, es⟩ := z_in (N := 99) (by omega) (hq 3 (by decide)).1 (hq 3 (by decide)).2
      obtain ⟨a, ha, ea⟩ := hw (32 * se + k % 32) (by omega)
      have el' : V x 7 = nI lo := el
      have eh' : V x 8 = nI hi := eh
      have es' : V x 9 = nI so := es
      have h1 := hpar 1 (by decide) (by omega)
      have h2 := hpar 2 (by decide) (by omega)
      have h3 := hpar 3 (by decide) (by omega)
      rw [hk2, if_neg (by decide), if_neg (by decide), if_neg (by decide), if_neg (by decide), if_neg (by decide), if_pos (by decide), if_neg (by decide), if_neg (by decide), if_neg (by decide), if_neg (by decide), if_neg (by decide), if_pos (by decide), hpar0 (by decide), Option.bind_some, e6', show nI k - nI (k / 32) * 32 = nI (k % 32) by rw [← z_div32 hk, z_rem32 hk], show (32 : Int32) * nI se + nI (k % 32) = nI (32 * se + k % 32) by rw [show (32 : Int32) = nI 32 from rfl, pk_mul, nI_add], hs0 _ (by omega), Option.bind_some, hvr, Option.bind_some]
      rw [show (1 : Int32) = nI 1 from rfl, h1, Option.bind_some, Option.bind_some, show (2 : Int32) = nI 2 from rfl, h2, Option.bind_some, Option.bind_some, show (3 : Int32) = nI 3 from rfl, h3, Option.bind_some]
      dsimp only
      rw [show V x (6 + 1) = nI lo from el, show V x (6 + 2) = nI hi from eh, show V x (6 + 3) = nI so from es, nI_clamp (by omega), ea, f_keyed ha hlo hhi hso, Option.bind_some]
    · have hs1 := hs 1 k (by omega) (Or.inr hir) hk
      have hs2 := hs 2 k (by omega) (Or.inr hir) hk
      rw [hk2, if_neg (by decide), if_neg (by decide), if_neg (by decide), if_neg (by decide), if_neg (by decide), if_neg (by decide), if_neg (by decide), if_neg (by decide), if_neg (by decide), if_neg (by decide), if_neg (by decide), if_neg (by decide), hs0 k hk, Option.bind_some, z_mo 0, Option.bind_some, show (2 : Int32) = nI 2 from rfl, hs2, Option.bind_some, z_mo 0, Option.bind_some, show (1 : Int32) = nI 1 from rfl, hs1, Option.bind_some, z_mo 0, Option.bind_some, hs2, Option.bind_some]
  · rw [if_neg hir, zB_f (show ¬ (V x 1 ≤ f ∧ f ≤ V x 2) from hir)]
    dsimp only
    rw [if_pos rfl]
    by_cases hk0 : V x 0 = 0
    · rw [if_pos hk0, h0 hk0]
    · rw [if_neg hk0, z_mo 0, Option.bind_some, hs0 k hk, Option.bind_some]
end MADE
