/-! ===== the constructors ===== -/
def zK (n k : Nat) (m : Nat → Nat → Int32) (R : Nat → Nat → Option Nat) : ax_S := ((List.range k).map (zs_sh n), m, R)
section INIT
variable {n k a t l j i b g v : Nat} {m : Nat → Nat → Int32} {R : Nat → Nat → Option Nat} {x : Int32} {r : Option Nat}
theorem zk_len : (zK n k m R).1.length = k := by
  show ((List.range k).map (zs_sh n)).length = k
  rw [List.length_map, List.length_range]
theorem zk_get (h : a < k) : ((List.range k).map (zs_sh n))[a]? = some (zs_sh n a) := by
  rw [List.getElem?_map, List.getElem?_range h]
  rfl
theorem zk_sh (h : a < k) (hs : zs_sh n a = (t, l)) : ax_sh (zK n k m R) t (some a) = some (a, l) := by
  unfold ax_sh zK
  simp only [zk_get h, hs, if_true]
theorem zk_nw (hs : zs_sh n k = (t, l)) (hm : ∀ j, m k j = 0) (hR : ∀ j, R k j = none) : ax_nw (zK n k m R) t l = zK n (k + 1) m R := by
  unfold ax_nw
  rw [zk_len]
  have e1 : (zK n k m R).1 ++ [(t, l)] = (List.range (k + 1)).map (zs_sh n) := by
    show (List.range k).map (zs_sh n) ++ [(t, l)] = _
    rw [List.range_succ, List.map_append, ← hs]
    rfl
  have e2 : (fun a j => if a = k then (0 : Int32) else (zK n k m R).2.1 a j) = m := by
    funext a j
    by_cases h : a = k
    · rw [if_pos h, h, hm]
    · exact if_neg h
  have e3 : (fun a j => if a = k then (none : Option Nat) else (zK n k m R).2.2 a j) = R := by
    funext a j
    by_cases h : a = k
    · rw [if_pos h, h, hR]
    · exact if_neg h
  rw [e1, e2, e3]
  rfl
theorem zk_pr (h : a < k) (hs : zs_sh n a = (t, l)) : ax_pr (zK n k m R) t j (some a) r = some (zK n k m (ax_u2 R a j r)) := by
  unfold ax_pr
  rw [zk_sh h hs]
  rfl
theorem zk_pi (h : a < k) (hs : zs_sh n a = (t, l)) : ax_pi (zK n k m R) t j (some a) x = some (zK n k (ax_u2 m a j x) R) := by
  unfold ax_pi
  rw [zk_sh h hs]
  rfl
theorem zk_gr (h : a < k) (hs : zs_sh n a = (t, l)) : ax_gr (zK n k m R) t j (some a) = some (R a j) := by
  unfold ax_gr
  rw [zk_sh h hs]
  rfl
theorem zk_ix (h : a < k) (hs : zs_sh n a = (t, l)) (hi : i < l) (hl : i < 2 ^ 31) : ax_ix (zK n k m R) t (some a) (nI i) = some (a, i) := by
  unfold ax_ix
  rw [zk_sh h hs]
  simp only [Option.bind_some, nI_clamp hl]
  rw [if_neg]
  intro hh
  rcases hh with hh | hh
  · exact nI_pos hl hh
  · omega
theorem zk_as (h : a < k) (h9 : 9 ≤ a) (hs : zs_sh n a = (t, l)) (hi : i < l) (hl : i < 2 ^ 31) : ax_as (zK n k m R) t (some a) (nI i) x = some (zK n k (ax_u2 m a i x) R) := by
  unfold ax_as
  rw [zk_ix h hs hi hl]
  simp only [Option.bind_some]
  rw [if_neg (by omega)]
  rfl
theorem zk_aw {u l' : Nat} (h : a < k) (h9 : 9 ≤ a) (hs : zs_sh n a = (t, l)) (hi : i < l) (hl : i < 2 ^ 31) (hv : v < k) (hu : zs_sh n v = (u, l')) (htu : t - 10 = u) : ax_aw (zK n k m R) t (some a) (nI i) (some v) = some (zK n k m (ax_u2 R a i (some v))) := by
  unfold ax_aw
  rw [zk_ix h hs hi hl]
  simp only [Option.bind_some]
  rw [if_neg (by omega), htu, zk_sh hv hu]
  rfl
theorem ax_bd_s {α β : Type} (x : α) (f : α → β) : ax_bd x f = f x := rfl
theorem zg_r0 : zg_r g (5 + 3 * i) j = if j = 3 then some (g + 5 + 3 * i + 1) else if j = 4 then some (g + 5 + 3 * i + 2) else none := by
  unfold zg_r
  rw [if_neg (by omega), if_neg (by omega), if_neg (by omega), if_pos (by omega), show g + (5 + 3 * i) + 1 = g + 5 + 3 * i + 1 by omega, show g + (5 + 3 * i) + 2 = g + 5 + 3 * i + 2 by omega]
theorem zg_r1 : zg_r g (5 + 3 * i + 1) j = none := by
  unfold zg_r
  rw [if_neg (by omega), if_neg (by omega), if_neg (by omega), if_neg (by omega)]
theorem zg_r2 : zg_r g (5 + 3 * i + 2) j = none := by
  unfold zg_r
  rw [if_neg (by omega), if_neg (by omega), if_neg (by omega), if_neg (by omega)]
theorem i_node (s0 : zs_sh n b = (2, 5)) (s1 : zs_sh n (b + 1) = (9, 3)) (s2 : zs_sh n (b + 2) = (9, 4)) (hm : ∀ a, b < a → ∀ j, m a j = 0) (hR : ∀ a, b ≤ a → ∀ j, R a j = none) : ∃ R', fn_X3_init (some b) (zK n (b + 1) m R) = some (zK n (b + 3) m R') ∧ (∀ j, R' b j = if j = 3 then some (b + 1) else if j = 4 then some (b + 2) else none) ∧ ∀ a, a ≠ b → R' a = R a := by
  refine ⟨ax_u2 (ax_u2 R b 3 (some (b + 1))) b 4 (some (b + 2)), ?_, fun j => ?_, fun a ha => by funext j; rw [ax_u2_ne ha, ax_u2_ne ha]⟩
  · unfold fn_X3_init
    rw [zk_sh (by omega) s0, Option.bind_some, zk_nw s1 (hm _ (by omega)) (hR _ (by omega)), ax_bd_s, zk_len, ax_bd_s, zk_pr (show b < b + 1 + 1 by omega) s0, Option.bind_some, zk_len]
    rw [show b + 1 + 1 = b + 2 from rfl, zk_nw s2 (hm _ (by omega)) (fun j => by rw [ax_u2_ne (by omega)]; exact hR _ (by omega) j), ax_bd_s, ax_bd_s, zk_pr (show b < b + 2 + 1 by omega) s0, Option.bind_some]
  · unfold ax_u2
    by_cases h4 : j = 4
    · subst h4
      simp
    · by_cases h3 : j = 3
      · subst h3
        simp
      · rw [if_neg (fun q => h4 q.2), if_neg (fun q => h3 q.2), if_neg h3, if_neg h4]
        exact hR b (Nat.le_refl _) j
/-- a graph's references, i nodes being there -/
def zGH (R : Nat → Nat → Option Nat) (g i : Nat) : Prop := (∀ j, R (g + 1) j = if j < i then some (g + 5 + 3 * j) else none) ∧ (∀ k, k ≠ 1 → k < 5 + 3 * i → ∀ j, R (g + k) j = zg_r g k j) ∧ ∀ a, g + 5 + 3 * i ≤ a → ∀ j, R a j = none
theorem i_graph_lp (hs : ∀ k, k < 41 → zs_sh n (g + k) = zg_sh k) (h9 : 9 ≤ g) (hm : ∀ a, g < a → ∀ j, m a j = 0) : ∀ (d i f : Nat) (R : Nat → Nat → Option Nat), i + d = 12 → d < f → zGH R g i → ∃ R', fb_X1_init_39 f (some g) (nI i) (zK n (g + 5 + 3 * i) m R) = some (zK n (g + 41) m R') ∧ zGH R' g 12 ∧ ∀ a, a < g → R' a = R a := by
  intro d
  induction d with
  | zero =>
    intro i f R hi hf h
    obtain ⟨f, rfl⟩ : ∃ k, f = k + 1 := ⟨f - 1, by omega⟩
    obtain rfl : i = 12 := by omega
    refine ⟨R, ?_, h, fun _ _ => rfl⟩
    unfold fb_X1_init_39
    rw [if_pos (by decide)]
  | succ d ih =>
    intro i f R hi hf h
    obtain ⟨f, rfl⟩ : ∃ k, f = k + 1 := ⟨f - 1, by omega⟩
    obtain ⟨h1, h2, h3⟩ := h
    have sg : zs_sh n g = (1, 5) := hs 0 (by omega)
    have sg1 : zs_sh n (g + 1) = (12, 12) := hs 1 (by omega)
    have sb : zs_sh n (g + 5 + 3 * i) = (2, 5) := by
      rw [show g + 5 + 3 * i = g + (5 + 3 * i) by omega, hs _ (by omega)]
      unfold zg_sh
      rw [if_neg (by omega), if_neg (by omega), if_neg (by omega), if_pos (by omega)]
    have sb1 : zs_sh n (g + 5 + 3 * i + 1) = (9, 3) := by
      rw [show g + 5 + 3 * i + 1 = g + (5 + 3 * i + 1) by omega, hs _ (by omega)]
      unfold zg_sh
      rw [if_neg (by omega), if_neg (by omega), if_neg (by omega), if_neg (by omega), if_pos (by omega)]
    have sb2 : zs_sh n (g + 5 + 3 * i + 2) = (9, 4) := by
      rw [show g + 5 + 3 * i + 2 = g + (5 + 3 * i + 2) by omega, hs _ (by omega)]
      unfold zg_sh
      rw [if_neg (by omega), if_neg (by omega), if_neg (by omega), if_neg (by omega), if_neg (by omega)]
    obtain ⟨R1, e1, e2, e3⟩ := i_node (m := m) (R := R) sb sb1 sb2 (fun a ha => hm a (by omega)) (fun a ha => h3 a ha)
    have r0 : R g 0 = some (g + 1) := by rw [show g = g + 0 from rfl, h2 0 (by omega) (by omega)]; rfl
    have hz : ∀ a j, a ≠ g + 1 → ax_u2 R1 (g + 1) i (some (g + 5 + 3 * i)) a j = R1 a j := fun a j ha => ax_u2_ne ha j
    have hst : zGH (ax_u2 R1 (g + 1) i (some (g + 5 + 3 * i))) g (i + 1) := by
      refine ⟨fun j => ?_, fun k hk1 hk j => ?_, fun a ha j => ?_⟩
      · by_cases hj : j = i
        · subst hj
          rw [ax_u2_self, if_pos (by omega)]
        · rw [ax_u2_nk hj, e3 _ (by omega), h1]
          by_cases hji : j < i
          · rw [if_pos hji, if_pos (by omega)]
          · rw [if_neg hji, if_neg (by omega)]
      · rw [hz _ _ (by omega)]
        by_cases hk5 : k < 5 + 3 * i
        · rw [e3 _ (by omega)]
          exact h2 k hk1 hk5 j
        · have hc : k = 5 + 3 * i ∨ k = 5 + 3 * i + 1 ∨ k = 5 + 3 * i + 2 := by omega
          rcases hc with rfl | rfl | rfl
          · rw [show g + (5 + 3 * i) = g + 5 + 3 * i by omega, e2, zg_r0]
          · rw [e3 _ (by omega), h3 _ (by omega), zg_r1]
          · rw [e3 _ (by omega), h3 _ (by omega), zg_r2]
      · rw [hz _ _ (by omega), e3 _ (by omega)]
        exact h3 a (by omega) j
    obtain ⟨R', g1, g2, g3⟩ := ih (i + 1) f _ (by omega) (by omega) hst
    refine ⟨R', ?_, g2, fun a ha => by rw [g3 a ha]; funext j; rw [hz _ _ (by omega), e3 _ (by omega)]⟩
    unfold fb_X1_init_39
    rw [if_neg (show ¬ (12 : Int32) ≤ nI i from nI_ge (b := 12) (by omega) (by omega)), zk_gr (show g < g + 5 + 3 * i by omega) sg, r0, Option.bind_some]
    rw [zk_nw sb (hm _ (by omega)) (h3 _ (Nat.le_refl _)), ax_bd_s, zk_len, ax_bd_s, zk_sh (show g + 5 + 3 * i < g + 5 + 3 * i + 1 by omega) sb, Option.bind_some, e1, Option.bind_some, zk_aw (show g + 1 < g + 5 + 3 * i + 3 by omega) (by omega) sg1 (show i < 12 by omega) (by omega) (show g + 5 + 3 * i < g + 5 + 3 * i + 3 by omega) sb rfl, Option.bind_some, nI_1]
    exact g1
theorem i_graph (hs : ∀ k, k < 41 → zs_sh n (g + k) = zg_sh k) (h9 : 9 ≤ g) (hm : ∀ a, g < a → ∀ j, m a j = 0) (hR : ∀ a, g ≤ a → ∀ j, R a j = none) : ∃ R', fn_X1_init (some g) (zK n (g + 1) m R) = some (zK n (g + 41) m R') ∧ (∀ k, k < 41 → ∀ j, R' (g + k) j = zg_r g k j) ∧ (∀ a, g + 41 ≤ a → ∀ j, R' a j = none) ∧ ∀ a, a < g → R' a = R a := by
  have sg : zs_sh n g = (1, 5) := hs 0 (by omega)
  have sg1 : zs_sh n (g + 1) = (12, 12) := hs 1 (by omega)
  have sg2 : zs_sh n (g + 2) = (9, 12) := hs 2 (by omega)
  have sg3 : zs_sh n (g + 3) = (9, 12) := hs 3 (by omega)
  have sg4 : zs_sh n (g + 4) = (9, 12) := hs 4 (by omega)
  generalize h1 : ax_u2 R g 0 (some (g + 1)) = R1
  generalize h2 : ax_u2 R1 g 2 (some (g + 2)) = R2
  generalize h3 : ax_u2 R2 g 3 (some (g + 3)) = R3
  generalize h4 : ax_u2 R3 g 4 (some (g + 4)) = R4
  have q1 : ∀ a j, a ≠ g → R1 a j = R a j := fun a j ha => by rw [← h1]; exact ax_u2_ne ha j
  have q2 : ∀ a j, a ≠ g → R2 a j = R a j := fun a j ha => by rw [← h2, ax_u2_ne ha]; exact q1 a j ha
  have q3 : ∀ a j, a ≠ g → R3 a j = R a j := fun a j ha => by rw [← h3, ax_u2_ne ha]; exact q2 a j ha
  have q4 : ∀ a j, a ≠ g → R4 a j = R a j := fun a j ha => by rw [← h4, ax_u2_ne ha]; exact q3 a j ha
  have hst : zGH R4 g 0 := by
    refine ⟨fun j => by rw [q4 _ _ (by omega), hR _ (by omega), if_neg (by omega)], fun k hk1 hk j => ?_, fun a ha j => by rw [q4 _ _ (by omega)]; exact hR a (by omega) j⟩
    by_cases hk0 : k = 0
    · subst hk0
      rw [← h4, ← h3, ← h2, ← h1]
      unfold ax_u2 zg_r
      by_cases j4 : j = 4
      · subst j4; simp
      · by_cases j3 : j = 3
        · subst j3; simp
        · by_cases j2 : j = 2
          · subst j2; simp
          · by_cases j0 : j = 0
            · subst j0; simp
            · have := hR g (Nat.le_refl _) j
              simp [j4, j3, j2, j0, this]
    · rw [q4 _ _ (by omega), hR _ (by omega)]
      unfold zg_r
      rw [if_neg hk0, if_neg hk1, if_pos (by omega)]
  obtain ⟨R', e1, ⟨e2, e3, e4⟩, e5⟩ := i_graph_lp hs h9 hm 12 0 60 R4 rfl (by omega) hst
  refine ⟨R', ?_, fun k hk j => ?_, fun a ha j => e4 a (by omega) j, fun a ha => by rw [e5 a ha]; funext j; exact q4 a j (by omega)⟩
  · rw [nI_0] at e1
    unfold fn_X1_init
    rw [zk_sh (show g < g + 1 by omega) sg, Option.bind_some, zk_nw sg1 (hm _ (by omega)) (hR _ (by omega)), ax_bd_s, zk_len, ax_bd_s, zk_pr (show g < g + 1 + 1 by omega) sg, h1, Option.bind_some, zk_len]
    rw [show g + 1 + 1 = g + 2 from rfl, zk_nw sg2 (hm _ (by omega)) (fun j => by rw [q1 _ _ (by omega)]; exact hR _ (by omega) j), ax_bd_s, ax_bd_s, zk_pr (show g < g + 2 + 1 by omega) sg, h2, Option.bind_some, zk_len]
    rw [show g + 2 + 1 = g + 3 from rfl, zk_nw sg3 (hm _ (by omega)) (fun j => by rw [q2 _ _ (by omega)]; exact hR _ (by omega) j), ax_bd_s, ax_bd_s, zk_pr (show g < g + 3 + 1 by omega) sg, h3, Option.bind_some, zk_len]
    rw [show g + 3 + 1 = g + 4 from rfl, zk_nw sg4 (hm _ (by omega)) (fun j => by rw [q3 _ _ (by omega)]; exact hR _ (by omega) j), ax_bd_s, ax_bd_s, zk_pr (show g < g + 4 + 1 by omega) sg, h4, Option.bind_some]
    exact e1
  · by_cases hk1 : k = 1
    · subst hk1
      rw [e2]
      rfl
    · exact e3 k hk1 (by omega) j
end INIT
