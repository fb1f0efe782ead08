/-! ===== addAll, copyFrom ===== -/
section ADDALL
variable {n g N C h sa : Nat} {p : Nat → Nat} {V W : Nat → Nat → Int32}
/-- a row of nodes: its array's address, its first node's address less 5 -/
def zSrc (g h sa : Nat) : Prop := (h = 149 ∧ sa = 153) ∨ (zGB h ∧ h ≠ g ∧ sa = h + 1)
theorem zSrc_ok (hg : zGB g) (hs : zSrc g h sa) : (sa < 278 ∧ zs_sh n sa = (12, 12) ∧ ∀ i, i < 12 → zR p sa i = some (h + 5 + 3 * i)) ∧ (∀ i, i < 12 → zNB (h + 5 + 3 * i)) ∧ (h + 41 ≤ g ∨ g + 41 ≤ h + 5) := by
  rcases hs with ⟨rfl, rfl⟩ | ⟨hh, hne, rfl⟩
  · refine ⟨⟨by omega, rfl, fun i hi => by simp [zR, hi]⟩, fun i hi => ⟨149, i, by simp, hi, rfl⟩, ?_⟩
    rcases hg with rfl | rfl | rfl <;> omega
  · obtain ⟨h9, h41, s0, s1, -⟩ := zGB_ok (n := n) (p := p) hh
    refine ⟨⟨by omega, s1, fun i hi => (zGB_node (p := p) hh hi).2⟩, fun i hi => (zGB_node (p := p) hh hi).1, ?_⟩
    rcases hg with rfl | rfl | rfl <;> rcases hh with rfl | rfl | rfl <;> omega
theorem f_addAll_lp (hg : zGB g) (hs : zSrc g h sa) (hNC : N + C ≤ 12) (hok : zOK (N + C) (zVapp N V W)) : ∀ (d j f : Nat) (m : Nat → Nat → Int32), j + d = C → d < f → zGC m g (N + j) (zVapp N V W) → zGN m h C W →
    ∃ m', fb_X1_addAll_2 f (some g) (some sa) (nI C) (nI j) (zC n m p) = some (zC n m' p) ∧ zFg g m m' ∧ zGC m' g (N + C) (zVapp N V W) ∧ zOC m' g (N + C) (zVapp N V W) := by
  obtain ⟨h9, h41, s0, s1, s2, s3, s4, r0, r2, r3, r4⟩ := zGB_ok (n := n) (p := p) hg
  obtain ⟨⟨a1, a2, a3⟩, a4, a5⟩ := zSrc_ok (n := n) (p := p) hg hs
  intro d
  induction d with
  | zero =>
    intro j f m hj hf hG hS
    obtain ⟨f, rfl⟩ : ∃ k, f = k + 1 := ⟨f - 1, by omega⟩
    obtain rfl : j = C := by omega
    obtain ⟨m', d1, d2, d3⟩ := f_arrange (n := n) (p := p) hg hok hG
    refine ⟨m', ?_, zFg_fr d2, zGC_fr hG d2, d3⟩
    unfold fb_X1_addAll_2 fb_X1_addAll_53
    rw [if_pos (nI_le (Nat.le_refl _) (by omega)), z_sh (by omega) (by rw [s0])]
    simp only [Option.bind_some]
    rw [d1]
    rfl
  | succ d ih =>
    intro j f m hj hf hG hS
    obtain ⟨f, rfl⟩ : ∃ k, f = k + 1 := ⟨f - 1, by omega⟩
    obtain ⟨hb, -⟩ := zGB_node (p := p) hg (show N + j < 12 by omega)
    have hc := a4 j (by omega)
    obtain ⟨b9, b1, t0, t1, t2, q3, q4⟩ := zNB_ok (n := n) (p := p) hb
    obtain ⟨m1, c1, c2, c3, c4, c5⟩ := f_ncopy (n := n) (p := p) (m := m) hb hc (fun x y hx hy => by omega)
    have hg1 : m1 g 1 = nI (N + j) := by rw [c2 g (by omega) (by omega) (by omega)]; exact hG.1
    generalize hm2 : ax_u2 m1 g 1 (nI (N + j) + 1) = m2
    have e2 : ∀ a, a ≠ g → m2 a = m1 a := fun a ha => by rw [← hm2]; exact zu2_row ha
    have hap : ∀ w, zVapp N V W (N + j) w = W j w := fun w => by
      unfold zVapp
      rw [if_neg (by omega), show N + j - N = j by omega]
    have hG2 : zGC m2 g (N + (j + 1)) (zVapp N V W) := by
      refine ⟨by rw [← hm2, ax_u2_self, nI_1]; rfl, fun i w hi hw => ?_, fun i c hi hc => ?_, fun i q hi hq => ?_⟩
      · rw [e2 _ (by omega)]
        by_cases hiN : i = N + j
        · subst hiN
          rw [hap, c3 w hw]
          exact hS.1 j w (by omega) hw
        · rw [c2 _ (by omega) (by omega) (by omega)]
          exact hG.2.1 i w (by omega) hw
      · rw [e2 _ (by omega)]
        by_cases hiN : i = N + j
        · subst hiN
          rw [hap, c4 c hc]
          exact hS.2.1 j c (by omega) hc
        · rw [c2 _ (by omega) (by omega) (by omega)]
          exact hG.2.2.1 i c (by omega) hc
      · rw [e2 _ (by omega)]
        by_cases hiN : i = N + j
        · subst hiN
          rw [hap, c5 q hq]
          exact hS.2.2 j q (by omega) hq
        · rw [c2 _ (by omega) (by omega) (by omega)]
          exact hG.2.2.2 i q (by omega) hq
    have hS2 : zGN m2 h C W := zGN_congr hS (fun i hi => by
      refine ⟨?_, ?_, ?_⟩ <;> rw [e2 _ (by omega), c2 _ (by omega) (by omega) (by omega)])
    obtain ⟨m', d1, d2, d3⟩ := ih (j + 1) f m2 (by omega) (by omega) hG2 hS2
    refine ⟨m', ?_, fun a ha => by rw [d2 a ha, e2 a (by omega), c2 a (by omega) (by omega) (by omega)], d3⟩
    unfold fb_X1_addAll_2
    rw [if_neg (nI_ge (by omega) (by omega)), z_ln a1 (by rw [a2])]
    simp only [Option.bind_some]
    rw [a2]
    simp only []
    rw [if_neg (nI_ge (by omega) (by omega)), z_gi (by omega) (by rw [s0]), hG.1]
    simp only [Option.bind_some]
    rw [if_neg (show ¬ (12 : Int32) ≤ nI (N + j) from nI_ge (b := 12) (by omega) (by omega)), z_gr (by omega) (by rw [s0]), r0]
    simp only [Option.bind_some]
    rw [z_nodes hg (by omega)]
    simp only [Option.bind_some]
    rw [z_ar a1 (by rw [a2]) (by rw [a2]; show j < 12; omega) (by omega), a3 j (by omega)]
    simp only [Option.bind_some]
    rw [z_sh (by omega) (by rw [t0])]
    simp only [Option.bind_some]
    rw [c1]
    simp only [Option.bind_some]
    rw [z_gi (by omega) (by rw [s0]), hg1]
    simp only [Option.bind_some]
    rw [z_pi (by omega) (by rw [s0]), hm2]
    simp only [Option.bind_some]
    rw [show nI j + 1 = nI (j + 1) from nI_1 j]
    exact d1
theorem f_addAll {m : Nat → Nat → Int32} (hg : zGB g) (hs : zSrc g h sa) (hNC : N + C ≤ 12) (hok : zOK (N + C) (zVapp N V W)) (hG : zGC m g N V) (hS : zGN m h C W) : ∃ m', fn_X1_addAll (some g) (some sa) (nI C) (zC n m p) = some (zC n m' p) ∧ zFg g m m' ∧ zGC m' g (N + C) (zVapp N V W) ∧ zOC m' g (N + C) (zVapp N V W) := by
  have hG0 : zGC m g (N + 0) (zVapp N V W) := by
    have hv : ∀ i w, i < N → zVapp N V W i w = V i w := fun i w hi => if_pos hi
    exact ⟨hG.1, fun i w hi hw => by rw [hv i w hi]; exact hG.2.1 i w hi hw, fun i k hi hk => by rw [hv i _ hi]; exact hG.2.2.1 i k hi hk, fun i q hi hq => by rw [hv i _ hi]; exact hG.2.2.2 i q hi hq⟩
  obtain ⟨m', d1, d2⟩ := f_addAll_lp (n := n) (p := p) hg hs hNC hok C 0 10000 m (by omega) (by omega) hG0 hS
  rw [nI_0] at d1
  refine ⟨m', ?_, d2⟩
  unfold fn_X1_addAll
  exact d1
theorem f_gcopy {m : Nat → Nat → Int32} (hg : zGB g) (hh : zGB h) (hne : h ≠ g) (hok : zOK C W) (hS : zGC m h C W) : ∃ m', fn_X1_copyFrom (some g) (some h) (zC n m p) = some (zC n m' p) ∧ zFg g m m' ∧ zGC m' g C W ∧ zOC m' g C W := by
  obtain ⟨h9, h41, s0, s1, s2, s3, s4, r0, r2, r3, r4⟩ := zGB_ok (n := n) (p := p) hg
  obtain ⟨h9', h41', s0', s1', s2', s3', s4', r0', r2', r3', r4'⟩ := zGB_ok (n := n) (p := p) hh
  have hs : zSrc g h (h + 1) := Or.inr ⟨hh, hne, rfl⟩
  obtain ⟨-, -, a5⟩ := zSrc_ok (n := n) (p := p) hg hs
  generalize hm1 : ax_u2 m g 1 0 = m1
  have e1 : ∀ a, a ≠ g → m1 a = m a := fun a ha => by rw [← hm1]; exact zu2_row ha
  have hz : zVapp 0 W W = W := by
    funext i w
    unfold zVapp
    rw [if_neg (by omega)]
    rfl
  have hG0 : zGC m1 g 0 W := ⟨by rw [← hm1, ax_u2_self]; rfl, fun i w hi => by omega, fun i k hi => by omega, fun i q hi => by omega⟩
  have hS1 : zGN m1 h C W := zGN_congr hS.2 (fun i hi => by
    have := hok.1
    refine ⟨?_, ?_, ?_⟩ <;> exact e1 _ (by omega))
  have hC := hok.1
  obtain ⟨m', d1, d2, d3, d4⟩ := f_addAll (n := n) (p := p) (N := 0) (C := C) (V := W) (W := W) hg hs (by omega) (by rw [hz, Nat.zero_add]; exact hok) hG0 hS1
  rw [hz, Nat.zero_add] at d3 d4
  refine ⟨m', ?_, fun a ha => by rw [d2 a ha, e1 a (by omega)], d3, d4⟩
  unfold fn_X1_copyFrom
  rw [z_pi (by omega) (by rw [s0]), hm1]
  simp only [Option.bind_some]
  rw [z_gr (by omega) (by rw [s0']), r0']
  simp only [Option.bind_some]
  rw [z_gi (by omega) (by rw [s0']), e1 h hne, hS.1]
  simp only [Option.bind_some]
  rw [z_sh (by omega) (by rw [s0])]
  simp only [Option.bind_some]
  rw [d1]
  rfl
end ADDALL
