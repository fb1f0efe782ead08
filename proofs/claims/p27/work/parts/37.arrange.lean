/-! ===== arrange ===== -/
def zFr (g : Nat) (m m' : Nat → Nat → Int32) : Prop := ∀ a, a ≠ g + 2 → a ≠ g + 3 → a ≠ g + 4 → m' a = m a
theorem zu2_row {m : Nat → Nat → Int32} {a k b : Nat} {x : Int32} (h : b ≠ a) : ax_u2 m a k x b = m b := by
  funext j
  exact ax_u2_ne h j
theorem zGC_fr {m m' : Nat → Nat → Int32} {g N : Nat} {V : Nat → Nat → Int32} (h : zGC m g N V) (hf : zFr g m m') : zGC m' g N V := by
  obtain ⟨h1, h2, h3, h4⟩ := h
  refine ⟨?_, fun i w hi hw => ?_, fun i k hi hk => ?_, fun i q hi hq => ?_⟩
  · rw [hf g (by omega) (by omega) (by omega)]; exact h1
  · rw [hf _ (by omega) (by omega) (by omega)]; exact h2 i w hi hw
  · rw [hf _ (by omega) (by omega) (by omega)]; exact h3 i k hi hk
  · rw [hf _ (by omega) (by omega) (by omega)]; exact h4 i q hi hq
def zAi (m : Nat → Nat → Int32) (g N : Nat) (V : Nat → Nat → Int32) (t : Nat) : Prop := (∀ s, s < t → m (g + 2) s = nI (zord N V s) ∧ m (g + 3) (zord N V s) = nI s) ∧ ∃ D : Nat → Nat, ∀ s, s < t → D (zord N V s) ≤ s ∧ m (g + 4) (zord N V s) = nI (D (zord N V s)) ∧ D (zord N V s) = zmx D (zI V (zord N V s)) 3
section ARR
variable {n g N : Nat} {p : Nat → Nat} {V : Nat → Nat → Int32}
theorem f_arrange_lp (hg : zGB g) (h : zOK N V) : ∀ (d t f : Nat) (m : Nat → Nat → Int32), t + d = N → d < f → zGC m g N V → zAi m g N V t →
    ∃ m', fb_X1_arrange_4 f (some g) (zpl N V t) (nI t) (zC n m p) = some (zC n m' p) ∧ zFr g m m' ∧ zAi m' g N V N := by
  obtain ⟨h9, h41, s0, s1, s2, s3, s4, r0, r2, r3, r4⟩ := zGB_ok (n := n) (p := p) hg
  have hN := h.1
  intro d
  induction d with
  | zero =>
    intro t f m ht hf hG hA
    obtain ⟨f, rfl⟩ : ∃ k, f = k + 1 := ⟨f - 1, by omega⟩
    obtain rfl : t = N := by omega
    refine ⟨m, ?_, fun _ _ _ _ => rfl, hA⟩
    unfold fb_X1_arrange_4
    rw [z_gi (by omega) (by rw [s0]), hG.1]
    simp only [Option.bind_some]
    rw [if_pos (nI_le (Nat.le_refl _) (by omega))]
  | succ d ih =>
    intro t f m ht hf hG hA
    obtain ⟨f, rfl⟩ : ∃ k, f = k + 1 := ⟨f - 1, by omega⟩
    obtain ⟨hA1, D, hA2⟩ := hA
    have hlt : zord N V t < N := zord_lt (by omega)
    have hne : ∀ s, s < t → zord N V s ≠ zord N V t := fun s hs => zord_inj h hs (by omega)
    have hin : ∀ s j k, s ≤ t → j < N → k < 3 → zI V (zord N V s) k = nI j → ∃ s', s' < s ∧ zord N V s' = j := fun s j k hs hj hk e => zord_top h (by omega) hj hk e
    generalize hm1 : ax_u2 m (g + 2) t (nI (zord N V t)) = m1
    generalize hm2 : ax_u2 m1 (g + 3) (zord N V t) (nI t) = m2
    have r1 : ∀ a, a ≠ g + 2 → m1 a = m a := fun a ha => by rw [← hm1]; exact zu2_row ha
    have r2' : ∀ a, a ≠ g + 3 → m2 a = m1 a := fun a ha => by rw [← hm2]; exact zu2_row ha
    have hG2 : zGC m2 g N V := zGC_fr hG (fun a a1 a2 a3 => by rw [r2' a a2, r1 a a1])
    have hdp := f_depth (n := n) (p := p) hg hG2 hN hlt (h.2.1 _ hlt).2.2 D (fun j k hj hk e => by
      obtain ⟨s, hs, es⟩ := hin t j k (Nat.le_refl _) hj hk e
      have h1 := hA2 s hs
      rw [es] at h1
      refine ⟨?_, by omega⟩
      rw [r2' _ (by omega), r1 _ (by omega)]
      exact h1.2.1)
    generalize hc : zmx D (zI V (zord N V t)) 3 = c at hdp
    have hct : c ≤ t := by
      rw [← hc]
      refine zmx_le 3 (fun k hk hn => ?_)
      rcases (h.2.1 _ hlt).2.2 k hk with e | ⟨j, hj, e⟩
      · exact absurd e hn
      · obtain ⟨s, hs, es⟩ := hin t j k (Nat.le_refl _) hj hk e
        have h1 := (hA2 s hs).1
        rw [es] at h1
        rw [e, nI_clamp (by omega)]
        omega
    generalize hm3 : ax_u2 m2 (g + 4) (zord N V t) (nI c) = m3
    have r3' : ∀ a, a ≠ g + 4 → m3 a = m2 a := fun a ha => by rw [← hm3]; exact zu2_row ha
    have hF : zFr g m m3 := fun a a1 a2 a3 => by rw [r3' a a3, r2' a a2, r1 a a1]
    have hA3 : zAi m3 g N V (t + 1) := by
      refine ⟨fun s hs => ?_, fun i => if i = zord N V t then c else D i, fun s hs => ?_⟩
      · rw [r3' _ (by omega), r3' _ (by omega), r2' (g + 2) (by omega)]
        by_cases e : s = t
        · subst e
          rw [← hm1, ← hm2]
          exact ⟨ax_u2_self, ax_u2_self⟩
        · obtain ⟨b1, b2⟩ := hA1 s (by omega)
          refine ⟨?_, ?_⟩
          · rw [← hm1, ax_u2_nk e]
            exact b1
          · rw [← hm2, ax_u2_nk (hne s (by omega)), r1 _ (by omega)]
            exact b2
      · have hz : ∀ s, s ≤ t → zmx (fun i => if i = zord N V t then c else D i) (zI V (zord N V s)) 3 = zmx D (zI V (zord N V s)) 3 := by
          intro s hs
          refine zmx_congr 3 (fun k hk hn => ?_)
          have hsl : zord N V s < N := zord_lt (by omega)
          rcases (h.2.1 _ hsl).2.2 k hk with e | ⟨j, hj, e⟩
          · exact absurd e hn
          · obtain ⟨s', hs', es⟩ := hin s j k hs hj hk e
            rw [e, nI_clamp (by omega), ← es]
            exact if_neg (hne s' (by omega))
        by_cases e : s = t
        · subst e
          rw [hz s (Nat.le_refl _), hc]
          simp only [if_true]
          exact ⟨hct, by rw [← hm3]; exact ax_u2_self, trivial⟩
        · obtain ⟨b1, b2, b3⟩ := hA2 s (by omega)
          rw [hz s (by omega)]
          simp only [hne s (by omega), if_false]
          refine ⟨b1, ?_, b3⟩
          rw [← hm3, ax_u2_nk (hne s (by omega)), r2' _ (by omega), r1 _ (by omega)]
          exact b2
    obtain ⟨m', q1, q2, q3⟩ := ih (t + 1) f m3 (by omega) (by omega) (zGC_fr hG hF) hA3
    refine ⟨m', ?_, fun a a1 a2 a3 => by rw [q2 a a1 a2 a3, hF a a1 a2 a3], q3⟩
    unfold fb_X1_arrange_4
    rw [z_gi (by omega) (by rw [s0]), hG.1]
    simp only [Option.bind_some]
    rw [if_neg (nI_ge (by omega) (by omega)), z_sh (by omega) (by rw [s0])]
    simp only [Option.bind_some]
    rw [f_firstReady hg hG hN]
    simp only [Option.bind_some]
    rw [z_gr (by omega) (by rw [s0]), r2]
    simp only [Option.bind_some]
    rw [show znx N V (zpl N V t) = zord N V t from rfl]
    rw [z_as (by omega) (by omega) (by rw [s2]) (by rw [s2]; show t < 12; omega) (by omega), hm1]
    simp only [Option.bind_some]
    rw [z_gr (by omega) (by rw [s0]), r3]
    simp only [Option.bind_some]
    rw [z_as (by omega) (by omega) (by rw [s3]) (by rw [s3]; show zord N V t < 12; omega) (by omega), hm2]
    simp only [Option.bind_some]
    rw [z_gr (by omega) (by rw [s0]), r4]
    simp only [Option.bind_some]
    rw [z_gr (by omega) (by rw [s0]), r0]
    simp only [Option.bind_some]
    rw [z_nodes hg (by omega)]
    simp only [Option.bind_some]
    rw [z_sh (by omega) (by rw [s0])]
    simp only [Option.bind_some]
    rw [hdp]
    simp only [Option.bind_some]
    rw [z_as (by omega) (by omega) (by rw [s4]) (by rw [s4]; show zord N V t < 12; omega) (by omega), hm3]
    simp only [Option.bind_some, ax_bd]
    rw [show nI t + 1 = nI (t + 1) from nI_1 t]
    exact q1
theorem f_arrange {m : Nat → Nat → Int32} (hg : zGB g) (h : zOK N V) (hG : zGC m g N V) : ∃ m', fn_X1_arrange (some g) (zC n m p) = some (zC n m' p) ∧ zFr g m m' ∧ zOC m' g N V := by
  have hN := h.1
  obtain ⟨m', q1, q2, q3, D, q4⟩ := f_arrange_lp (n := n) (p := p) hg h N 0 10000 m (by omega) (by omega) hG ⟨fun s hs => by omega, fun _ => 0, fun s hs => by omega⟩
  refine ⟨m', ?_, q2, q3, D, fun i hi => ?_, fun i hi => ?_, fun i hi => ?_⟩
  · rw [show zpl N V 0 = 0 from rfl, nI_0] at q1
    unfold fn_X1_arrange
    exact q1
  · obtain ⟨t, ht, rfl⟩ := zord_sur h hi
    exact (q4 t ht).2.2
  · obtain ⟨t, ht, rfl⟩ := zord_sur h hi
    have := (q4 t ht).1
    omega
  · obtain ⟨t, ht, rfl⟩ := zord_sur h hi
    exact (q4 t ht).2.1
end ARR
