/-! ===== who depends on whom; depths; arrange ===== -/
def zdp (N : Nat) (V : Nat → Nat → Int32) : Nat → Nat → Nat → Prop
  | 0, a, b => a = b
  | n + 1, a, b => a = b ∨ ∃ j k, j < N ∧ k < 3 ∧ zI V b k = nI j ∧ zdp N V n a j
def zdep (N : Nat) (V : Nat → Nat → Int32) (a b : Nat) : Prop := ∃ n, zdp N V n a b
theorem zdep_rf {N : Nat} {V : Nat → Nat → Int32} (a : Nat) : zdep N V a a := ⟨0, rfl⟩
theorem zdep_step {N : Nat} {V : Nat → Nat → Int32} {a b j k : Nat} (hj : j < N) (hk : k < 3) (e : zI V b k = nI j) (h : zdep N V a j) : zdep N V a b := by
  obtain ⟨n, h⟩ := h
  exact ⟨n + 1, Or.inr ⟨j, k, hj, hk, e, h⟩⟩
theorem zdep_cases {N : Nat} {V : Nat → Nat → Int32} {a b : Nat} (h : zdep N V a b) : a = b ∨ ∃ j k, j < N ∧ k < 3 ∧ zI V b k = nI j ∧ zdep N V a j := by
  obtain ⟨n, h⟩ := h
  cases n with
  | zero => exact Or.inl h
  | succ n =>
    rcases h with h | ⟨j, k, a1, a2, a3, a4⟩
    · exact Or.inl h
    · exact Or.inr ⟨j, k, a1, a2, a3, n, a4⟩
def zfd (N : Nat) (V : Nat → Nat → Int32) (a : Nat) : Nat → Int32
  | 0 => z1 a
  | t + 1 => if zis (zI V (zord N V t)) 3 &&& zfd N V a t = 0 then zfd N V a t else zfd N V a t ||| z1 (zord N V t)
theorem zfd_s {N a t : Nat} {V : Nat → Nat → Int32} : zfd N V a (t + 1) = if zis (zI V (zord N V t)) 3 &&& zfd N V a t = 0 then zfd N V a t else zfd N V a t ||| z1 (zord N V t) := rfl
theorem zfd_ok {N a : Nat} {V : Nat → Nat → Int32} (h : zOK N V) (ha : a < N) : ∀ t, t ≤ N → zsm (zfd N V a t) ∧ ∀ i, i < 12 → (zb (zfd N V a t) i ↔ i = a ∨ ∃ s, s < t ∧ zord N V s = i ∧ zdep N V a i) := by
  have hN := h.1
  intro t
  induction t with
  | zero =>
    intro _
    exact ⟨z1_sm (by omega), fun i hi => by
      show zb (z1 a) i ↔ _
      rw [z1_b (by omega) (by omega)]
      exact ⟨Or.inl, fun q => q.elim id (fun ⟨s, hs, _⟩ => by omega)⟩⟩
  | succ t ih =>
    intro ht
    obtain ⟨h1, h2⟩ := ih (by omega)
    have hlt : zord N V t < N := zord_lt (by omega)
    obtain ⟨h3, h4⟩ := zis_b (zOK_in h hlt) 3 (by omega)
    have key : (zis (zI V (zord N V t)) 3 &&& zfd N V a t = 0) ↔ ¬ (zord N V t ≠ a ∧ zdep N V a (zord N V t)) ∨ zord N V t = a := by
      rw [zand_0 h3]
      constructor
      · intro hz
        by_cases e : zord N V t = a
        · exact Or.inr e
        · refine Or.inl fun ⟨_, hd⟩ => ?_
          rcases zdep_cases hd with e2 | ⟨j, k, hj, hk, e2, hd2⟩
          · exact e e2.symm
          · refine hz j (by omega) ⟨(h4 j (by omega)).mpr ⟨k, hk, e2⟩, (h2 j (by omega)).mpr ?_⟩
            obtain ⟨s, hs, es⟩ := zord_top h (by omega) hj hk e2
            exact Or.inr ⟨s, hs, es, hd2⟩
      · intro hor j hj ⟨hb1, hb2⟩
        obtain ⟨k, hk, e2⟩ := (h4 j hj).mp hb1
        have hjN : j < N := by
          rcases (h.2.1 _ hlt).2.2 k hk with h5 | ⟨j', h5, h6⟩
          · rw [h5] at e2
            exact absurd e2.symm (nI_ne_none (by omega))
          · have : j' = j := nI_inj (by omega) (by omega) (h6.symm.trans e2)
            omega
        have hdj : zdep N V a j := by
          rcases (h2 j hj).mp hb2 with rfl | ⟨s, _, _, hd⟩
          · exact zdep_rf _
          · exact hd
        have hd : zdep N V a (zord N V t) := zdep_step hjN hk e2 hdj
        rcases hor with hor | e
        · refine hor ⟨fun e => ?_, hd⟩
          -- the node itself would depend on its own input
          obtain ⟨s, hs, es⟩ := zord_top h (by omega) hjN hk e2
          rcases (h2 j hj).mp hb2 with rfl | ⟨s', hs', es', _⟩
          · exact absurd (es.trans e.symm) (zord_inj h hs (by omega))
          · obtain ⟨rk, hrk⟩ := h.2.2
            have mono : ∀ n b, b < N → zdp N V n a b → rk a ≤ rk b := by
              intro n
              induction n with
              | zero => intro b hb hd; cases hd; exact Nat.le_refl _
              | succ n ihn =>
                intro b hb hd
                rcases hd with hd | ⟨j2, k2, c1, c2, c3, c4⟩
                · cases hd; exact Nat.le_refl _
                · have := hrk b j2 k2 hb c1 c2 c3
                  have := ihn j2 c1 c4
                  omega
            obtain ⟨nn, hnn⟩ := hdj
            have a1 := mono nn j hjN hnn
            have a2 := hrk _ j k hlt hjN hk e2
            rw [e] at a2
            omega
        · obtain ⟨rk, hrk⟩ := h.2.2
          have mono : ∀ n b, b < N → zdp N V n a b → rk a ≤ rk b := by
            intro n
            induction n with
            | zero => intro b hb hd; cases hd; exact Nat.le_refl _
            | succ n ihn =>
              intro b hb hd
              rcases hd with hd | ⟨j2, k2, c1, c2, c3, c4⟩
              · cases hd; exact Nat.le_refl _
              · have := hrk b j2 k2 hb c1 c2 c3
                have := ihn j2 c1 c4
                omega
          obtain ⟨nn, hnn⟩ := hdj
          have a1 := mono nn j hjN hnn
          have a2 := hrk _ j k hlt hjN hk e2
          rw [e] at a2
          omega
    unfold zfd
    by_cases hc : zis (zI V (zord N V t)) 3 &&& zfd N V a t = 0
    · rw [if_pos hc]
      refine ⟨h1, fun i hi => (h2 i hi).trans ⟨?_, ?_⟩⟩
      · rintro (e | ⟨s, b1, b2, b3⟩)
        · exact Or.inl e
        · exact Or.inr ⟨s, by omega, b2, b3⟩
      · rintro (e | ⟨s, b1, b2, b3⟩)
        · exact Or.inl e
        · by_cases hs : s = t
          · subst hs
            subst b2
            rcases key.mp hc with hk | hk
            · by_cases e : zord N V s = a
              · exact Or.inl e
              · exact absurd ⟨e, b3⟩ hk
            · exact Or.inl hk
          · exact Or.inr ⟨s, by omega, b2, b3⟩
    · rw [if_neg hc]
      have hd : zdep N V a (zord N V t) := by
        apply Classical.not_not.mp
        intro hnd
        exact hc (key.mpr (Or.inl fun q => hnd q.2))
      refine ⟨zor_sm h1 (z1_sm (by omega)), fun i hi => ?_⟩
      rw [zor_b (by omega), z1_b (by omega) (by omega), h2 i hi]
      constructor
      · rintro ((e | ⟨s, b1, b2, b3⟩) | e)
        · exact Or.inl e
        · exact Or.inr ⟨s, by omega, b2, b3⟩
        · exact Or.inr ⟨t, by omega, e.symm, by rw [e]; exact hd⟩
      · rintro (e | ⟨s, b1, b2, b3⟩)
        · exact Or.inl (Or.inl e)
        · by_cases hs : s = t
          · subst hs
            exact Or.inr b2.symm
          · exact Or.inl (Or.inr ⟨s, by omega, b2, b3⟩)
/-- the set that the class finds: those that depend on a -/
theorem zfd_dep {N a : Nat} {V : Nat → Nat → Int32} (h : zOK N V) (ha : a < N) : zsm (zfd N V a N) ∧ ∀ i, i < 12 → (zb (zfd N V a N) i ↔ i < N ∧ zdep N V a i) := by
  obtain ⟨h1, h2⟩ := zfd_ok h ha N (Nat.le_refl _)
  refine ⟨h1, fun i hi => (h2 i hi).trans ⟨?_, ?_⟩⟩
  · rintro (rfl | ⟨s, b1, b2, b3⟩)
    · exact ⟨ha, zdep_rf _⟩
    · exact ⟨by rw [← b2]; exact zord_lt (by omega), b3⟩
  · rintro ⟨hi2, hd⟩
    obtain ⟨t, ht, e⟩ := zord_sur h hi2
    exact Or.inr ⟨t, ht, e, hd⟩
/-- the greatest depth of a node's inputs, and 1 -/
def zmx (D : Nat → Nat) (v : Nat → Int32) : Nat → Nat
  | 0 => 0
  | c + 1 => if v c = -1005 then zmx D v c else max (zmx D v c) (D (v c).toNatClampNeg + 1)
def zDok (N : Nat) (V : Nat → Nat → Int32) (D : Nat → Nat) : Prop := ∀ i, i < N → D i = zmx D (zI V i) 3
theorem zmx_congr {D E : Nat → Nat} {v : Nat → Int32} : ∀ c, (∀ k, k < c → v k ≠ -1005 → D (v k).toNatClampNeg = E (v k).toNatClampNeg) → zmx D v c = zmx E v c := by
  intro c
  induction c with
  | zero => intro _; rfl
  | succ c ih =>
    intro h
    unfold zmx
    split
    · exact ih fun k hk => h k (by omega)
    · rename_i hc
      rw [ih fun k hk => h k (by omega), h c (by omega) hc]
theorem zmx_le {D : Nat → Nat} {v : Nat → Int32} {b : Nat} : ∀ c, (∀ k, k < c → v k ≠ -1005 → D (v k).toNatClampNeg + 1 ≤ b) → zmx D v c ≤ b := by
  intro c
  induction c with
  | zero => intro _; exact Nat.zero_le _
  | succ c ih =>
    intro h
    unfold zmx
    split
    · exact ih fun k hk => h k (by omega)
    · rename_i hc
      exact Nat.max_le.mpr ⟨ih fun k hk => h k (by omega), h c (by omega) hc⟩
/-- what the class keeps of the order -/
def zOC (m : Nat → Nat → Int32) (g N : Nat) (V : Nat → Nat → Int32) : Prop := (∀ t, t < N → m (g + 2) t = nI (zord N V t) ∧ m (g + 3) (zord N V t) = nI t) ∧ ∃ D, zDok N V D ∧ (∀ i, i < N → D i < 12) ∧ ∀ i, i < N → m (g + 4) i = nI (D i)
section DEP
variable {n g N i k : Nat} {m : Nat → Nat → Int32} {p : Nat → Nat} {V : Nat → Nat → Int32} {x y P : Int32}
theorem f_dependents_lp (hg : zGB g) (hG : zGC m g N V) (hN : N ≤ 12) (hO : ∀ t, t < N → m (g + 2) t = nI (zord N V t)) (a : Nat) : ∀ (d t f : Nat), t + d = N → d < f → fb_X1_dependents_6 f (some g) (zfd N V a t) (nI t) (zC n m p) = some (zfd N V a N, zC n m p) := by
  obtain ⟨h9, h41, s0, s1, s2, s3, s4, r0, r2, r3, r4⟩ := zGB_ok (n := n) (p := p) hg
  intro d
  induction d with
  | zero =>
    intro t f ht hf
    obtain ⟨f, rfl⟩ : ∃ k, f = k + 1 := ⟨f - 1, by omega⟩
    obtain rfl : t = N := by omega
    unfold fb_X1_dependents_6
    rw [z_gi (by omega) (by rw [s0]), hG.1]
    simp only [Option.bind_some]
    rw [if_pos (nI_le (Nat.le_refl _) (by omega))]
  | succ d ih =>
    intro t f ht hf
    obtain ⟨f, rfl⟩ : ∃ k, f = k + 1 := ⟨f - 1, by omega⟩
    have hlt : zord N V t < N := zord_lt (by omega)
    obtain ⟨hb, -⟩ := zGB_node (p := p) hg (show zord N V t < 12 by omega)
    obtain ⟨b9, b1, t0, t1, t2, q3, q4⟩ := zNB_ok (n := n) (p := p) hb
    unfold fb_X1_dependents_6
    rw [z_gi (by omega) (by rw [s0]), hG.1]
    simp only [Option.bind_some]
    rw [if_neg (nI_ge (by omega) (by omega)), z_gr (by omega) (by rw [s0]), r2]
    simp only [Option.bind_some]
    rw [z_al (by omega) (by rw [s2]) (by rw [s2]; show t < 12; omega) (by omega), hO t (by omega)]
    simp only [Option.bind_some]
    rw [z_gr (by omega) (by rw [s0]), r0]
    simp only [Option.bind_some]
    rw [z_nodes hg (by omega)]
    simp only [Option.bind_some]
    rw [z_sh (by omega) (by rw [t0])]
    simp only [Option.bind_some]
    rw [z_nodeset hg hG hN hlt]
    simp only [Option.bind_some]
    have ih1 := ih (t + 1) f (by omega) (by omega)
    rw [show nI t + 1 = nI (t + 1) from nI_1 t]
    rw [zfd_s] at ih1
    by_cases hc : zis (zI V (zord N V t)) 3 &&& zfd N V a t = 0
    · rw [if_pos hc] at ih1 ⊢
      exact ih1
    · rw [if_neg hc] at ih1 ⊢
      exact ih1
theorem f_dependents (hg : zGB g) (hG : zGC m g N V) (hN : N ≤ 12) (hO : ∀ t, t < N → m (g + 2) t = nI (zord N V t)) (a : Nat) : fn_X1_dependents (some g) (nI a) (zC n m p) = some (zfd N V a N, zC n m p) := by
  have h := f_dependents_lp (n := n) (p := p) hg hG hN hO a N 0 10000 (by omega) (by omega)
  rw [show zfd N V a 0 = 1 <<< (nI a &&& 31) from rfl, nI_0] at h
  unfold fn_X1_dependents ax_bd
  exact h
theorem f_depth_lp (hg : zGB g) (hG : zGC m g N V) (hN : N ≤ 12) (hi : i < N) (hV : ∀ k, k < 3 → zI V i k = -1005 ∨ ∃ j, j < N ∧ zI V i k = nI j) (D : Nat → Nat) (hD : ∀ j k, j < N → k < 3 → zI V i k = nI j → m (g + 4) j = nI (D j) ∧ D j < 1000) :
    ∀ (d c f : Nat), c + d = 3 → d < f → zmx D (zI V i) c ≤ 1000 → fb_X1_depthBehindInputs_4 f (some g) (some (g + 5 + 3 * i)) (nI (zmx D (zI V i) c)) (nI c) (zC n m p) = some (nI (zmx D (zI V i) 3), zC n m p) := by
  obtain ⟨h9, h41, s0, s1, s2, s3, s4, r0, r2, r3, r4⟩ := zGB_ok (n := n) (p := p) hg
  obtain ⟨hb, -⟩ := zGB_node (p := p) hg (show i < 12 by omega)
  obtain ⟨b9, b1, t0, t1, t2, q3, q4⟩ := zNB_ok (n := n) (p := p) hb
  intro d
  induction d with
  | zero =>
    intro c f hc hf _
    obtain ⟨f, rfl⟩ : ∃ k, f = k + 1 := ⟨f - 1, by omega⟩
    obtain rfl : c = 3 := by omega
    unfold fb_X1_depthBehindInputs_4
    rw [if_pos (by decide)]
  | succ d ih =>
    intro c f hc hf hle
    obtain ⟨f, rfl⟩ : ∃ k, f = k + 1 := ⟨f - 1, by omega⟩
    unfold fb_X1_depthBehindInputs_4
    have e3 : ¬ (3 : Int32) ≤ nI c := nI_ge (b := 3) (by omega) (by omega)
    rw [if_neg e3, z_gr (by omega) (by rw [t0]), q3]
    simp only [Option.bind_some]
    rw [z_al (by omega) (by rw [t1]) (by rw [t1]; show c < 3; omega) (by omega), hG.2.2.1 i c hi (by omega)]
    simp only [Option.bind_some]
    rw [z_sh (by omega) (by rw [s0])]
    simp only [Option.bind_some]
    rw [f_has hg hG.1]
    simp only [Option.bind_some]
    rw [show nI c + 1 = nI (c + 1) from nI_1 c]
    have hz : V i (3 + c) = zI V i c := rfl
    have ih1 := ih (c + 1) f (by omega) (by omega)
    unfold zmx at ih1
    rcases hV c (by omega) with hn | ⟨j, hj, he⟩
    · rw [if_pos hn] at ih1
      rw [hz, hn, zB_f (fun h => absurd h.1 (by decide)), if_pos rfl]
      exact ih1 hle
    · obtain ⟨hm, hDj⟩ := hD j c hj (by omega) he
      rw [if_neg (by rw [he]; exact nI_ne_none (by omega)), he, nI_clamp (by omega)] at ih1
      rw [hz, he, zB_t ⟨z_pos (by omega), z_le_pred (by omega) hj⟩, if_neg (by decide), z_gr (by omega) (by rw [s0]), r4]
      simp only [Option.bind_some]
      rw [z_al (by omega) (by rw [s4]) (by rw [s4]; show j < 12; omega) (by omega), hm]
      simp only [Option.bind_some, ax_bd]
      rw [show nI (D j) + 1 = nI (D j + 1) from nI_1 _]
      have ih2 := ih1 (by omega)
      by_cases hlt : zmx D (zI V i) c < D j + 1
      · rw [if_pos (nI_lt hlt (by omega))]
        rw [Nat.max_eq_right (by omega)] at ih2
        exact ih2
      · rw [if_neg (nI_nlt (by omega) (by omega))]
        rw [Nat.max_eq_left (by omega)] at ih2
        exact ih2
theorem f_depth (hg : zGB g) (hG : zGC m g N V) (hN : N ≤ 12) (hi : i < N) (hV : ∀ k, k < 3 → zI V i k = -1005 ∨ ∃ j, j < N ∧ zI V i k = nI j) (D : Nat → Nat) (hD : ∀ j k, j < N → k < 3 → zI V i k = nI j → m (g + 4) j = nI (D j) ∧ D j < 1000) : fn_X1_depthBehindInputs (some g) (some (g + 5 + 3 * i)) (zC n m p) = some (nI (zmx D (zI V i) 3), zC n m p) := by
  have h := f_depth_lp (n := n) (p := p) hg hG hN hi hV D hD 3 0 10000 rfl (by omega) (Nat.zero_le _)
  rw [show zmx D (zI V i) 0 = 0 from rfl, nI_0] at h
  unfold fn_X1_depthBehindInputs
  exact h
end DEP
