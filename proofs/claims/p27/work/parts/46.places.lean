/-! ===== places of a cache ===== -/
/-- S places; f: node, frame, use; v: values; e: a tag; K: uses by node and frame (0: not kept); W, E: values and tags -/
def zP (X Y : Nat → Nat) (S : Nat) (f v : Nat → Nat → Int32) (e : Nat → Nat) (K : Nat → Nat → Nat) (W : Nat → Nat → Nat → Int32) (E : Nat → Nat → Nat) : Prop :=
  (∀ j, j < S → X j < 12 ∧ Y j < 100 ∧ f 0 j = nI (X j) ∧ f 1 j = nI (Y j) ∧ K (X j) (Y j) ≠ 0 ∧ f 2 j = nI (K (X j) (Y j)) ∧ e j = E (X j) (Y j) ∧ ∀ k, k < 96 → v j k = W (X j) (Y j) k) ∧ (∀ i j, i < S → j < S → X i = X j → Y i = Y j → i = j) ∧ ∀ x y, K x y ≠ 0 → ∃ j, j < S ∧ X j = x ∧ Y j = y
section ZP
variable {X Y : Nat → Nat} {S : Nat} {f v : Nat → Nat → Int32} {e : Nat → Nat} {K : Nat → Nat → Nat} {W : Nat → Nat → Nat → Int32} {E : Nat → Nat → Nat}
theorem zP_congr {f' v' : Nat → Nat → Int32} {e' : Nat → Nat} (h : zP X Y S f v e K W E) (hf : ∀ w j, w < 3 → j < S → f' w j = f w j) (hv : ∀ j k, j < S → k < 96 → v' j k = v j k) (he : ∀ j, j < S → e' j = e j) : zP X Y S f' v' e' K W E := by
  refine ⟨fun j hj => ?_, h.2⟩
  obtain ⟨a1, a2, a3, a4, a5, a6, a7, a8⟩ := h.1 j hj
  exact ⟨a1, a2, by rw [hf 0 j (by omega) hj]; exact a3, by rw [hf 1 j (by omega) hj]; exact a4, a5, by rw [hf 2 j (by omega) hj]; exact a6, by rw [he j hj]; exact a7, fun k hk => by rw [hv j k hj hk]; exact a8 k hk⟩
/-- the place j goes, the last one comes there -/
theorem zP_rm {f' v' : Nat → Nat → Int32} {e' : Nat → Nat} {j : Nat} (h : zP X Y (S + 1) f v e K W E) (hj : j < S + 1) (hf : ∀ w i, w < 3 → i < S → f' w i = f w (if i = j then S else i)) (hv : ∀ i k, i < S → k < 96 → v' i k = v (if i = j then S else i) k) (he : ∀ i, i < S → e' i = e (if i = j then S else i)) :
    zP (fun i => X (if i = j then S else i)) (fun i => Y (if i = j then S else i)) S f' v' e' (ax_u2 K (X j) (Y j) 0) W E := by
  have hne : ∀ i, i < S → ¬ (X (if i = j then S else i) = X j ∧ Y (if i = j then S else i) = Y j) := fun i hi q => by
    by_cases hij : i = j
    · rw [if_pos hij] at q
      have := h.2.1 S j (by omega) hj q.1 q.2
      omega
    · rw [if_neg hij] at q
      exact hij (h.2.1 i j (by omega) hj q.1 q.2)
  refine ⟨fun i hi => ?_, fun a b ha hb hx hy => ?_, fun x y hk => ?_⟩
  · have hlt : (if i = j then S else i) < S + 1 := by split <;> omega
    have hK : ax_u2 K (X j) (Y j) 0 (X (if i = j then S else i)) (Y (if i = j then S else i)) = K (X (if i = j then S else i)) (Y (if i = j then S else i)) := if_neg (hne i hi)
    obtain ⟨a1, a2, a3, a4, a5, a6, a7, a8⟩ := h.1 _ hlt
    refine ⟨a1, a2, by rw [hf 0 i (by omega) hi]; exact a3, by rw [hf 1 i (by omega) hi]; exact a4, ?_, ?_, by rw [he i hi]; exact a7, fun k hk => by rw [hv i k hi hk]; exact a8 k hk⟩
    · show ax_u2 K (X j) (Y j) 0 (X (if i = j then S else i)) (Y (if i = j then S else i)) ≠ 0
      rw [hK]
      exact a5
    · show f' 2 i = nI (ax_u2 K (X j) (Y j) 0 (X (if i = j then S else i)) (Y (if i = j then S else i)))
      rw [hK, hf 2 i (by omega) hi]
      exact a6
  · have := h.2.1 (if a = j then S else a) (if b = j then S else b) (by split <;> omega) (by split <;> omega) hx hy
    by_cases h1 : a = j
    · by_cases h2 : b = j
      · omega
      · rw [if_pos h1, if_neg h2] at this
        omega
    · by_cases h2 : b = j
      · rw [if_neg h1, if_pos h2] at this
        omega
      · rw [if_neg h1, if_neg h2] at this
        exact this
  · have hk2 : ¬ (x = X j ∧ y = Y j) := fun q => hk (if_pos q)
    have hk3 : K x y ≠ 0 := by
      have : ax_u2 K (X j) (Y j) 0 x y = K x y := if_neg hk2
      rw [← this]
      exact hk
    obtain ⟨i, hi, hx, hy⟩ := h.2.2 x y hk3
    by_cases hiS : i = S
    · subst hiS
      by_cases hji : j = i
      · subst hji
        exact absurd ⟨hx.symm, hy.symm⟩ hk2
      · exact ⟨j, by omega, by simp only [if_true]; exact hx, by simp only [if_true]; exact hy⟩
    · have hij : ¬ i = j := fun q => by
        subst q
        exact hk2 ⟨hx.symm, hy.symm⟩
      exact ⟨i, by omega, by simp only [hij, if_false]; exact hx, by simp only [hij, if_false]; exact hy⟩
/-- one more at the end -/
theorem zP_add {f' v' : Nat → Nat → Int32} {e' : Nat → Nat} {x y u t : Nat} {w : Nat → Int32} (h : zP X Y S f v e K W E) (hK : K x y = 0) (hx : x < 12) (hy : y < 100) (hu : u ≠ 0) (hf : ∀ w j, w < 3 → j < S → f' w j = f w j) (hv : ∀ j k, j < S → k < 96 → v' j k = v j k) (he : ∀ j, j < S → e' j = e j) (h0 : f' 0 S = nI x) (h1 : f' 1 S = nI y) (h2 : f' 2 S = nI u) (h3 : e' S = t) (h4 : ∀ k, k < 96 → v' S k = w k) :
    zP (va_up X S x) (va_up Y S y) (S + 1) f' v' e' (ax_u2 K x y u) (ax_u2 W x y w) (ax_u2 E x y t) := by
  have hne : ∀ j, j < S → ¬ (X j = x ∧ Y j = y) := fun j hj q => (h.1 j hj).2.2.2.2.1 (by rw [q.1, q.2]; exact hK)
  have hup : ∀ (F : Nat → Nat) (a j : Nat), j < S → va_up F S a j = F j := fun F a j hj => va_up_ne F a (by omega)
  refine ⟨fun j hj => ?_, fun i j hi hj q1 q2 => ?_, fun a b hk => ?_⟩
  · by_cases hjS : j = S
    · subst hjS
      rw [va_up_self, va_up_self, ax_u2_self, ax_u2_self, ax_u2_self]
      exact ⟨hx, hy, h0, h1, hu, h2, h3, h4⟩
    · have hj' : j < S := by omega
      obtain ⟨a1, a2, a3, a4, a5, a6, a7, a8⟩ := h.1 j hj'
      have e1 : ∀ {α : Type} (F : Nat → Nat → α) (z : α), ax_u2 F x y z (X j) (Y j) = F (X j) (Y j) := fun F z => if_neg (hne j hj')
      rw [hup X x j hj', hup Y y j hj', e1, e1, e1]
      exact ⟨a1, a2, by rw [hf 0 j (by omega) hj']; exact a3, by rw [hf 1 j (by omega) hj']; exact a4, a5, by rw [hf 2 j (by omega) hj']; exact a6, by rw [he j hj']; exact a7, fun k hk => by rw [hv j k hj' hk]; exact a8 k hk⟩
  · by_cases hi2 : i = S
    · by_cases hj2 : j = S
      · omega
      · subst hi2
        rw [va_up_self, hup _ _ j (by omega)] at q1 q2
        exact absurd ⟨q1.symm, q2.symm⟩ (hne j (by omega))
    · by_cases hj2 : j = S
      · subst hj2
        rw [va_up_self, hup _ _ i (by omega)] at q1 q2
        exact absurd ⟨q1, q2⟩ (hne i (by omega))
      · rw [hup _ _ i (by omega), hup _ _ j (by omega)] at q1 q2
        exact h.2.1 i j (by omega) (by omega) q1 q2
  · by_cases hab : a = x ∧ b = y
    · exact ⟨S, by omega, by rw [va_up_self]; exact hab.1.symm, by rw [va_up_self]; exact hab.2.symm⟩
    · have e1 : ax_u2 K x y u a b = K a b := if_neg hab
      rw [e1] at hk
      obtain ⟨j, hj, p1, p2⟩ := h.2.2 a b hk
      exact ⟨j, by omega, by rw [hup _ _ j hj]; exact p1, by rw [hup _ _ j hj]; exact p2⟩
/-- a place is used -/
theorem zP_touch {f' v' : Nat → Nat → Int32} {e' : Nat → Nat} {j u : Nat} (h : zP X Y S f v e K W E) (hj : j < S) (hu : u ≠ 0) (hf : ∀ w i, w < 3 → i < S → ¬ (w = 2 ∧ i = j) → f' w i = f w i) (hv : ∀ i k, i < S → k < 96 → v' i k = v i k) (he : ∀ i, i < S → e' i = e i) (h2 : f' 2 j = nI u) : zP X Y S f' v' e' (ax_u2 K (X j) (Y j) u) W E := by
  refine ⟨fun i hi => ?_, h.2.1, fun a b hk => ?_⟩
  · obtain ⟨a1, a2, a3, a4, a5, a6, a7, a8⟩ := h.1 i hi
    by_cases hij : i = j
    · subst hij
      rw [ax_u2_self]
      exact ⟨a1, a2, by rw [hf 0 i (by omega) hi (by omega)]; exact a3, by rw [hf 1 i (by omega) hi (by omega)]; exact a4, hu, h2, by rw [he i hi]; exact a7, fun k hk => by rw [hv i k hi hk]; exact a8 k hk⟩
    · have e1 : ax_u2 K (X j) (Y j) u (X i) (Y i) = K (X i) (Y i) := if_neg (fun q => hij (h.2.1 i j hi hj q.1 q.2))
      rw [e1]
      exact ⟨a1, a2, by rw [hf 0 i (by omega) hi (by omega)]; exact a3, by rw [hf 1 i (by omega) hi (by omega)]; exact a4, a5, by rw [hf 2 i (by omega) hi (by omega)]; exact a6, by rw [he i hi]; exact a7, fun k hk => by rw [hv i k hi hk]; exact a8 k hk⟩
  · by_cases hab : a = X j ∧ b = Y j
    · exact ⟨j, hj, hab.1.symm, hab.2.symm⟩
    · have e1 : ax_u2 K (X j) (Y j) u a b = K a b := if_neg hab
      rw [e1] at hk
      exact h.2.2 a b hk
theorem zinj_le {S T : Nat} {g : Nat → Nat} (hg : ∀ s, s < S → g s < T) (inj : ∀ s t, s < S → t < S → g s = g t → s = t) : S ≤ T := by
  by_cases hST : S ≤ T
  · exact hST
  · exfalso
    exact zpig2 (N := T) (f := g) (fun s hs => hg s (by omega)) (fun s t hs ht q => inj s t (by omega) (by omega) q)
theorem zP_le {X' Y' : Nat → Nat} {S' : Nat} {f' v' : Nat → Nat → Int32} {e' : Nat → Nat} {W' : Nat → Nat → Nat → Int32} {E' : Nat → Nat → Nat} (h : zP X Y S f v e K W E) (h' : zP X' Y' S' f' v' e' K W' E') : S ≤ S' := by
  have h0 : ∀ i : Nat, ∃ s : Nat, i < S → s < S' ∧ X' s = X i ∧ Y' s = Y i := by
    intro i
    by_cases hi : i < S
    · obtain ⟨j, hj, q⟩ := h'.2.2 _ _ (h.1 i hi).2.2.2.2.1
      exact ⟨j, fun _ => ⟨hj, q⟩⟩
    · exact ⟨0, fun q => absurd q hi⟩
  obtain ⟨g, hg⟩ := Classical.axiomOfChoice h0
  refine zinj_le (g := g) (fun s hs => (hg s hs).1) (fun s t hs ht q => ?_)
  obtain ⟨-, a1, a2⟩ := hg s hs
  obtain ⟨-, b1, b2⟩ := hg t ht
  rw [q] at a1 a2
  exact h.2.1 s t hs ht (a1.symm.trans b1) (a2.symm.trans b2)
theorem zP_sz {X' Y' : Nat → Nat} {S' : Nat} {f' v' : Nat → Nat → Int32} {e' : Nat → Nat} {W' : Nat → Nat → Nat → Int32} {E' : Nat → Nat → Nat} (h : zP X Y S f v e K W E) (h' : zP X' Y' S' f' v' e' K W' E') : S = S' := Nat.le_antisymm (zP_le h h') (zP_le h' h)
end ZP
/-- uses: no two alike, none above U -/
def zU (K : Nat → Nat → Nat) (U : Nat) : Prop := (∀ x y, K x y ≤ U) ∧ ∀ x y a b, K x y ≠ 0 → K x y = K a b → x = a ∧ y = b
theorem zU_rm {K : Nat → Nat → Nat} {U x y : Nat} (h : zU K U) : zU (ax_u2 K x y 0) U := by
  have e : ∀ a b, ax_u2 K x y 0 a b ≠ 0 → ax_u2 K x y 0 a b = K a b := fun a b hk => if_neg (fun q => hk (if_pos q))
  refine ⟨fun a b => ?_, fun a b c d hk q => ?_⟩
  · by_cases hk : ax_u2 K x y 0 a b = 0
    · omega
    · rw [e a b hk]; exact h.1 a b
  · have q2 : ax_u2 K x y 0 c d ≠ 0 := by rw [← q]; exact hk
    have e1 := e a b hk
    rw [e1, e c d q2] at q
    rw [e1] at hk
    exact h.2 a b c d hk q
theorem zU_add {K : Nat → Nat → Nat} {U x y : Nat} (h : zU K U) : zU (ax_u2 K x y (U + 1)) (U + 1) := by
  refine ⟨fun a b => ?_, fun a b c d hk q => ?_⟩
  · by_cases hab : a = x ∧ b = y
    · rw [hab.1, hab.2, ax_u2_self]; exact Nat.le_refl _
    · rw [show ax_u2 K x y (U + 1) a b = K a b from if_neg hab]
      have := h.1 a b
      omega
  · have h1 := h.1 a b
    have h2 := h.1 c d
    by_cases hab : a = x ∧ b = y
    · by_cases hcd : c = x ∧ d = y
      · omega
      · rw [show ax_u2 K x y (U + 1) a b = U + 1 from if_pos hab, show ax_u2 K x y (U + 1) c d = K c d from if_neg hcd] at q
        omega
    · rw [show ax_u2 K x y (U + 1) a b = K a b from if_neg hab] at q hk
      by_cases hcd : c = x ∧ d = y
      · rw [show ax_u2 K x y (U + 1) c d = U + 1 from if_pos hcd] at q
        omega
      · rw [show ax_u2 K x y (U + 1) c d = K c d from if_neg hcd] at q
        exact h.2 a b c d hk q
/-- the key of the least use -/
noncomputable def zmk (K : Nat → Nat → Nat) : Nat × Nat := Classical.epsilon fun q => K q.1 q.2 ≠ 0 ∧ ∀ x y, K x y ≠ 0 → K q.1 q.2 ≤ K x y
theorem zmk_is {K : Nat → Nat → Nat} {U x y : Nat} (h : zU K U) (hk : K x y ≠ 0) (hm : ∀ a b, K a b ≠ 0 → K x y ≤ K a b) : zmk K = (x, y) := by
  have h1 : K (zmk K).1 (zmk K).2 ≠ 0 ∧ ∀ a b, K a b ≠ 0 → K (zmk K).1 (zmk K).2 ≤ K a b := Classical.epsilon_spec (p := fun q : Nat × Nat => K q.1 q.2 ≠ 0 ∧ ∀ x y, K x y ≠ 0 → K q.1 q.2 ≤ K x y) ⟨(x, y), hk, hm⟩
  obtain ⟨e1, e2⟩ := h.2 _ _ _ _ h1.1 (Nat.le_antisymm (h1.2 x y hk) (hm _ _ h1.1))
  exact Prod.ext e1 e2
