/-! ===== the order of the nodes ===== -/
theorem zpig : ∀ (N t : Nat) (f : Nat → Nat), t < N → ∃ i, i < N ∧ ∀ s, s < t → f s ≠ i := by
  intro N
  induction N with
  | zero => intro t f h; omega
  | succ N ih =>
    intro t f ht
    by_cases h : ∃ s0, s0 < t ∧ f s0 = N
    · obtain ⟨s0, h1, h2⟩ := h
      obtain ⟨i, hi, hs⟩ := ih (t - 1) (fun s => if s = s0 then f (t - 1) else f s) (by omega)
      refine ⟨i, by omega, fun s hst => ?_⟩
      by_cases e : s = s0
      · subst e
        omega
      · by_cases e2 : s = t - 1
        · have := hs s0 (by omega)
          simp only [if_true] at this
          rw [e2]
          exact this
        · have := hs s (by omega)
          simp only [e, if_false] at this
          exact this
    · exact ⟨N, by omega, fun s hst he => h ⟨s, hst, he⟩⟩
/-- no N + 1 different numbers below N -/
theorem zpig2 {N : Nat} {f : Nat → Nat} (hf : ∀ s, s ≤ N → f s < N) (inj : ∀ s t, s ≤ N → t ≤ N → f s = f t → s = t) : False := by
  have h0 : ∀ i : Nat, ∃ s : Nat, (∃ s', s' ≤ N ∧ f s' = i) → s ≤ N ∧ f s = i := by
    intro i
    by_cases h : ∃ s', s' ≤ N ∧ f s' = i
    · obtain ⟨s, hs⟩ := h
      exact ⟨s, fun _ => hs⟩
    · exact ⟨0, fun q => absurd q h⟩
  obtain ⟨u, hu⟩ := Classical.axiomOfChoice h0
  obtain ⟨s, hs, hne⟩ := zpig (N + 1) N u (by omega)
  have h1 := hu (f s) ⟨s, by omega, rfl⟩
  exact hne (f s) (hf s (by omega)) (inj _ _ h1.1 (by omega) h1.2)
theorem znf_spec {V : Nat → Nat → Int32} {P : Int32} {N : Nat} : ∀ (d i : Nat), i + d = N → (∃ j, i ≤ j ∧ j < N ∧ zrd V P j = true) → zrd V P (znf V P d i) = true ∧ znf V P d i < N ∧ ∀ j, i ≤ j → j < znf V P d i → zrd V P j = false := by
  intro d
  induction d with
  | zero =>
    rintro i hi ⟨j, h1, h2, -⟩
    omega
  | succ d ih =>
    rintro i hi ⟨j, h1, h2, h3⟩
    unfold znf
    by_cases hc : zrd V P i = true
    · rw [if_pos hc]
      exact ⟨hc, by omega, fun j a b => by omega⟩
    · rw [if_neg hc]
      have hij : i ≠ j := fun e => hc (e ▸ h3)
      obtain ⟨a, b, c⟩ := ih (i + 1) (by omega) ⟨j, by omega, h2, h3⟩
      refine ⟨a, b, fun k k1 k2 => ?_⟩
      by_cases hk : k = i
      · subst hk
        exact Bool.not_eq_true _ ▸ hc
      · exact c k (by omega) k2
theorem z_one (j : Nat) : (1 : Int32) <<< (nI j &&& 31) = z1 j := rfl
theorem nI_inj {a b : Nat} (ha : a < 2 ^ 31) (hb : b < 2 ^ 31) (h : nI a = nI b) : a = b := (nI_eq ha hb).mp h
theorem nI_ne_none {a : Nat} (ha : a < 2 ^ 31) : nI a ≠ -1005 := by
  intro h
  have h1 := z_pos ha
  rw [h] at h1
  exact absurd h1 (by decide)
/-- the inputs' set, bit by bit -/
theorem zis_b {v : Nat → Int32} (hv : ∀ k, k < 3 → v k = -1005 ∨ ∃ j, j < 12 ∧ v k = nI j) : ∀ c, c ≤ 3 → zsm (zis v c) ∧ ∀ i, i < 12 → (zb (zis v c) i ↔ ∃ k, k < c ∧ v k = nI i) := by
  intro c
  induction c with
  | zero =>
    intro hc
    exact ⟨z0_sm, fun i hi => ⟨fun h => absurd h (z0_b (by omega)), fun ⟨k, h, _⟩ => by omega⟩⟩
  | succ c ih =>
    intro hc
    obtain ⟨h1, h2⟩ := ih (by omega)
    unfold zis
    rcases hv c (by omega) with hn | ⟨j, hj, he⟩
    · rw [if_pos hn]
      refine ⟨h1, fun i hi => (h2 i hi).trans ⟨fun ⟨k, a, b⟩ => ⟨k, by omega, b⟩, fun ⟨k, a, b⟩ => ?_⟩⟩
      by_cases hk : k = c
      · subst hk
        rw [hn] at b
        exact absurd b.symm (nI_ne_none (by omega))
      · exact ⟨k, by omega, b⟩
    · rw [if_neg (by rw [he]; exact nI_ne_none (by omega)), he, z_one]
      refine ⟨zor_sm h1 (z1_sm hj), fun i hi => ?_⟩
      rw [zor_b (by omega), z1_b hj (by omega), h2 i hi]
      constructor
      · rintro (⟨k, a, b⟩ | rfl)
        · exact ⟨k, by omega, b⟩
        · exact ⟨c, by omega, he⟩
      · rintro ⟨k, a, b⟩
        by_cases hk : k = c
        · subst hk
          exact Or.inr (nI_inj (by omega) (by omega) (b.symm.trans he))
        · exact Or.inl ⟨k, by omega, b⟩
section ORD
variable {N : Nat} {V : Nat → Nat → Int32}
theorem zOK_in (h : zOK N V) {i : Nat} (hi : i < N) : ∀ k, k < 3 → zI V i k = -1005 ∨ ∃ j, j < 12 ∧ zI V i k = nI j := by
  intro k hk
  rcases (h.2.1 i hi).2.2 k hk with h1 | ⟨j, h1, h2⟩
  · exact Or.inl h1
  · exact Or.inr ⟨j, by have := h.1; omega, h2⟩
theorem zrd_ok (h : zOK N V) {i : Nat} (hi : i < N) {P : Int32} : zrd V P i = true ↔ (∀ j k, j < N → k < 3 → zI V i k = nI j → zb P j) ∧ ¬ zb P i := by
  obtain ⟨h1, h2⟩ := zis_b (zOK_in h hi) 3 (by omega)
  have hN := h.1
  rw [zrd_iff, zandn_0 h1]
  constructor
  · rintro ⟨a, b⟩
    exact ⟨fun j k hj hk e => a j (by omega) ((h2 j (by omega)).mpr ⟨k, hk, e⟩), b⟩
  · rintro ⟨a, b⟩
    refine ⟨fun j hj hb => ?_, b⟩
    obtain ⟨k, hk, e⟩ := (h2 j hj).mp hb
    rcases (h.2.1 i hi).2.2 k hk with h3 | ⟨j', h3, h4⟩
    · rw [h3] at e
      exact absurd e.symm (nI_ne_none (by omega))
    · have : j' = j := nI_inj (by omega) (by omega) (h4.symm.trans e)
      subst this
      exact a j' k h3 hk e
theorem zpl_b (hN : N ≤ 12) : ∀ t, (0 < N ∨ t = 0) → zsm (zpl N V t) ∧ ∀ i, i < 12 → (zb (zpl N V t) i ↔ ∃ s, s < t ∧ zord N V s = i) := by
  intro t
  induction t with
  | zero => intro _; exact ⟨z0_sm, fun i hi => ⟨fun h => absurd h (z0_b (by omega)), fun ⟨s, h, _⟩ => by omega⟩⟩
  | succ t ih =>
    intro h0
    have h0 : 0 < N := by omega
    obtain ⟨h1, h2⟩ := ih (Or.inl h0)
    have hlt : zord N V t < 12 := Nat.lt_of_lt_of_le (zord_lt h0) hN
    refine ⟨zor_sm h1 (z1_sm hlt), fun i hi => ?_⟩
    show zb (zpl N V t ||| z1 (zord N V t)) i ↔ _
    rw [zor_b (by omega), z1_b hlt (by omega), h2 i hi]
    constructor
    · rintro (⟨s, a, b⟩ | rfl)
      · exact ⟨s, by omega, b⟩
      · exact ⟨t, by omega, rfl⟩
    · rintro ⟨s, a, b⟩
      by_cases hs : s = t
      · subst hs
        exact Or.inr b.symm
      · exact Or.inl ⟨s, by omega, b⟩
/-- a node that isn't placed: then one is ready -/
theorem zready (h : zOK N V) {P : Int32} {i0 : Nat} (hi0 : i0 < N) (hP : ¬ zb P i0) : ∃ j, 0 ≤ j ∧ j < N ∧ zrd V P j = true := by
  obtain ⟨rk, hrk⟩ := h.2.2
  have key : ∀ (b i : Nat), rk i ≤ b → i < N → ¬ zb P i → ∃ j, 0 ≤ j ∧ j < N ∧ zrd V P j = true := by
    intro b
    induction b with
    | zero =>
      intro i hb hi hn
      refine ⟨i, by omega, hi, (zrd_ok h hi).mpr ⟨fun j k hj hk e => ?_, hn⟩⟩
      have := hrk i j k hi hj hk e
      omega
    | succ b ih =>
      intro i hb hi hn
      by_cases hc : ∃ j k, j < N ∧ k < 3 ∧ zI V i k = nI j ∧ ¬ zb P j
      · obtain ⟨j, k, hj, hk, e, hnj⟩ := hc
        have := hrk i j k hi hj hk e
        exact ih j (by omega) hj hnj
      · refine ⟨i, by omega, hi, (zrd_ok h hi).mpr ⟨fun j k hj hk e => ?_, hn⟩⟩
        exact Classical.not_not.mp fun hnj => hc ⟨j, k, hj, hk, e, hnj⟩
  exact key (rk i0) i0 (Nat.le_refl _) hi0 hP
theorem zord_ok (h : zOK N V) {t : Nat} (hex : ∃ i, i < N ∧ ¬ zb (zpl N V t) i) : zrd V (zpl N V t) (zord N V t) = true ∧ zord N V t < N ∧ ∀ j, j < zord N V t → zrd V (zpl N V t) j = false := by
  obtain ⟨i, hi, hn⟩ := hex
  obtain ⟨a, b, c⟩ := znf_spec N 0 (by omega) (zready h hi hn)
  exact ⟨a, b, fun j hj => c j (by omega) hj⟩
theorem zunpl (h : zOK N V) {t : Nat} (ht : t < N) : ∃ i, i < N ∧ ¬ zb (zpl N V t) i := by
  obtain ⟨i, hi, hne⟩ := zpig N t (zord N V) ht
  have hN := h.1
  refine ⟨i, hi, fun hb => ?_⟩
  obtain ⟨s, hs, e⟩ := ((zpl_b hN t (Or.inl (by omega))).2 i (by omega)).mp hb
  exact hne s hs e
theorem zord_inj (h : zOK N V) {s t : Nat} (hst : s < t) (ht : t < N) : zord N V s ≠ zord N V t := by
  have hN := h.1
  obtain ⟨a, b, -⟩ := zord_ok h (zunpl h ht)
  intro e
  exact ((zrd_ok h b).mp a).2 (((zpl_b hN t (Or.inl (by omega))).2 _ (by omega)).mpr ⟨s, hst, e⟩)
/-- each node has its place -/
theorem zord_sur (h : zOK N V) {i : Nat} (hi : i < N) : ∃ t, t < N ∧ zord N V t = i := by
  have hN := h.1
  apply Classical.not_not.mp
  intro hne
  have hun : ∀ t, t ≤ N → ∃ i, i < N ∧ ¬ zb (zpl N V t) i := by
    intro t ht
    refine ⟨i, hi, fun hb => ?_⟩
    obtain ⟨s, hs, e⟩ := ((zpl_b hN t (Or.inl (by omega))).2 i (by omega)).mp hb
    exact hne ⟨s, by omega, e⟩
  have inj : ∀ s t, s < t → t ≤ N → zord N V s ≠ zord N V t := by
    intro s t hst ht e
    obtain ⟨a, b, -⟩ := zord_ok h (hun t ht)
    exact ((zrd_ok h b).mp a).2 (((zpl_b hN t (Or.inl (by omega))).2 _ (by omega)).mpr ⟨s, hst, e⟩)
  refine zpig2 (N := N) (f := zord N V) (fun s _ => zord_lt (by omega)) (fun s t hs ht e => ?_)
  by_cases h1 : s < t
  · exact absurd e (inj s t h1 ht)
  · by_cases h2 : t < s
    · exact absurd e.symm (inj t s h2 hs)
    · omega
/-- a node stands behind its inputs -/
theorem zord_top (h : zOK N V) {t j k : Nat} (ht : t < N) (hj : j < N) (hk : k < 3) (e : zI V (zord N V t) k = nI j) : ∃ s, s < t ∧ zord N V s = j := by
  have hN := h.1
  obtain ⟨a, b, -⟩ := zord_ok h (zunpl h ht)
  exact ((zpl_b hN t (Or.inl (by omega))).2 j (by omega)).mp (((zrd_ok h b).mp a).1 j k hj hk e)
end ORD
