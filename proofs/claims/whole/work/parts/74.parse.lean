/-! ===== what the parse keeps, apart from both programs ===== -/
/-- open parentheses ahead of a place -/
def zoc (T : Nat → Nat) : Nat → Int32
  | 0 => 0
  | P + 1 => if T P = 40 then zoc T P + 1 else if T P = 41 then zoc T P + (-1) else zoc T P
def zRowOK (N i : Nat) (r : Nat → Int32) : Prop := (∃ k, k < 7 ∧ r 0 = nI k ∧ (∀ j, j < 3 → zin k ≤ j → r (3 + j) = -1005) ∧ ∀ q, q < zpn k → zlo k q ≤ r (6 + q) ∧ r (6 + q) ≤ zhi k q) ∧ (r 1 = 0 ∧ r 2 = 99) ∧ ∀ j, j < 3 → r (3 + j) = -1005 ∨ ∃ y, y < N + i ∧ r (3 + j) = nI y
def zWOK (N F : Nat) (W : Nat → Nat → Int32) : Prop := ∀ i, i < F → zRowOK N i (W i)
def zvOK (N F v : Nat) : Prop := (v < 100 → v < N) ∧ (100 ≤ v → v - 100 < F)
section PARSE
variable {L N P F k i e d : Nat} {T : Nat → Nat} {c hi x y z : Int32} {W : Nat → Nat → Int32}
theorem zvOK_mono {F' v : Nat} (h : zvOK N F v) (hF : F ≤ F') : zvOK N F' v := ⟨h.1, fun q => by have := h.2 q; omega⟩
theorem zcv_lt {v : Nat} (h : zvOK N F v) : zcv N v < N + F := by
  unfold zcv
  by_cases hv : v < 100
  · rw [if_pos hv]
    have := h.1 hv
    omega
  · rw [if_neg hv]
    have := h.2 (by omega)
    omega
theorem zch_ne (h : zch T L P = c) (hc : 0 ≤ c) : P < L ∧ nI (T P) = c := by
  have hl : P < L := zch_lt (by rw [h]; exact hc)
  exact ⟨hl, by rw [← h]; exact (if_pos hl).symm⟩
theorem zch_nat {a : Nat} (h : zch T L P = nI a) (ha : a < 128) (hT : ∀ j, T j < 128) : P < L ∧ T P = a := by
  obtain ⟨h1, h2⟩ := zch_ne h (z_pos (by omega))
  exact ⟨h1, nI_inj (by have := hT P; omega) (by omega) h2⟩
theorem zoc_s (h0 : T P ≠ 40) (h1 : T P ≠ 41) : zoc T (P + 1) = zoc T P := by
  show (if T P = 40 then _ else if T P = 41 then _ else _) = _
  rw [if_neg h0, if_neg h1]
theorem zoc_o (h0 : T P = 40) (he : zoc T P = nI e) : zoc T (P + 1) = nI (e + 1) := by
  show (if T P = 40 then _ else if T P = 41 then _ else _) = _
  rw [if_pos h0, he, nI_1]
theorem zoc_c (h0 : T P = 41) (he : zoc T P = nI (e + 1)) : zoc T (P + 1) = nI e := by
  show (if T P = 40 then _ else if T P = 41 then _ else _) = _
  rw [if_neg (by omega), if_pos h0, he, show nI (e + 1) + (-1) = nI (e + 1) - 1 from (Int32.sub_eq_add_neg _ _).symm, nI_pred]
theorem zdg_oc (hT : ∀ j, T j < 128) : zoc T (zdg T L P).2 = zoc T P := by
  unfold zdg
  by_cases h1 : 48 ≤ zch T L P ∧ zch T L P ≤ 57
  · obtain ⟨a1, a2, a3, -⟩ := zch_di h1 hT
    have o1 := zoc_s (T := T) (P := P) (by omega) (by omega)
    rw [if_pos h1]
    by_cases h0 : T P - 48 = 0
    · rw [if_pos h0]; exact o1
    · rw [if_neg h0]
      by_cases h2 : 48 ≤ zch T L (P + 1) ∧ zch T L (P + 1) ≤ 57
      · obtain ⟨b1, b2, b3, -⟩ := zch_di h2 hT
        have o2 := zoc_s (T := T) (P := P + 1) (by omega) (by omega)
        rw [if_pos h2]
        by_cases h3 : 48 ≤ zch T L (P + 2) ∧ zch T L (P + 2) ≤ 57
        · obtain ⟨c1, c2, c3, -⟩ := zch_di h3 hT
          have o3 := zoc_s (T := T) (P := P + 2) (by omega) (by omega)
          rw [if_pos h3]; exact o3.trans (o2.trans o1)
        · rw [if_neg h3]; exact o2.trans o1
      · rw [if_neg h2]; exact o1
  · rw [if_neg h1]
theorem zrn_ok {neg : Bool} {q : Nat × Nat} (hT : ∀ j, T j < 128) (h : zrn T L P hi neg = some q) : P < q.2 ∧ q.2 ≤ L ∧ q.1 < 1000 ∧ nI q.1 ≤ hi ∧ (neg = true → q.1 ≠ 0) ∧ zoc T q.2 = zoc T P := by
  obtain ⟨l1, l2, l3⟩ := zdg_le (L := L) (P := P) hT
  unfold zrn at h
  by_cases h1 : (zdg T L P).2 = P
  · rw [if_pos h1] at h
    cases h
  · rw [if_neg h1] at h
    by_cases h2 : hi < nI (zdg T L P).1
    · rw [if_pos h2] at h
      cases h
    · rw [if_neg h2] at h
      by_cases h3 : neg = true ∧ (zdg T L P).1 = 0
      · rw [if_pos h3] at h
        cases h
      · rw [if_neg h3] at h
        cases h
        exact ⟨by omega, by omega, l3, Int32.not_lt.mp h2, fun w z => h3 ⟨w, z⟩, zdg_oc hT⟩
theorem zneg_all : ∀ v : Nat, v ≤ 255 → (-255 : Int32) ≤ -nI v ∧ -nI v ≤ 255 := by decide +kernel
theorem zlo_0 : ∀ k, k < 7 → ∀ i, i < znn k → zlo k i ≤ 0 := by decide +kernel
theorem zlo_2 : ∀ i, i < znn 2 → zlo 2 i = -255 ∧ zhi 2 i = nI 255 := by decide +kernel
theorem znu_ok {q : Nat × Int32} (hT : ∀ j, T j < 128) (hk : k < 7) (hi : i < znn k) (h : znu T L k i P = .inr q) : P < q.1 ∧ q.1 ≤ L ∧ (zlo k i ≤ q.2 ∧ q.2 ≤ zhi k i) ∧ zoc T q.1 = zoc T P := by
  unfold znu at h
  by_cases hc : k = 2 ∧ zch T L P = 45
  · rw [if_pos hc] at h
    obtain ⟨rfl, hc2⟩ := hc
    cases hz : zrn T L (P + 1) (zhi 2 i) true with
    | none => rw [hz] at h; cases h
    | some r =>
      rw [hz] at h
      cases h
      obtain ⟨a1, a2, a3, a4, a5, a6⟩ := zrn_ok hT hz
      obtain ⟨e1, e2⟩ := zlo_2 i hi
      obtain ⟨b1, b2⟩ := zch_nat (a := 45) hc2 (by omega) hT
      rw [e2] at a4
      have h255 := (nI_leI (by omega) (by omega)).mp a4
      obtain ⟨c1, c2⟩ := zneg_all r.1 h255
      rw [e1, e2]
      exact ⟨by show P < r.2; omega, a2, ⟨c1, c2⟩, a6.trans (zoc_s (by omega) (by omega))⟩
  · rw [if_neg hc] at h
    cases hz : zrn T L P (zhi k i) false with
    | none => rw [hz] at h; cases h
    | some r =>
      rw [hz] at h
      cases h
      obtain ⟨a1, a2, a3, a4, a5, a6⟩ := zrn_ok hT hz
      exact ⟨a1, a2, ⟨Int32.le_trans (zlo_0 k hk i hi) (z_pos (by omega)), a4⟩, a6⟩
theorem znu_no {q : Nat} (hT : ∀ j, T j < 128) (h : znu T L k i P = .inl q) (hP : P ≤ L) : P ≤ q ∧ q ≤ L ∧ zoc T q = zoc T P := by
  unfold znu at h
  by_cases hc : k = 2 ∧ zch T L P = 45
  · rw [if_pos hc] at h
    obtain ⟨b1, b2⟩ := zch_nat (a := 45) hc.2 (by omega) hT
    cases hz : zrn T L (P + 1) (zhi k i) true with
    | none =>
      rw [hz] at h
      cases h
      exact ⟨by omega, by omega, zoc_s (by omega) (by omega)⟩
    | some r => rw [hz] at h; cases h
  · rw [if_neg hc] at h
    cases hz : zrn T L P (zhi k i) false with
    | none =>
      rw [hz] at h
      cases h
      exact ⟨Nat.le_refl _, hP, rfl⟩
    | some r => rw [hz] at h; cases h
theorem zcm_ok (hT : ∀ j, T j < 128) {b : Bool} (h : ¬ (b = true ∧ zch T L P ≠ 44)) (hP : P ≤ L) : P ≤ (if b = true then P + 1 else P) ∧ (if b = true then P + 1 else P) ≤ L ∧ zoc T (if b = true then P + 1 else P) = zoc T P := by
  cases b with
  | false => exact ⟨Nat.le_refl _, hP, rfl⟩
  | true =>
    have hc : zch T L P = nI 44 := Classical.byContradiction (fun q => h ⟨rfl, q⟩)
    obtain ⟨b1, b2⟩ := zch_nat (a := 44) hc (by omega) hT
    exact ⟨by show P ≤ P + 1; omega, by show P + 1 ≤ L; omega, zoc_s (by omega) (by omega)⟩
theorem zns_ok (hT : ∀ j, T j < 128) (hk : k < 7) : ∀ (c i P : Nat) (ns : Nat → Int32), i + c ≤ znn k → P ≤ L → match zns T L k c i P ns with
    | .inl q => P ≤ q ∧ q ≤ L ∧ zoc T q = zoc T P
    | .inr q => P ≤ q.1 ∧ q.1 ≤ L ∧ zoc T q.1 = zoc T P ∧ (∀ j, i ≤ j → j < i + c → zlo k j ≤ q.2 j ∧ q.2 j ≤ zhi k j) ∧ ∀ j, j < i → q.2 j = ns j := by
  intro c
  induction c with
  | zero =>
    intro i P ns hi hP
    exact ⟨Nat.le_refl _, hP, rfl, fun j a b => by omega, fun _ _ => rfl⟩
  | succ c ih =>
    intro i P ns hi hP
    unfold zns
    by_cases hc : 0 < zin k + i ∧ zch T L P ≠ 44
    · rw [if_pos hc]
      exact ⟨Nat.le_refl _, hP, rfl⟩
    · rw [if_neg hc]
      have hcm := zcm_ok (L := L) (P := P) hT (b := decide (0 < zin k + i)) (fun q => hc ⟨of_decide_eq_true q.1, q.2⟩) hP
      have hif : (if decide (0 < zin k + i) = true then P + 1 else P) = if 0 < zin k + i then P + 1 else P := by
        by_cases h0 : 0 < zin k + i
        · rw [if_pos h0, if_pos (decide_eq_true h0)]
        · rw [if_neg h0, if_neg (fun q => h0 (of_decide_eq_true q))]
      rw [hif] at hcm
      generalize (if 0 < zin k + i then P + 1 else P) = P1 at hcm ⊢
      cases hz : znu T L k i P1 with
      | inl q =>
        obtain ⟨a1, a2, a3⟩ := znu_no hT hz hcm.2.1
        exact ⟨by omega, a2, a3.trans hcm.2.2⟩
      | inr q =>
        obtain ⟨a1, a2, a3, a4⟩ := znu_ok hT hk (by omega) hz
        have h2 := ih (i + 1) q.1 (va_up ns i q.2) (by omega) a2
        show match zns T L k c (i + 1) q.1 (va_up ns i q.2) with
          | .inl q => P ≤ q ∧ q ≤ L ∧ zoc T q = zoc T P
          | .inr q => P ≤ q.1 ∧ q.1 ≤ L ∧ zoc T q.1 = zoc T P ∧ (∀ j, i ≤ j → j < i + (c + 1) → zlo k j ≤ q.2 j ∧ q.2 j ≤ zhi k j) ∧ ∀ j, j < i → q.2 j = ns j
        cases hr : zns T L k c (i + 1) q.1 (va_up ns i q.2) with
        | inl r =>
          rw [hr] at h2
          obtain ⟨b1, b2, b3⟩ := h2
          exact ⟨by omega, b2, b3.trans (a4.trans hcm.2.2)⟩
        | inr r =>
          rw [hr] at h2
          obtain ⟨b1, b2, b3, b4, b5⟩ := h2
          refine ⟨by omega, b2, b3.trans (a4.trans hcm.2.2), fun j h1 h2 => ?_, fun j hj => by rw [b5 j (by omega), va_up_ne _ _ (by omega)]⟩
          by_cases hj : j = i
          · subst hj
            rw [b5 j (by omega), va_up_self]
            exact a3
          · exact b4 j (by omega) (by omega)
/-- what an expression keeps -/
def zPk (T : Nat → Nat) (L N e P F : Nat) (W : Nat → Nat → Int32) (o : zRs) : Prop :=
  match o with
  | .inl f => f.1 ≤ L ∧ (zoc T P = nI e → zoc T f.1 = nI f.2)
  | .inr r => P + 3 ≤ r.1 ∧ r.1 ≤ L ∧ F ≤ r.2.2.1 ∧ 3 * r.2.2.1 + P ≤ 3 * F + r.1 ∧ (zoc T P = nI e → zoc T r.1 = nI e) ∧ (∀ i, i < F → r.2.2.2 i = W i) ∧ (zWOK N F W → zWOK N r.2.2.1 r.2.2.2 ∧ zvOK N r.2.2.1 r.2.1)
theorem zxs_ok {rec : Nat → Nat → (Nat → Nat → Int32) → zRs} (hT : ∀ j, T j < 128) (hrec : ∀ P F W, P ≤ L → zPk T L N e P F W (rec P F W)) : ∀ (c j P F : Nat) (W : Nat → Nat → Int32) (us : Nat → Nat), P ≤ L → match zxs T L e rec c j P F W us with
    | .inl f => f.1 ≤ L ∧ (zoc T P = nI e → zoc T f.1 = nI f.2)
    | .inr r => P ≤ r.1 ∧ r.1 ≤ L ∧ F ≤ r.2.1 ∧ 3 * r.2.1 + P ≤ 3 * F + r.1 ∧ (zoc T P = nI e → zoc T r.1 = nI e) ∧ (∀ i, i < F → r.2.2.1 i = W i) ∧ (zWOK N F W → (∀ t, t < j → zvOK N F (us t)) → zWOK N r.2.1 r.2.2.1 ∧ ∀ t, t < j + c → zvOK N r.2.1 (r.2.2.2 t)) := by
  intro c
  induction c with
  | zero =>
    intro j P F W us hP
    exact ⟨Nat.le_refl _, hP, Nat.le_refl _, Nat.le_refl _, fun h => h, fun _ _ => rfl, fun h1 h2 => ⟨h1, h2⟩⟩
  | succ c ih =>
    intro j P F W us hP
    unfold zxs
    by_cases hc : 0 < j ∧ zch T L P ≠ 44
    · rw [if_pos hc]
      exact ⟨hP, fun h => h⟩
    · rw [if_neg hc]
      have hcm := zcm_ok (L := L) (P := P) hT (b := decide (0 < j)) (fun q => hc ⟨of_decide_eq_true q.1, q.2⟩) hP
      have hif : (if decide (0 < j) = true then P + 1 else P) = if 0 < j then P + 1 else P := by
        by_cases h0 : 0 < j
        · rw [if_pos h0, if_pos (decide_eq_true h0)]
        · rw [if_neg h0, if_neg (fun q => h0 (of_decide_eq_true q))]
      rw [hif] at hcm
      generalize (if 0 < j then P + 1 else P) = P1 at hcm ⊢
      have h1 := hrec P1 F W hcm.2.1
      cases hz : rec P1 F W with
      | inl f =>
        rw [hz] at h1
        exact ⟨h1.1, fun h => h1.2 (hcm.2.2.trans h)⟩
      | inr r =>
        rw [hz] at h1
        obtain ⟨a1, a2, a3, a4, a5, a6, a7⟩ := h1
        have h2 := ih (j + 1) r.1 r.2.2.1 r.2.2.2 (va_up us j r.2.1) a2
        show match zxs T L e rec c (j + 1) r.1 r.2.2.1 r.2.2.2 (va_up us j r.2.1) with
          | .inl f => f.1 ≤ L ∧ (zoc T P = nI e → zoc T f.1 = nI f.2)
          | .inr r => P ≤ r.1 ∧ r.1 ≤ L ∧ F ≤ r.2.1 ∧ 3 * r.2.1 + P ≤ 3 * F + r.1 ∧ (zoc T P = nI e → zoc T r.1 = nI e) ∧ (∀ i, i < F → r.2.2.1 i = W i) ∧ (zWOK N F W → (∀ t, t < j → zvOK N F (us t)) → zWOK N r.2.1 r.2.2.1 ∧ ∀ t, t < j + (c + 1) → zvOK N r.2.1 (r.2.2.2 t))
        cases hs : zxs T L e rec c (j + 1) r.1 r.2.2.1 r.2.2.2 (va_up us j r.2.1) with
        | inl f =>
          rw [hs] at h2
          exact ⟨h2.1, fun h => h2.2 (a5 (hcm.2.2.trans h))⟩
        | inr s =>
          rw [hs] at h2
          obtain ⟨b1, b2, b3, b4, b5, b6, b7⟩ := h2
          refine ⟨by omega, b2, by omega, by omega, fun h => b5 (a5 (hcm.2.2.trans h)), fun i hi => (b6 i (by omega)).trans (a6 i hi), fun hW hu => ?_⟩
          obtain ⟨c1, c2⟩ := a7 hW
          obtain ⟨d1, d2⟩ := b7 c1 (fun t ht => by
            by_cases htj : t = j
            · subst htj
              rw [va_up_self]
              exact c2
            · rw [va_up_ne _ _ htj]
              exact zvOK_mono (hu t (by omega)) a3)
          exact ⟨d1, fun t ht => d2 t (by omega)⟩
theorem zrw_ok {us : Nat → Nat} {ns : Nat → Int32} (hk : k < 7) (hu : ∀ t, t < zin k → zvOK N F (us t)) (hn : ∀ j, j < znn k → zlo k j ≤ ns j ∧ ns j ≤ zhi k j) : zRowOK N F (zrw N k us ns) := by
  obtain ⟨h4, hp4, hsrc⟩ := znn_ok k hk
  have hin : ∀ j, j < 3 → zrw N k us ns (3 + j) = if j < zin k then nI (zcv N (us j)) else -1005 := by
    intro j hj
    unfold zrw
    rw [if_neg (by omega), if_neg (by omega), if_neg (by omega), if_pos (by omega), show 3 + j - 3 = j by omega]
  refine ⟨⟨k, hk, rfl, fun j hj hz => by rw [hin j hj, if_neg (by omega)], fun q hq => ?_⟩, ⟨rfl, rfl⟩, fun j hj => ?_⟩
  · have e : zrw N k us ns (6 + q) = ns (if q < znn k then q else 0) := by
      unfold zrw
      rw [if_neg (by omega), if_neg (by omega), if_neg (by omega), if_neg (by omega), show 6 + q - 6 = q by omega, if_pos hq]
    rw [e]
    have hs := hsrc q hq
    have h1 := hn _ hs
    have hsame : ∀ k, k < 7 → ∀ q, q < zpn k → zlo k (if q < znn k then q else 0) = zlo k q ∧ zhi k (if q < znn k then q else 0) = zhi k q := by decide +kernel
    obtain ⟨s1, s2⟩ := hsame k hk q hq
    rw [s1, s2] at h1
    exact h1
  · rw [hin j hj]
    by_cases hz : j < zin k
    · rw [if_pos hz]
      exact Or.inr ⟨_, zcv_lt (hu j hz), rfl⟩
    · rw [if_neg hz]
      exact Or.inl rfl
theorem zkh_m1 : zkh (-1) = 8 := by decide +kernel
theorem zkh_par : zkh (nI 40) = 8 ∧ zkh (nI 41) = 8 := by decide +kernel
theorem zpx_ok (hT : ∀ j, T j < 128) (hN : N ≤ 12) : ∀ (d e P F : Nat) (W : Nat → Nat → Int32), P ≤ L → zPk T L N e P F W (zpx T L N d e P F W) := by
  intro d
  induction d with
  | zero => intro e P F W hP; exact ⟨hP, fun h => h⟩
  | succ d ih =>
    intro e P F W hP
    unfold zpx
    by_cases h8 : zkh (zch T L P) = 8
    · rw [if_pos h8]
      exact ⟨hP, fun h => h⟩
    · rw [if_neg h8]
      have hl : P < L := by
        by_cases hl : P < L
        · exact hl
        · exact absurd (by rw [show zch T L P = -1 from if_neg hl]; exact zkh_m1) h8
      have hk7 : zkh (zch T L P) < 8 := by have := zkh_le (zch T L P); omega
      have eP : zch T L P = nI (T P) := if_pos hl
      have o1 : zoc T (P + 1) = zoc T P := zoc_s (fun q => h8 (by rw [eP, q]; exact zkh_par.1)) (fun q => h8 (by rw [eP, q]; exact zkh_par.2))
      by_cases h40 : zch T L (P + 1) = 40
      · rw [if_pos h40]
        obtain ⟨b1, b2⟩ := zch_nat (a := 40) h40 (by omega) hT
        have o2 : zoc T P = nI e → zoc T (P + 2) = nI (e + 1) := fun h => zoc_o b2 (o1.trans h)
        by_cases h7 : zkh (zch T L P) = 7
        · rw [if_pos h7]
          cases hz : zrn T L (P + 2) (nI N - 1) false with
          | none => exact ⟨by show P + 2 ≤ L; omega, o2⟩
          | some q =>
            obtain ⟨a1, a2, a3, a4, -, a6⟩ := zrn_ok hT hz
            show zPk T L N e P F W (if zch T L q.2 = 41 then .inr (q.2 + 1, q.1, F, W) else .inl (q.2, e + 1))
            by_cases h41 : zch T L q.2 = 41
            · rw [if_pos h41]
              obtain ⟨c1, c2⟩ := zch_nat (a := 41) h41 (by omega) hT
              obtain ⟨j, hj, ej⟩ := z_inlt (N := N) (by omega) (z_pos (by omega)) a4
              have hqj : q.1 = j := nI_inj (by omega) (by omega) ej
              exact ⟨by show P + 3 ≤ q.2 + 1; omega, by show q.2 + 1 ≤ L; omega, Nat.le_refl _, by show 3 * F + P ≤ 3 * F + (q.2 + 1); omega, fun h => zoc_c c2 (a6.trans (o2 h)), fun _ _ => rfl, fun hW => ⟨hW, fun _ => by show q.1 < N; omega, fun h => by have h' : 100 ≤ q.1 := h; omega⟩⟩
            · rw [if_neg h41]
              exact ⟨a2, fun h => a6.trans (o2 h)⟩
        · rw [if_neg h7]
          have hk : zkh (zch T L P) < 7 := by omega
          generalize zkh (zch T L P) = k at hk
          have hx := zxs_ok (L := L) (N := N) (e := e + 1) (rec := zpx T L N d (e + 1)) hT (fun P F W hP => ih (e + 1) P F W hP) (zin k) 0 (P + 2) F W (fun _ => 0) (by omega)
          cases hs : zxs T L (e + 1) (zpx T L N d (e + 1)) (zin k) 0 (P + 2) F W (fun _ => 0) with
          | inl f =>
            rw [hs] at hx
            exact ⟨hx.1, fun h => hx.2 (o2 h)⟩
          | inr r =>
            rw [hs] at hx
            obtain ⟨a1, a2, a3, a4, a5, a6, a7⟩ := hx
            have hn := zns_ok (L := L) hT hk (znn k) 0 r.1 (fun _ => 0) (by omega) a2
            show zPk T L N e P F W (match zns T L k (znn k) 0 r.1 (fun _ => 0) with
              | .inl p => .inl (p, e + 1)
              | .inr q => if zch T L q.1 = 41 then .inr (q.1 + 1, 100 + r.2.1, r.2.1 + 1, zput r.2.2.1 r.2.1 (zrw N k r.2.2.2 q.2)) else .inl (q.1, e + 1))
            cases hq : zns T L k (znn k) 0 r.1 (fun _ => 0) with
            | inl q =>
              rw [hq] at hn
              exact ⟨hn.2.1, fun h => hn.2.2.trans (a5 (o2 h))⟩
            | inr q =>
              rw [hq] at hn
              obtain ⟨c1, c2, c3, c4, -⟩ := hn
              show zPk T L N e P F W (if zch T L q.1 = 41 then .inr (q.1 + 1, 100 + r.2.1, r.2.1 + 1, zput r.2.2.1 r.2.1 (zrw N k r.2.2.2 q.2)) else .inl (q.1, e + 1))
              by_cases h41 : zch T L q.1 = 41
              · rw [if_pos h41]
                obtain ⟨g1, g2⟩ := zch_nat (a := 41) h41 (by omega) hT
                refine ⟨by show P + 3 ≤ q.1 + 1; omega, by show q.1 + 1 ≤ L; omega, by show F ≤ r.2.1 + 1; omega, by show 3 * (r.2.1 + 1) + P ≤ 3 * F + (q.1 + 1); omega, fun h => zoc_c g2 (c3.trans (a5 (o2 h))), fun i hi => ?_, fun hW => ⟨fun i hi => ?_, fun h => absurd (show 100 + r.2.1 < 100 from h) (by omega), fun _ => by show 100 + r.2.1 - 100 < r.2.1 + 1; omega⟩⟩
                · show zput r.2.2.1 r.2.1 _ i = W i
                  have : zput r.2.2.1 r.2.1 (zrw N k r.2.2.2 q.2) i = r.2.2.1 i := by
                    funext w
                    exact if_neg (by omega)
                  rw [this, a6 i hi]
                · have hi' : i < r.2.1 + 1 := hi
                  obtain ⟨w1, w2⟩ := a7 hW (fun t ht => by omega)
                  show zRowOK N i (zput r.2.2.1 r.2.1 (zrw N k r.2.2.2 q.2) i)
                  by_cases hir : i = r.2.1
                  · subst hir
                    have : zput r.2.2.1 r.2.1 (zrw N k r.2.2.2 q.2) r.2.1 = zrw N k r.2.2.2 q.2 := by
                      funext w
                      exact if_pos rfl
                    rw [this]
                    exact zrw_ok hk (fun t ht => w2 t (by omega)) (fun j hj => c4 j (by omega) (by omega))
                  · have : zput r.2.2.1 r.2.1 (zrw N k r.2.2.2 q.2) i = r.2.2.1 i := by
                      funext w
                      exact if_neg hir
                    rw [this]
                    exact w1 i (by omega)
              · rw [if_neg h41]
                exact ⟨c2, fun h => c3.trans (a5 (o2 h))⟩
      · rw [if_neg h40]
        exact ⟨by show P + 1 ≤ L; omega, fun h => o1.trans h⟩
end PARSE
