/-! ===== orders, depths, dependents; how many are kept ===== -/
/-- how many of the first -/
def zct (f : Nat → Bool) : Nat → Nat
  | 0 => 0
  | t + 1 => zct f t + (if f t = true then 1 else 0)
def zbB (x : Int32) (i : Nat) : Bool := decide ((x >>> (nI i &&& 31)) &&& 1 = 1)
theorem zbB_iff {x : Int32} {i : Nat} : zbB x i = true ↔ zb x i := by
  unfold zbB zb
  exact decide_eq_true_iff
theorem zct_le {f g : Nat → Bool} : ∀ t, (∀ i, i < t → f i = true → g i = true) → zct f t ≤ zct g t := by
  intro t
  induction t with
  | zero => intro _; exact Nat.le_refl _
  | succ t ih =>
    intro h
    have h1 := ih (fun i hi => h i (by omega))
    have h2 := h t (by omega)
    unfold zct
    by_cases hf : f t = true
    · rw [if_pos hf, if_pos (h2 hf)]
      omega
    · rw [if_neg hf]
      omega
theorem zct_lt {f g : Nat → Bool} {j : Nat} : ∀ t, (∀ i, i < t → f i = true → g i = true) → j < t → f j = false → g j = true → zct f t < zct g t := by
  intro t
  induction t with
  | zero => intro _ h; omega
  | succ t ih =>
    intro h hj hf hg
    unfold zct
    by_cases hjt : j = t
    · subst hjt
      have h1 := zct_le (f := f) (g := g) j (fun i hi => h i (by omega))
      rw [if_pos hg, if_neg (by rw [hf]; decide)]
      omega
    · have h1 := ih (fun i hi => h i (by omega)) (by omega) hf hg
      have h2 := h t (by omega)
      by_cases hft : f t = true
      · rw [if_pos hft, if_pos (h2 hft)]
        omega
      · rw [if_neg hft]
        omega
theorem zct_n {f : Nat → Bool} {N : Nat} : ∀ t, (∀ i, i < t → f i = true → i < N) → zct f t ≤ N := by
  intro t
  have h0 : ∀ t, zct (fun i => decide (i < N)) t ≤ N ∧ (t ≤ N → zct (fun i => decide (i < N)) t ≤ t) := by
    intro t
    induction t with
    | zero => exact ⟨Nat.zero_le _, fun _ => Nat.le_refl _⟩
    | succ t ih =>
      unfold zct
      by_cases h : t < N
      · have := ih.2 (by omega)
        rw [if_pos (by simpa using h)]
        exact ⟨by omega, fun _ => by omega⟩
      · rw [if_neg (by simpa using h)]
        exact ⟨ih.1, fun q => by omega⟩
  intro h
  exact Nat.le_trans (zct_le t (fun i hi hf => by simpa using h i hi hf)) (h0 t).1
set_option maxRecDepth 100000 in
theorem zbc_all : ((List.range 4096).all fun k => zbc (nI k) == nI (zct (zbB (nI k)) 12)) = true := by decide +kernel
theorem zbc_ct {x : Int32} (h : zsm x) : zbc x = nI (zct (zbB x) 12) := by
  obtain ⟨k, hk, rfl⟩ := zsm_nI h
  have h1 := List.all_eq_true.mp zbc_all k (List.mem_range.mpr hk)
  simpa using h1
section FACTS
variable {N i j k : Nat} {V : Nat → Nat → Int32}
theorem zdep_tr {a b c : Nat} (h1 : zdep N V a b) (h2 : zdep N V b c) : zdep N V a c := by
  obtain ⟨n, hn⟩ := h2
  induction n generalizing c with
  | zero =>
    have e : b = c := hn
    rw [← e]
    exact h1
  | succ n ih =>
    rcases hn with e | ⟨j, k, hj, hk, e, hn⟩
    · rw [← e]
      exact h1
    · exact zdep_step hj hk e (ih hn)
theorem zdep_rk {rk : Nat → Nat} (hrk : ∀ i j k, i < N → j < N → k < 3 → zI V i k = nI j → rk j < rk i) {a b : Nat} (h : zdep N V a b) (hb : b < N) : rk a ≤ rk b := by
  obtain ⟨n, hn⟩ := h
  induction n generalizing b with
  | zero =>
    have e : a = b := hn
    rw [e]
    exact Nat.le_refl _
  | succ n ih =>
    rcases hn with e | ⟨j, k, hj, hk, e, hn⟩
    · rw [e]
      exact Nat.le_refl _
    · have := ih hj hn
      have := hrk b j k hb hj hk e
      omega
/-- an input has more dependents -/
theorem zdeps_lt (h : zOK N V) (hi : i < N) (hj : j < N) (hk : k < 3) (e : V i (3 + k) = nI j) : zbc (zfd N V i N) < zbc (zfd N V j N) := by
  have hN := h.1
  obtain ⟨a1, a2⟩ := zfd_dep h hi
  obtain ⟨b1, b2⟩ := zfd_dep h hj
  rw [zbc_ct a1, zbc_ct b1]
  have hji : zdep N V j i := zdep_step hj hk e (zdep_rf j)
  have h12 := zct_n (f := zbB (zfd N V j N)) (N := N) 12 (fun t ht hf => ((b2 t ht).mp (zbB_iff.mp hf)).1)
  refine nI_lt (zct_lt (j := j) 12 (fun t ht hf => ?_) (by omega) ?_ ?_) (by omega)
  · have := (a2 t ht).mp (zbB_iff.mp hf)
    exact zbB_iff.mpr ((b2 t ht).mpr ⟨this.1, zdep_tr hji this.2⟩)
  · cases hq : zbB (zfd N V i N) j
    · rfl
    · have hd := ((a2 j (by omega)).mp (zbB_iff.mp hq)).2
      obtain ⟨-, -, rk, hrk⟩ := h
      have h1 := zdep_rk hrk hd hj
      have h2 := hrk i j k hi hj hk e
      omega
  · exact zbB_iff.mpr ((b2 j (by omega)).mpr ⟨hj, zdep_rf j⟩)
theorem zdeps_in (h : zOK N V) (hi : i < N) : ∃ c, 1 ≤ c ∧ c ≤ N ∧ zbc (zfd N V i N) = nI c := by
  have hN := h.1
  obtain ⟨a1, a2⟩ := zfd_dep h hi
  refine ⟨zct (zbB (zfd N V i N)) 12, ?_, zct_n 12 (fun t ht hf => ((a2 t ht).mp (zbB_iff.mp hf)).1), zbc_ct a1⟩
  have h0 : ∀ t, zct (fun _ => false) t = 0 := fun t => by
    induction t with
    | zero => rfl
    | succ t ih => unfold zct; rw [ih, if_neg (by decide)]
  have := zct_lt (f := fun _ => false) (g := zbB (zfd N V i N)) (j := i) 12 (fun _ _ q => by cases q) (by omega) rfl (zbB_iff.mpr ((a2 i (by omega)).mpr ⟨hi, zdep_rf i⟩))
  rw [h0] at this
  omega
theorem zpos_lt (h : zOK N V) (hi : i < N) (hj : j < N) (hk : k < 3) (e : V i (3 + k) = nI j) : zpos N V j < zpos N V i := by
  obtain ⟨a1, a2⟩ := zpos_ok h hi
  obtain ⟨b1, b2⟩ := zpos_ok h hj
  obtain ⟨s, s1, s2⟩ := zord_top h a1 hj hk (by rw [a2]; exact e)
  rcases Nat.lt_trichotomy s (zpos N V j) with q | q | q
  · exact absurd (s2.trans b2.symm) (zord_inj h q b1)
  · rw [← q]
    exact s1
  · exact absurd (b2.trans s2.symm) (zord_inj h q (by omega))
theorem zmx_ge {D : Nat → Nat} {v : Nat → Int32} : ∀ c k, k < c → v k ≠ -1005 → D (v k).toNatClampNeg + 1 ≤ zmx D v c := by
  intro c
  induction c with
  | zero => intro k hk; omega
  | succ c ih =>
    intro k hk hv
    unfold zmx
    by_cases hkc : k = c
    · subst hkc
      rw [if_neg hv]
      omega
    · have := ih k (by omega) hv
      split <;> omega
theorem zD_lt {D : Nat → Nat} (h : zOK N V) (h1 : zDok N V D) (hi : i < N) (hj : j < N) (hk : k < 3) (e : V i (3 + k) = nI j) : D j < D i := by
  have hN := h.1
  have e' : zI V i k = nI j := e
  have := zmx_ge (D := D) (v := zI V i) 3 k hk (by rw [e']; exact nI_ne_none (by omega))
  rw [e', nI_clamp (by omega)] at this
  rw [h1 i hi]
  omega
/-- the places of the first nodes -/
noncomputable def zpls (N : Nat) (V : Nat → Nat → Int32) : Nat → Int32
  | 0 => 0
  | t + 1 => zpls N V t ||| z1 (zpos N V t)
theorem zpls_b (h : zOK N V) : ∀ t, t ≤ N → zsm (zpls N V t) ∧ ∀ b, b < 12 → (zb (zpls N V t) b ↔ ∃ i, i < t ∧ zpos N V i = b) := by
  have hN := h.1
  intro t
  induction t with
  | zero => intro _; exact ⟨z0_sm, fun b hb => ⟨fun q => absurd q (z0_b (by omega)), fun q => by obtain ⟨i, hi, -⟩ := q; omega⟩⟩
  | succ t ih =>
    intro ht
    obtain ⟨a1, a2⟩ := ih (by omega)
    have hp := (zpos_ok h (show t < N by omega)).1
    refine ⟨zor_sm a1 (z1_sm (by omega)), fun b hb => ?_⟩
    show zb (zpls N V t ||| z1 (zpos N V t)) b ↔ _
    rw [zor_b (by omega), a2 b hb, z1_b (by omega) (by omega)]
    constructor
    · rintro (⟨i, hi, e⟩ | e)
      · exact ⟨i, by omega, e⟩
      · exact ⟨t, by omega, e.symm⟩
    · rintro ⟨i, hi, e⟩
      by_cases hit : i = t
      · subst hit
        exact Or.inr e.symm
      · exact Or.inl ⟨i, by omega, e⟩
theorem zfull : ∀ N, N ≤ 12 → zct (zbB ((1 : Int32) <<< (nI N &&& 31) - 1)) 12 = N ∧ (∀ b, b < 12 → zbB ((1 : Int32) <<< (nI N &&& 31) - 1) b = decide (b < N)) ∧ ∀ b, b < 32 → 12 ≤ b → ((1 : Int32) <<< (nI N &&& 31) - 1).toBitVec.getLsbD b = false := by decide +kernel
theorem zpls_full (h : zOK N V) : zpls N V N = (1 : Int32) <<< (nI N &&& 31) - 1 := by
  have hN := h.1
  obtain ⟨-, f1, f2⟩ := zfull N hN
  obtain ⟨a1, a2⟩ := zpls_b h N (Nat.le_refl _)
  refine zext a1 (fun b h1 h2 => f2 b h2 h1) (fun b hb => ?_)
  rw [a2 b hb, ← zbB_iff, f1 b hb, decide_eq_true_iff]
  constructor
  · rintro ⟨i, hi, e⟩
    rw [← e]
    exact (zpos_ok h hi).1
  · intro hbN
    have hi : zord N V b < N := zord_lt (by omega)
    refine ⟨zord N V b, hi, ?_⟩
    obtain ⟨b1, b2⟩ := zpos_ok h hi
    rcases Nat.lt_trichotomy (zpos N V (zord N V b)) b with q | q | q
    · exact absurd b2 (zord_inj h q hbN)
    · exact q
    · exact absurd b2.symm (zord_inj h q b1)
end FACTS
/-! how many are kept -/
def zrwc (K : Nat → Nat → Nat) (y : Nat) : Nat → Nat
  | 0 => 0
  | t + 1 => zrwc K y t + (if K y t = 0 then 0 else 1)
def zcls (K : Nat → Nat → Nat) : Nat → Nat
  | 0 => 0
  | t + 1 => zcls K t + zrwc K t 100
section CNT
variable {K : Nat → Nat → Nat} {x y : Nat}
theorem zrwc_ne {a : Nat} (ha : a ≠ x) : ∀ t, zrwc (ax_u2 K x y 0) a t = zrwc K a t := by
  intro t
  induction t with
  | zero => rfl
  | succ t ih =>
    unfold zrwc
    rw [ih, ax_u2_ne ha]
theorem zrwc_eq (hk : K x y ≠ 0) : ∀ t, zrwc (ax_u2 K x y 0) x t + (if y < t then 1 else 0) = zrwc K x t := by
  intro t
  induction t with
  | zero => rfl
  | succ t ih =>
    unfold zrwc
    by_cases hty : t = y
    · subst hty
      rw [if_neg (by omega)] at ih
      rw [ax_u2_self, if_pos rfl, if_pos (by omega), if_neg hk]
      omega
    · rw [ax_u2_nk hty]
      by_cases hlt : y < t
      · rw [if_pos hlt] at ih
        rw [if_pos (show y < t + 1 by omega)]
        omega
      · rw [if_neg hlt] at ih
        rw [if_neg (show ¬ y < t + 1 by omega)]
        omega
theorem zcls_eq (hk : K x y ≠ 0) (hy : y < 100) : ∀ t, zcls (ax_u2 K x y 0) t + (if x < t then 1 else 0) = zcls K t := by
  intro t
  induction t with
  | zero => rfl
  | succ t ih =>
    unfold zcls
    by_cases htx : t = x
    · subst htx
      have h := zrwc_eq hk 100
      rw [if_pos hy] at h
      rw [if_neg (by omega)] at ih
      rw [if_pos (by omega)]
      omega
    · rw [zrwc_ne htx]
      by_cases hlt : x < t
      · rw [if_pos hlt] at ih
        rw [if_pos (by omega)]
        omega
      · rw [if_neg hlt] at ih
        rw [if_neg (by omega)]
        omega
theorem zcls_S {N : Nat} : ∀ (S : Nat) (K : Nat → Nat → Nat), zE S K → (∀ y g, K y g ≠ 0 → y < N ∧ g < 100) → zcls K N = S := by
  intro S
  induction S with
  | zero =>
    intro K hE hK
    have h0 : ∀ y g, K y g = 0 := by
      intro y g
      by_cases hz : K y g = 0
      · exact hz
      · obtain ⟨X, Y, f, v, e, W, E, hP⟩ := hE
        obtain ⟨j, hj, -⟩ := hP.2.2 y g hz
        omega
    have h1 : ∀ y t, zrwc K y t = 0 := by
      intro y t
      induction t with
      | zero => rfl
      | succ t ih =>
        unfold zrwc
        rw [ih, h0, if_pos rfl]
    have h2 : ∀ t, zcls K t = 0 := by
      intro t
      induction t with
      | zero => rfl
      | succ t ih =>
        unfold zcls
        rw [ih, h1]
    exact h2 N
  | succ S ih =>
    intro K hE hK
    obtain ⟨X, Y, f, v, e, W, E, hP⟩ := id hE
    have hk := (hP.1 0 (by omega)).2.2.2.2.1
    obtain ⟨hx, hy⟩ := hK _ _ hk
    have h1 := (zE_rm hE hk).2
    have h2 := ih _ h1 (fun a b hab => hK a b (fun q => hab (by
      by_cases hq : a = X 0 ∧ b = Y 0
      · exact if_pos hq
      · exact (if_neg hq).trans q)))
    have h3 := zcls_eq (x := X 0) hk hy N
    rw [if_pos hx, h2] at h3
    omega
end CNT
