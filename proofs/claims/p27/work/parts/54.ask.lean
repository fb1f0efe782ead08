/-! ===== asking for a picture, apart from both programs ===== -/
abbrev zSt : Type := (Nat → Nat) × (Nat → Nat → Nat) × (Nat → Nat → Nat → Int32)
def zhit (C : zSt) (x y : Nat) : zSt := (zhtC C.1, ax_u2 C.2.1 x y (C.1 1 + 1), C.2.2)
noncomputable def zadm (C : zSt) (x y : Nat) (u : Nat → Int32) : zSt := (va_up (zadC (zroC C.1)) 8 (C.1 8 + 1), ax_u2 (zroK C.1 C.2.1) x y (C.1 1 + 1), ax_u2 C.2.2 x y u)
def zT1 (C : zSt) : zSt := (va_up C.1 8 (C.1 8 + 1), C.2)
theorem zT1_c (C : zSt) : (zT1 C).1 1 = C.1 1 ∧ (zT1 C).1 2 = C.1 2 ∧ (zT1 C).1 3 = C.1 3 ∧ (zT1 C).1 8 = C.1 8 + 1 := by simp [zT1, va_up]
def zinp (V : Nat → Nat → Int32) (rec : Nat → zSt → zSt) (x i : Nat) (C : zSt) : zSt := if V x (3 + i) = -1005 then zT1 C else rec (V x (3 + i)).toNatClampNeg (zT1 C)
noncomputable def zmany (V : Nat → Nat → Int32) (x f : Nat) : Nat := @ite _ (zir V x (nI f)) (Classical.propDecidable _) (zin (V x 0).toNatClampNeg) (min 1 (zin (V x 0).toNatClampNeg))
def zw (V : Nat → Nat → Int32) (C : zSt) (x f : Nat) : Nat → Nat → Int32 := fun i => if V x (3 + i) = -1005 then (fun _ => 0) else C.2.2 (V x (3 + i)).toNatClampNeg f
noncomputable def zin3 (V : Nat → Nat → Int32) (f : Nat) (rec : Nat → zSt → zSt) (x : Nat) (C : zSt) : Nat → zSt
  | 0 => C
  | i + 1 => if i < zmany V x f then zinp V rec x i (zin3 V f rec x C i) else zin3 V f rec x C i
noncomputable def zask (V : Nat → Nat → Int32) (f : Nat) : Nat → Nat → zSt → zSt
  | 0, _, C => C
  | d + 1, x, C => if C.2.1 x f ≠ 0 then zhit C x f else zadm (zin3 V f (zask V f d) x C 3) x f (zpc V x (nI f) (zw V (zin3 V f (zask V f d) x C 3) x f))
/-- S keys -/
def zE (S : Nat) (K : Nat → Nat → Nat) : Prop := ∃ X Y f v e W E, zP X Y S f v e K W E
theorem zE_rm {S x y : Nat} {K : Nat → Nat → Nat} (h : zE S K) (hk : K x y ≠ 0) : 0 < S ∧ zE (S - 1) (ax_u2 K x y 0) := by
  obtain ⟨X, Y, f, v, e, W, E, hP⟩ := h
  obtain ⟨j, hj, rfl, rfl⟩ := hP.2.2 x y hk
  obtain ⟨s, rfl⟩ : ∃ s, S = s + 1 := ⟨S - 1, by omega⟩
  exact ⟨by omega, _, _, _, _, _, W, E, zP_rm (f' := fun w i => f w (if i = j then s else i)) (v' := fun i k => v (if i = j then s else i) k) (e' := fun i => e (if i = j then s else i)) hP hj (fun _ _ _ _ => rfl) (fun _ _ _ _ => rfl) (fun _ _ => rfl)⟩
theorem zE_add {S x y u : Nat} {K : Nat → Nat → Nat} (h : zE S K) (hk : K x y = 0) (hx : x < 12) (hy : y < 100) (hu : u ≠ 0) : zE (S + 1) (ax_u2 K x y u) := by
  obtain ⟨X, Y, f, v, e, W, E, hP⟩ := h
  refine ⟨_, _, _, _, _, _, _, zP_add (f' := fun w i => if i = S then (if w = 0 then nI x else if w = 1 then nI y else nI u) else f w i) (v' := fun i k => if i = S then 0 else v i k) (e' := fun i => if i = S then 0 else e i) (t := 0) (w := fun _ => 0) hP hk hx hy hu (fun w j _ hj => ?_) (fun j k hj _ => ?_) (fun j hj => ?_) ?_ ?_ ?_ ?_ ?_⟩
  · exact if_neg (by omega)
  · exact if_neg (by omega)
  · exact if_neg (by omega)
  · show (if S = S then _ else _) = _
    rw [if_pos rfl]; rfl
  · show (if S = S then _ else _) = _
    rw [if_pos rfl]; rfl
  · show (if S = S then _ else _) = _
    rw [if_pos rfl]; rfl
  · show (if S = S then _ else _) = _
    rw [if_pos rfl]
  · intro k hk
    show (if S = S then _ else _) = _
    rw [if_pos rfl]
theorem zE_touch {S x y u : Nat} {K : Nat → Nat → Nat} (h : zE S K) (hk : K x y ≠ 0) (hu : u ≠ 0) : zE S (ax_u2 K x y u) := by
  obtain ⟨X, Y, f, v, e, W, E, hP⟩ := h
  obtain ⟨j, hj, rfl, rfl⟩ := hP.2.2 x y hk
  refine ⟨X, Y, fun w i => if w = 2 ∧ i = j then nI u else f w i, v, e, W, E, zP_touch hP hj hu (fun w i _ _ hne => if_neg hne) (fun _ _ _ _ => rfl) (fun _ _ => rfl) ?_⟩
  exact if_pos ⟨rfl, rfl⟩
theorem zmin_ex {K : Nat → Nat → Nat} : ∀ (u x y : Nat), K x y = u → u ≠ 0 → ∃ a b, K a b ≠ 0 ∧ K a b ≤ u ∧ ∀ c d, K c d ≠ 0 → K a b ≤ K c d := by
  intro u
  induction u using Nat.strongRecOn with
  | _ u ih =>
    intro x y h hu
    by_cases hm : ∀ c d, K c d ≠ 0 → u ≤ K c d
    · exact ⟨x, y, by omega, by omega, fun c d hcd => by rw [h]; exact hm c d hcd⟩
    · obtain ⟨c, hc⟩ := Classical.not_forall.mp hm
      obtain ⟨d, hd⟩ := Classical.not_forall.mp hc
      have h1 : K c d ≠ 0 := fun q => hd (fun q2 => absurd q q2)
      have h2 : K c d < u := by
        by_cases hlt : K c d < u
        · exact hlt
        · exact absurd (fun _ => by omega) hd
      obtain ⟨a, b, e1, e2, e3⟩ := ih (K c d) h2 c d rfl h1
      exact ⟨a, b, e1, by omega, e3⟩
/-- what holds while a picture of frame f is asked for; U0: the uses before -/
def zI5 (N f U0 : Nat) (C : zSt) : Prop := (zU C.2.1 (C.1 1) ∧ U0 ≤ C.1 1) ∧ (∀ y g, C.2.1 y g ≠ 0 → y < N ∧ g < 100 ∧ zwb (C.2.2 y g)) ∧ (∀ y g, U0 < C.2.1 y g → g = f) ∧ zE (C.1 2) C.2.1 ∧ C.1 2 ≤ C.1 3 ∧ 12 ≤ C.1 3 ∧ C.1 3 ≤ 48
/-- how many are fresh -/
def zcn (K : Nat → Nat → Nat) (U0 f : Nat) : Nat → Nat
  | 0 => 0
  | t + 1 => zcn K U0 f t + if U0 < K t f then 1 else 0
theorem zcn_le {K : Nat → Nat → Nat} {U0 f : Nat} : ∀ t, zcn K U0 f t ≤ t := by
  intro t
  induction t with
  | zero => exact Nat.le_refl _
  | succ t ih =>
    unfold zcn
    split <;> omega
theorem zcn_mono {K K' : Nat → Nat → Nat} {U0 f : Nat} (h : ∀ y, U0 < K y f → U0 < K' y f) : ∀ t, zcn K U0 f t ≤ zcn K' U0 f t := by
  intro t
  induction t with
  | zero => exact Nat.le_refl _
  | succ t ih =>
    unfold zcn
    have := h t
    split <;> split <;> omega
theorem zcn_lt {K K' : Nat → Nat → Nat} {U0 f x : Nat} (h : ∀ y, U0 < K y f → U0 < K' y f) (h1 : ¬ U0 < K x f) (h2 : U0 < K' x f) : ∀ t, x < t → zcn K U0 f t + 1 ≤ zcn K' U0 f t := by
  intro t
  induction t with
  | zero => intro hx; omega
  | succ t ih =>
    intro hx
    unfold zcn
    by_cases hxt : x = t
    · subst hxt
      have := zcn_mono h x
      rw [if_neg h1, if_pos h2]
      omega
    · have h3 := ih (by omega)
      have := h t
      split <;> split <;> omega
section ASK
variable {N f U0 x : Nat} {C : zSt} {V : Nat → Nat → Int32}
/-- the oldest picture is none of those that were used since -/
theorem zold (h : zI5 N f U0 C) (hN : N ≤ 12) (hx : x < N) (hk : C.2.1 x f = 0) (hr : C.1 3 ≤ C.1 2) : C.2.1 (zmk C.2.1).1 (zmk C.2.1).2 ≠ 0 ∧ C.2.1 (zmk C.2.1).1 (zmk C.2.1).2 ≤ U0 := by
  obtain ⟨⟨hU, hU0⟩, hkey, hfr, hE, hS, hR, hR2⟩ := h
  obtain ⟨X, Y, ff, v, e, W, E, hP⟩ := hE
  have hst : ∃ j, j < C.1 2 ∧ C.2.1 (X j) (Y j) ≤ U0 := by
    by_cases hq : ∃ j, j < C.1 2 ∧ C.2.1 (X j) (Y j) ≤ U0
    · exact hq
    · exfalso
      have hall : ∀ j, j < C.1 2 → U0 < C.2.1 (X j) (Y j) := fun j hj => Nat.lt_of_not_le (fun q => hq ⟨j, hj, q⟩)
      have hY : ∀ j, j < C.1 2 → Y j = f := fun j hj => hfr _ _ (hall j hj)
      have hX : ∀ j, j < C.1 2 → X j ≠ x := fun j hj q => by
        have := hall j hj
        rw [q, hY j hj, hk] at this
        omega
      have hX12 : ∀ j, j < C.1 2 → X j < 12 := fun j hj => (hP.1 j hj).1
      refine zpig2 (N := 11) (f := fun s => if X s = 11 then x else X s) (fun s hs => ?_) (fun s t hs ht q => ?_)
      · have h1 := hX12 s (by omega)
        have h2 := hX s (by omega)
        show (if X s = 11 then x else X s) < 11
        split <;> omega
      · have h1 := hX s (by omega)
        have h2 := hX t (by omega)
        have h3 : X s = X t := by
          have q' : (if X s = 11 then x else X s) = (if X t = 11 then x else X t) := q
          split at q' <;> split at q' <;> omega
        exact hP.2.1 s t (by omega) (by omega) h3 (by rw [hY s (by omega), hY t (by omega)])
  obtain ⟨j, hj, hle⟩ := hst
  obtain ⟨a, b, e1, e2, e3⟩ := zmin_ex _ (X j) (Y j) rfl (hP.1 j hj).2.2.2.2.1
  rw [zmk_is hU e1 e3]
  exact ⟨e1, by show C.2.1 a b ≤ U0; omega⟩
theorem zroK_ne {c : Nat → Nat} {K : Nat → Nat → Nat} {a b : Nat} (h : zroK c K a b ≠ 0) : zroK c K a b = K a b := by
  unfold zroK at h ⊢
  split
  · rename_i q
    rw [if_pos q] at h
    exact zdrK_ne h
  · rfl
theorem zroC_1 (c : Nat → Nat) : zroC c 1 = c 1 ∧ zroC c 3 = c 3 ∧ zroC c 8 = c 8 ∧ zroC c 2 = (if c 3 ≤ c 2 then c 2 - 1 else c 2) := by
  unfold zroC
  split <;> simp [zdrC, va_up]
theorem zadm_c (u : Nat → Int32) : (zadm C x f u).1 1 = C.1 1 + 1 ∧ (zadm C x f u).1 3 = C.1 3 ∧ (zadm C x f u).1 8 = C.1 8 + 1 ∧ (zadm C x f u).1 2 = (if C.1 3 ≤ C.1 2 then C.1 2 - 1 else C.1 2) + 1 := by
  obtain ⟨a, b, c, d⟩ := zroC_1 C.1
  unfold zadm zadC
  simp [va_up, a, b, d]
theorem zadm_ok {u : Nat → Int32} (h : zI5 N f U0 C) (hN : N ≤ 12) (hx : x < N) (hf : f < 100) (hk : C.2.1 x f = 0) (hu : zwb u) : zI5 N f U0 (zadm C x f u) ∧ (∀ y, U0 < C.2.1 y f → U0 < (zadm C x f u).2.1 y f ∧ (zadm C x f u).2.2 y f = C.2.2 y f) ∧ (∀ y, U0 < C.2.1 y f → zroK C.1 C.2.1 y f ≠ 0) ∧ U0 < (zadm C x f u).2.1 x f ∧ ∀ y g, C.2.1 y g = 0 → (zadm C x f u).2.1 y g ≠ 0 → y = x ∧ g = f := by
  have ho := fun hr => zold h hN hx hk hr
  obtain ⟨⟨hU, hU0⟩, hkey, hfr, hE, hS, hR, hR2⟩ := h
  obtain ⟨c1, c3, c8, c2⟩ := zadm_c (C := C) (x := x) (f := f) u
  have hK0 : zroK C.1 C.2.1 x f = 0 := by
    by_cases hz : zroK C.1 C.2.1 x f = 0
    · exact hz
    · rw [zroK_ne hz]; exact hk
  have hKU : zU (zroK C.1 C.2.1) (C.1 1) := by
    unfold zroK
    split
    · exact zU_rm hU
    · exact hU
  have hKE : zE (if C.1 3 ≤ C.1 2 then C.1 2 - 1 else C.1 2) (zroK C.1 C.2.1) := by
    unfold zroK
    by_cases hr : C.1 3 ≤ C.1 2
    · rw [if_pos hr, if_pos hr]
      exact (zE_rm hE (ho hr).1).2
    · rw [if_neg hr, if_neg hr]
      exact hE
  have hper : ∀ y, U0 < C.2.1 y f → zroK C.1 C.2.1 y f = C.2.1 y f := fun y hy => by
    unfold zroK
    split
    · rename_i hr
      unfold zdrK ax_u2
      rw [if_neg]
      rintro ⟨q1, q2⟩
      have := (ho hr).2
      rw [← q1, ← q2] at this
      omega
    · rfl
  have hne : ∀ y, U0 < C.2.1 y f → y ≠ x := fun y hy q => by
    rw [q, hk] at hy
    omega
  have hK' : ∀ y g, ¬ (y = x ∧ g = f) → (zadm C x f u).2.1 y g = zroK C.1 C.2.1 y g := fun y g q => if_neg q
  have hKx : (zadm C x f u).2.1 x f = C.1 1 + 1 := ax_u2_self
  refine ⟨⟨⟨?_, by omega⟩, fun y g hyg => ?_, fun y g hyg => ?_, ?_, ?_, by omega, by omega⟩, fun y hy => ⟨?_, ?_⟩, fun y hy => ?_, by omega, fun y g hyg hn => ?_⟩
  · rw [c1]
    exact zU_add hKU
  · by_cases q : y = x ∧ g = f
    · rw [q.1, q.2]
      refine ⟨hx, hf, ?_⟩
      show zwb (ax_u2 C.2.2 x f u x f)
      rw [ax_u2_self]
      exact hu
    · rw [hK' y g q] at hyg
      have e := zroK_ne hyg
      rw [e] at hyg
      obtain ⟨a, b, cc⟩ := hkey y g hyg
      refine ⟨a, b, ?_⟩
      show zwb (ax_u2 C.2.2 x f u y g)
      rw [show ax_u2 C.2.2 x f u y g = C.2.2 y g from if_neg q]
      exact cc
  · by_cases q : y = x ∧ g = f
    · exact q.2
    · rw [hK' y g q] at hyg
      have hn : zroK C.1 C.2.1 y g ≠ 0 := by omega
      rw [zroK_ne hn] at hyg
      exact hfr y g hyg
  · rw [c2]
    exact zE_add hKE hK0 (by omega) hf (by omega)
  · rw [c2, c3]
    split <;> omega
  · rw [hK' y f (fun q => hne y hy q.1), hper y hy]
    exact hy
  · exact if_neg (fun q => hne y hy q.1)
  · rw [hper y hy]
    omega
  · by_cases q : y = x ∧ g = f
    · exact q
    · rw [hK' y g q] at hn
      rw [zroK_ne hn] at hn
      exact absurd hyg hn
theorem zhit_ok (h : zI5 N f U0 C) (hk : C.2.1 x f ≠ 0) : zI5 N f U0 (zhit C x f) ∧ (∀ y, U0 < C.2.1 y f → U0 < (zhit C x f).2.1 y f) ∧ U0 < (zhit C x f).2.1 x f ∧ ∀ y g, C.2.1 y g = 0 → (zhit C x f).2.1 y g ≠ 0 → False := by
  obtain ⟨⟨hU, hU0⟩, hkey, hfr, hE, hS, hR, hR2⟩ := h
  have c1 : (zhit C x f).1 1 = C.1 1 + 1 := by simp [zhit, zhtC, va_up]
  have c2 : (zhit C x f).1 2 = C.1 2 := by simp [zhit, zhtC, va_up]
  have c3 : (zhit C x f).1 3 = C.1 3 := by simp [zhit, zhtC, va_up]
  have hK' : ∀ y g, ¬ (y = x ∧ g = f) → (zhit C x f).2.1 y g = C.2.1 y g := fun y g q => if_neg q
  have hKx : (zhit C x f).2.1 x f = C.1 1 + 1 := ax_u2_self
  refine ⟨⟨⟨by rw [c1]; exact zU_add hU, by omega⟩, fun y g hyg => ?_, fun y g hyg => ?_, ?_, by omega, by omega, by omega⟩, fun y hy => ?_, by omega, fun y g hyg hn => ?_⟩
  · by_cases q : y = x ∧ g = f
    · obtain ⟨rfl, rfl⟩ := q
      exact hkey _ _ hk
    · rw [hK' y g q] at hyg
      exact hkey y g hyg
  · by_cases q : y = x ∧ g = f
    · exact q.2
    · rw [hK' y g q] at hyg
      exact hfr y g hyg
  · rw [c2]
    exact zE_touch hE hk (by omega)
  · by_cases q : y = x
    · rw [q]; omega
    · rw [hK' y f (fun z => q z.1)]
      exact hy
  · by_cases q : y = x ∧ g = f
    · obtain ⟨rfl, rfl⟩ := q
      exact hk hyg
    · rw [hK' y g q] at hn
      exact hn hyg
/-- from C to C': b steps of its own -/
def zQ (N f U0 : Nat) (rk : Nat → Nat) (r b : Nat) (C C' : zSt) : Prop := zI5 N f U0 C' ∧ (∀ y, U0 < C.2.1 y f → U0 < C'.2.1 y f ∧ C'.2.2 y f = C.2.2 y f) ∧ (∀ y g, C.2.1 y g = 0 → C'.2.1 y g ≠ 0 → g = f ∧ rk y < r) ∧ C'.1 3 = C.1 3 ∧ C'.1 8 + 4 * zcn C.2.1 U0 f 12 ≤ C.1 8 + b + 4 * zcn C'.2.1 U0 f 12 ∧ C.1 8 + b ≤ C'.1 8 ∧ C'.1 1 + C.1 8 ≤ C.1 1 + C'.1 8
theorem zQ_rf {rk : Nat → Nat} {r : Nat} (h : zI5 N f U0 C) : zQ N f U0 rk r 0 C C := ⟨h, fun y hy => ⟨hy, rfl⟩, fun y g a b => absurd a b, rfl, by omega, by omega, by omega⟩
theorem zQ_tr {rk : Nat → Nat} {r b b' : Nat} {C' C'' : zSt} (h : zQ N f U0 rk r b C C') (h' : zQ N f U0 rk r b' C' C'') : zQ N f U0 rk r (b + b') C C'' := by
  obtain ⟨a1, a2, a3, a4, a5, a6, a7⟩ := h
  obtain ⟨b1, b2, b3, b4, b5, b6, b7⟩ := h'
  refine ⟨b1, fun y hy => ?_, fun y g h1 h2 => ?_, by omega, by omega, by omega, by omega⟩
  · obtain ⟨e1, e2⟩ := a2 y hy
    obtain ⟨e3, e4⟩ := b2 y e1
    exact ⟨e3, by rw [e4, e2]⟩
  · by_cases hq : C'.2.1 y g = 0
    · exact b3 y g hq h2
    · exact a3 y g h1 hq
/-- behind the asking for x -/
def zR5 (N f U0 : Nat) (rk : Nat → Nat) (x : Nat) (C C' : zSt) : Prop := zI5 N f U0 C' ∧ (∀ y, U0 < C.2.1 y f → U0 < C'.2.1 y f ∧ C'.2.2 y f = C.2.2 y f) ∧ U0 < C'.2.1 x f ∧ (∀ y g, C.2.1 y g = 0 → C'.2.1 y g ≠ 0 → g = f ∧ rk y ≤ rk x) ∧ C'.1 3 = C.1 3 ∧ C'.1 8 + 4 * zcn C.2.1 U0 f 12 ≤ C.1 8 + 4 * zcn C'.2.1 U0 f 12 ∧ C.1 8 ≤ C'.1 8 ∧ C'.1 1 + C.1 8 ≤ C.1 1 + 1 + C'.1 8
def zrkOK (N : Nat) (V : Nat → Nat → Int32) (rk : Nat → Nat) : Prop := (∀ i, i < N → rk i < N) ∧ ∀ i j k, i < N → j < N → k < 3 → zI V i k = nI j → rk j < rk i
theorem zinp_ok {rk : Nat → Nat} {rec : Nat → zSt → zSt} {i : Nat} (hOK : zOK N V) (hrk : zrkOK N V rk) (hx : x < N) (hi : i < 3) (hrec : ∀ y C, y < N → rk y < rk x → zI5 N f U0 C → zR5 N f U0 rk y C (rec y C)) (h : zI5 N f U0 C) : zQ N f U0 rk (rk x) 1 C (zinp V rec x i C) ∧ ∀ y, y < N → V x (3 + i) = nI y → U0 < (zinp V rec x i C).2.1 y f := by
  obtain ⟨e1, e2, e3, e8⟩ := zT1_c C
  have h8 : zI5 N f U0 (zT1 C) := by
    obtain ⟨⟨hU, hU0⟩, hkey, hfr, hE, hS, hR, hR2⟩ := h
    exact ⟨⟨by rw [e1]; exact hU, by rw [e1]; exact hU0⟩, hkey, hfr, by rw [e2]; exact hE, by rw [e2, e3]; exact hS, by rw [e3]; exact hR, by rw [e3]; exact hR2⟩
  have hN := hOK.1
  unfold zinp
  rcases (hOK.2.1 x hx).2.2 i hi with hn | ⟨j, hj, he⟩
  · have hn' : V x (3 + i) = -1005 := hn
    rw [if_pos hn']
    refine ⟨⟨h8, fun y hy => ⟨hy, rfl⟩, fun y g a b => absurd a b, e3, ?_, by omega, by omega⟩, fun y hy e => ?_⟩
    · show (zT1 C).1 8 + 4 * zcn C.2.1 U0 f 12 ≤ C.1 8 + 1 + 4 * zcn C.2.1 U0 f 12
      omega
    · rw [hn'] at e
      exact absurd e.symm (nI_ne_none (by omega))
  · have he' : V x (3 + i) = nI j := he
    rw [he', if_neg (nI_ne_none (by omega)), nI_clamp (by omega)]
    have hrj := hrk.2 x j i hx hj hi he
    obtain ⟨r1, r2, r3, r4, r5, r6, r7, r8⟩ := hrec j _ hj hrj h8
    have r6' : (rec j (zT1 C)).1 8 + 4 * zcn C.2.1 U0 f 12 ≤ (zT1 C).1 8 + 4 * zcn (rec j (zT1 C)).2.1 U0 f 12 := r6
    refine ⟨⟨r1, r2, fun y g a b => ?_, by omega, by omega, by omega, by omega⟩, fun y hy e => ?_⟩
    · obtain ⟨q1, q2⟩ := r4 y g a b
      exact ⟨q1, by omega⟩
    · have : y = j := nI_inj (by omega) (by omega) e.symm
      rw [this]
      exact r3
/-- the inputs are asked for -/
theorem zin3_ok {rk : Nat → Nat} {rec : Nat → zSt → zSt} (hOK : zOK N V) (hrk : zrkOK N V rk) (hx : x < N) (hrec : ∀ y C, y < N → rk y < rk x → zI5 N f U0 C → zR5 N f U0 rk y C (rec y C)) (h : zI5 N f U0 C) : ∀ t, t ≤ 3 → ∃ b, b ≤ t ∧ zQ N f U0 rk (rk x) b C (zin3 V f rec x C t) ∧ ∀ i, i < t → i < zmany V x f → ∀ y, y < N → V x (3 + i) = nI y → U0 < (zin3 V f rec x C t).2.1 y f := by
  intro t
  induction t with
  | zero => intro _; exact ⟨0, Nat.le_refl _, zQ_rf h, fun i hi => by omega⟩
  | succ t ih =>
    intro ht
    obtain ⟨b, hb, q1, q2⟩ := ih (by omega)
    unfold zin3
    by_cases hm : t < zmany V x f
    · rw [if_pos hm]
      obtain ⟨p1, p2⟩ := zinp_ok (i := t) hOK hrk hx (by omega) hrec q1.1
      refine ⟨b + 1, by omega, zQ_tr q1 p1, fun i hi him y hy e => ?_⟩
      by_cases hit : i = t
      · subst hit
        exact p2 y hy e
      · exact (p1.2.1 y (q2 i (by omega) him y hy e)).1
    · rw [if_neg hm]
      exact ⟨b, by omega, q1, fun i hi him y hy e => q2 i (by omega) him y hy e⟩
theorem zmany_le (hOK : zOK N V) (hx : x < N) : zmany V x f ≤ 3 := by
  obtain ⟨k, hk, e⟩ := z_kind hOK hx
  have := (zin_lt k hk).1
  unfold zmany
  rw [e, nI_clamp (by omega)]
  by_cases h : zir V x (nI f)
  · rw [if_pos h]; exact this
  · rw [if_neg h]; omega
/-- an input that isn't asked for, in its range or the first: there is none -/
theorem zmany_no (hOK : zOK N V) (hx : x < N) {i : Nat} (hi : i < 3) (hm : ¬ i < zmany V x f) (hr : i = 0 ∨ zir V x (nI f)) : V x (3 + i) = -1005 := by
  obtain ⟨k, hk, e, h3, -⟩ := (hOK.2.1 x hx).1
  apply h3 i hi
  unfold zmany at hm
  rw [e, nI_clamp (by omega)] at hm
  by_cases h : zir V x (nI f)
  · rw [if_pos h] at hm
    omega
  · rw [if_neg h] at hm
    rcases hr with rfl | hr
    · omega
    · exact absurd hr h
theorem zw_b (hOK : zOK N V) (hx : x < N) {C3 : zSt} (h3 : zI5 N f U0 C3) (hin : ∀ i, i < 3 → i < zmany V x f → ∀ y, y < N → V x (3 + i) = nI y → U0 < C3.2.1 y f) {i : Nat} (hi : i < 3) (hr : i = 0 ∨ zir V x (nI f)) : zwb (zw V C3 x f i) := by
  have hN := hOK.1
  unfold zw
  rcases (hOK.2.1 x hx).2.2 i hi with hn | ⟨j, hj, he⟩
  · rw [if_pos (show V x (3 + i) = -1005 from hn)]
    exact fun k _ => ⟨0, by omega, rfl⟩
  · have he' : V x (3 + i) = nI j := he
    rw [he', if_neg (nI_ne_none (by omega)), nI_clamp (by omega)]
    by_cases hm : i < zmany V x f
    · exact (h3.2.1 j f (by have := hin i hi hm j hj he'; omega)).2.2
    · have := zmany_no hOK hx hi hm hr
      rw [he'] at this
      exact absurd this (nI_ne_none (by omega))
theorem zask_ok {rk : Nat → Nat} (hOK : zOK N V) (hrk : zrkOK N V rk) (hf : f < 100) : ∀ d x C, x < N → rk x < d → zI5 N f U0 C → zR5 N f U0 rk x C (zask V f d x C) := by
  intro d
  induction d with
  | zero => intro x C _ h; omega
  | succ d ih =>
    intro x C hx hr h
    have hN := hOK.1
    unfold zask
    by_cases hk : C.2.1 x f ≠ 0
    · rw [if_pos hk]
      obtain ⟨a1, a2, a3, a4⟩ := zhit_ok h hk
      have c1 : (zhit C x f).1 1 = C.1 1 + 1 := by simp [zhit, zhtC, va_up]
      have c3 : (zhit C x f).1 3 = C.1 3 := by simp [zhit, zhtC, va_up]
      have c8 : (zhit C x f).1 8 = C.1 8 := by simp [zhit, zhtC, va_up]
      have := zcn_mono a2 12
      exact ⟨a1, fun y hy => ⟨a2 y hy, rfl⟩, a3, fun y g q1 q2 => absurd q2 (fun q => a4 y g q1 q), c3, by omega, by omega, by omega⟩
    · rw [if_neg hk]
      have hk0 : C.2.1 x f = 0 := by omega
      have hrec : ∀ y C, y < N → rk y < rk x → zI5 N f U0 C → zR5 N f U0 rk y C (zask V f d y C) := fun y C hy hyx hC => ih y C hy (by omega) hC
      obtain ⟨b, hb, q1, q2⟩ := zin3_ok hOK hrk hx hrec h 3 (Nat.le_refl _)
      generalize hC3 : zin3 V f (zask V f d) x C 3 = C3 at q1 q2
      obtain ⟨i1, i2, i3, i4, i5, i6, i7⟩ := q1
      have hk3 : C3.2.1 x f = 0 := by
        by_cases hz : C3.2.1 x f = 0
        · exact hz
        · have := (i3 x f hk0 hz).2
          omega
      have hub : zwb (zpc V x (nI f) (zw V C3 x f)) := zpc_b (zOK_par hOK hx) hf (zw_b hOK hx i1 q2 (by omega) (Or.inl rfl)) (fun hir => ⟨zw_b hOK hx i1 q2 (by omega) (Or.inr hir), zw_b hOK hx i1 q2 (by omega) (Or.inr hir)⟩)
      obtain ⟨a1, a2, -, a3, a4⟩ := zadm_ok i1 hN hx hf hk3 hub
      obtain ⟨c1, c3, c8, c2⟩ := zadm_c (C := C3) (x := x) (f := f) (zpc V x (nI f) (zw V C3 x f))
      have hcn := zcn_lt (K := C3.2.1) (K' := (zadm C3 x f (zpc V x (nI f) (zw V C3 x f))).2.1) (U0 := U0) (f := f) (x := x) (fun y hy => (a2 y hy).1) (by omega) a3 12 (by omega)
      refine ⟨a1, fun y hy => ?_, a3, fun y g h1 h2 => ?_, by omega, by omega, by omega, by omega⟩
      · obtain ⟨e1, e2⟩ := i2 y hy
        obtain ⟨e3, e4⟩ := a2 y e1
        exact ⟨e3, by rw [e4, e2]⟩
      · by_cases hq : C3.2.1 y g = 0
        · obtain ⟨rfl, rfl⟩ := a4 y g hq h2
          exact ⟨rfl, Nat.le_refl _⟩
        · obtain ⟨z1, z2⟩ := i3 y g h1 hq
          exact ⟨z1, by omega⟩
end ASK
