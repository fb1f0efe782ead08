/-! ===== the store's own operations, and the heap's rules ===== -/
def ax_u2 {α : Type} (f : Nat → Nat → α) (a k : Nat) (x : α) : Nat → Nat → α := fun b j => if b = a ∧ j = k then x else f b j
theorem ax_u2_ne {α : Type} {f : Nat → Nat → α} {a k b : Nat} {x : α} (h : b ≠ a) (j : Nat) : ax_u2 f a k x b j = f b j := if_neg (fun q => h q.1)
theorem ax_u2_nk {α : Type} {f : Nat → Nat → α} {a k b j : Nat} {x : α} (h : j ≠ k) : ax_u2 f a k x b j = f b j := if_neg (fun q => h q.2)
theorem ax_u2_self {α : Type} {f : Nat → Nat → α} {a k : Nat} {x : α} : ax_u2 f a k x a k = x := if_pos ⟨rfl, rfl⟩
/-- the address of an object or array of a kind, and its length -/
def ax_sh (σ : ax_S) (t : Nat) (r : Option Nat) : Option (Nat × Nat) := match r with
  | none => none
  | some a => match σ.1[a]? with
    | none => none
    | some q => if q.1 = t then some (a, q.2) else none
theorem ax_sh_of {σ : ax_S} {t : Nat} {r : Option Nat} {a n : Nat} (h : ax_sh σ t r = some (a, n)) : r = some a ∧ σ.1[a]? = some (t, n) := by
  unfold ax_sh at h
  cases r with
  | none => simp at h
  | some b =>
    simp only at h
    split at h
    · cases h
    · rename_i q hq
      split at h
      · rename_i hqt
        cases h
        refine ⟨rfl, ?_⟩
        rw [hq, ← hqt]
      · cases h
/-- is it an object of this kind? -/
def ax_ck (σ : ax_S) (t : Nat) (r : Option Nat) : Option Unit := (ax_sh σ t r).map (fun _ => ())
def ax_gi (σ : ax_S) (t k : Nat) (r : Option Nat) : Option Int32 := (ax_sh σ t r).map (fun q => σ.2.1 q.1 k)
def ax_gr (σ : ax_S) (t k : Nat) (r : Option Nat) : Option (Option Nat) := (ax_sh σ t r).map (fun q => σ.2.2 q.1 k)
def ax_pi (σ : ax_S) (t k : Nat) (r : Option Nat) (x : Int32) : Option ax_S := (ax_sh σ t r).map (fun q => (σ.1, ax_u2 σ.2.1 q.1 k x, σ.2.2))
def ax_pr (σ : ax_S) (t k : Nat) (r v : Option Nat) : Option ax_S := (ax_sh σ t r).map (fun q => (σ.1, σ.2.1, ax_u2 σ.2.2 q.1 k v))
def ax_01 (x : Int32) : Option Int32 := if x = 0 ∨ x = 1 then some x else none
def ax_ne (x : Int32) : Option Unit := if x = 0 then none else some ()
/-- an array's place -/
def ax_ix (σ : ax_S) (t : Nat) (r : Option Nat) (i : Int32) : Option (Nat × Nat) := (ax_sh σ t r).bind (fun q => if i < 0 ∨ q.2 ≤ i.toNatClampNeg then none else some (q.1, i.toNatClampNeg))
def ax_al (σ : ax_S) (t : Nat) (r : Option Nat) (i : Int32) : Option Int32 := (ax_ix σ t r i).map (fun q => σ.2.1 q.1 q.2)
def ax_ar (σ : ax_S) (t : Nat) (r : Option Nat) (i : Int32) : Option (Option Nat) := (ax_ix σ t r i).map (fun q => σ.2.2 q.1 q.2)
def ax_as (σ : ax_S) (t : Nat) (r : Option Nat) (i x : Int32) : Option ax_S := (ax_ix σ t r i).bind (fun q => if q.1 < 9 then none else some (σ.1, ax_u2 σ.2.1 q.1 q.2 x, σ.2.2))
def ax_aw (σ : ax_S) (t : Nat) (r : Option Nat) (i : Int32) (v : Option Nat) : Option ax_S := (ax_ix σ t r i).bind (fun q => if q.1 < 9 then none else (ax_sh σ (t - 10) v).bind (fun _ => some (σ.1, σ.2.1, ax_u2 σ.2.2 q.1 q.2 v)))
def ax_ln (σ : ax_S) (t : Nat) (r : Option Nat) : Option Int32 := (ax_sh σ t r).map (fun q => Int32.ofNat q.2)
/-- a new cell -/
def ax_nw (σ : ax_S) (t n : Nat) : ax_S := (σ.1 ++ [(t, n)], (fun a k => if a = σ.1.length then 0 else σ.2.1 a k), (fun a k => if a = σ.1.length then none else σ.2.2 a k))
/-- System.arraycopy between two int arrays that differ -/
def ax_cy (σ : ax_S) (r : Option Nat) (sp : Int32) (w : Option Nat) (dp n : Int32) : Option ax_S :=
  (ax_sh σ 9 r).bind (fun q => (ax_sh σ 9 w).bind (fun u =>
    if u.1 < 9 ∨ q.1 < 9 ∨ q.1 = u.1 ∨ sp < 0 ∨ dp < 0 ∨ n < 0 ∨ q.2 < sp.toNatClampNeg + n.toNatClampNeg ∨ u.2 < dp.toNatClampNeg + n.toNatClampNeg then none
    else some (σ.1, (fun a k => if a = u.1 then va_cpy (σ.2.1 q.1) (σ.2.1 u.1) sp.toNatClampNeg dp.toNatClampNeg n.toNatClampNeg k else σ.2.1 a k), σ.2.2)))
theorem ax_ρ_ne {X : ax_X} (hok : ax_ok X) {a b : Nat} (ha : 9 ≤ a) (h : b ≠ a) : ax_ρ X b ≠ ax_ρ X a := by
  rw [hok.1 a ha]
  by_cases hb : 9 ≤ b
  · rw [hok.1 b hb]
    omega
  · have := hok.2 b (by omega)
    omega
theorem ax_ρ_A {X : ax_X} (hok : ax_ok X) {a : Nat} (ha : 9 ≤ a) : ax_A X (ax_ρ X a) := by
  show ax_b X ≤ _
  rw [hok.1 a ha]
  omega
theorem ax_at.kept {X : ax_X} {σ σ' : ax_S} {H H' : Heap} {b t n : Nat} (h : ax_at X σ H b t n) (hH : H'[ax_ρ X b]? = H[ax_ρ X b]?) (hi : ∀ k, σ'.2.1 b k = σ.2.1 b k) (hr : ∀ k, σ'.2.2 b k = σ.2.2 b k) : ax_at X σ' H' b t n := by
  have hsv : ∀ k, ax_sv σ' t b k = ax_sv σ t b k := fun k => by simp only [ax_sv, hi, hr]
  unfold ax_at at h ⊢
  split
  · rename_i h7
    rw [if_pos h7] at h
    obtain ⟨e, h1, h2, h3, h4⟩ := h
    exact ⟨e, hH.trans h1, h2, h3, fun j hj => by rw [hsv]; exact h4 j hj⟩
  · rename_i h7
    rw [if_neg h7] at h
    split
    · rename_i h8
      rwa [if_pos h8] at h
    · rename_i h8
      rw [if_neg h8] at h
      split
      · rename_i ht
        rw [if_pos ht] at h
        obtain ⟨r, h1, h2, h3⟩ := h
        exact ⟨r, h1, h2, (h3.kept hH).to (fun k _ => by rw [hsv])⟩
      · rename_i ht
        rw [if_neg ht] at h
        refine ⟨h.1, hH.trans (h.2.trans ?_)⟩
        congr 2
        funext j
        rw [hsv]
theorem ax_H.upd {X : ax_X} {σ σ' : ax_S} {H H' : Heap} {a : Nat} (hok : ax_ok X) (h : ax_H X σ H) (ha : 9 ≤ a) (hsh : σ'.1 = σ.1) (hz : H'.size = H.size) (ho : ∀ q : Nat, q ≠ ax_ρ X a → H'[q]? = H[q]?)
    (hi : ∀ b, b ≠ a → ∀ k, σ'.2.1 b k = σ.2.1 b k) (hr : ∀ b, b ≠ a → ∀ k, σ'.2.2 b k = σ.2.2 b k) (hat : ∀ t n, σ.1[a]? = some (t, n) → ax_at X σ' H' a t n) : ax_H X σ' H' := by
  refine ⟨by rw [hsh]; exact h.1, by rw [hz, hsh]; exact h.2.1, fun b t n hb => ?_⟩
  rw [hsh] at hb
  by_cases hba : b = a
  · subst hba
    exact hat t n hb
  · exact (h.2.2 b t n hb).kept (ho _ (ax_ρ_ne hok ha hba)) (hi b hba) (hr b hba)
/-- an object's cell -/
theorem ax_at_obj {X : ax_X} {σ : ax_S} {H : Heap} {a t n : Nat} (h : ax_at X σ H a t n) (ht : t < 8) : 9 ≤ a ∧ ∃ r : vw_C, vwCl[t]? = some r ∧ n = r.2.2 ∧ t_OB (ax_ρ X a) (X.1.1 t) r.2.2 (X.1.2 t) H (fun k => ax_cv (ax_ρ X) (ax_sv σ t a k)) := by
  unfold ax_at at h
  split at h
  · obtain ⟨e, -⟩ := h
    split at e <;> omega
  · split at h
    · omega
    · refine ⟨by omega, ?_⟩
      first | exact h | rwa [if_pos ht] at h
/-- an array's cell -/
theorem ax_at_arr {X : ax_X} {s : State} {σ : ax_S} {H : Heap} {a t n : Nat} (hK : ax_K X s) (h : ax_at X σ H a t n) (h8 : 8 ≤ t) (h14 : t < 14) : ∃ cell : Cell, H[ax_ρ X a]? = some cell ∧ s.isArrayOf cell (ax_ty t 0) ∧ cell.vm ≠ .unknown ∧ (n ≤ cell.slots.size ∧ cell.slots.size.toInt32 = Int32.ofNat n) ∧ (∀ j : Nat, j < n → cell.slots[j]? = some (ax_cv (ax_ρ X) (ax_sv σ t a j))) ∧ (9 ≤ a → cell = arrV (X.2.1 t) n (fun j => ax_cv (ax_ρ X) (ax_sv σ t a j))) := by
  unfold ax_at at h
  split at h
  · rename_i h7
    obtain ⟨e, h1, h2, h3, h4⟩ := h
    have hof := hK.2.2.1 a h7
    have e2 : ax_ty t 0 = if a = 7 then .byte else .int := by
      rw [e]
      split <;> rfl
    exact ⟨_, h1, by rw [e2]; exact hof, h3, h2, h4, fun q => by omega⟩
  · split at h
    · omega
    · rw [if_neg (by omega)] at h
      exact ⟨_, h.2, (hK.2.1 t h8 h14).1 n _, (fun q => by cases q), ⟨by rw [arrV_size]; exact Nat.le_refl _, by rw [arrV_size] <;> rfl⟩, fun j hj => arrV_read _ _ hj, fun _ => rfl⟩
theorem ax_isI_0 {t : Nat} (h8 : 8 ≤ t) (k : Nat) : ax_isI t k = ax_isI t 0 := by
  have : ax_ty t k = ax_ty t 0 := by
    unfold ax_ty
    split <;> first | omega | rfl
  unfold ax_isI
  rw [this]
theorem ax_S_put {X : ax_X} {H0 H H1 : Heap} {locs : List Loc} {a k : Nat} (hok : ax_ok X) (h : va_S (ax_A X) H0 H locs) (ha : 9 ≤ a) (z : H1.size = H.size) (oq : ∀ q : Nat, q ≠ ax_ρ X a → H1[q]? = H[q]?) : va_S (ax_A X) H0 H1 (locs ++ [⟨ax_ρ X a, k⟩]) := h.put z oq (ax_ρ_A hok ha)
theorem ax_ix_of {σ : ax_S} {t : Nat} {r : Option Nat} {i : Int32} {q : Nat × Nat} (h : ax_ix σ t r i = some q) : ∃ n, r = some q.1 ∧ σ.1[q.1]? = some (t, n) ∧ ¬ (i < 0 ∨ n ≤ i.toNatClampNeg) ∧ q.2 = i.toNatClampNeg := by
  unfold ax_ix at h
  obtain ⟨⟨a, n⟩, h1, h2⟩ := Option.bind_eq_some_iff.mp h
  split at h2
  · cases h2
  · rename_i hc
    cases h2
    obtain ⟨e1, e2⟩ := ax_sh_of h1
    exact ⟨n, e1, e2, hc, rfl⟩
