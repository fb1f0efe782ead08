/-! ===== the store behind both constructors: shapes and references ===== -/
/-- a block of a Graph: its 41 cells -/
def zg_sh (k : Nat) : Nat × Nat := if k = 0 then (1, 5) else if k = 1 then (12, 12) else if k < 5 then (9, 12) else if (k - 5) % 3 = 0 then (2, 5) else if (k - 5) % 3 = 1 then (9, 3) else (9, 4)
def zs_sh (n a : Nat) : Nat × Nat :=
  if a < 3 then (9, 7) else if a < 6 then (9, 28) else if a = 6 then (9, n) else if a = 7 then (8, 8) else if a = 8 then (99, 0) else if a = 9 then (6, 6)
  else if a < 51 then zg_sh (a - 10)
  else if a = 51 then (0, 8) else if a = 52 then (13, 48) else if a < 149 then (if (a - 53) % 2 = 0 then (3, 4) else (9, 96))
  else if a = 149 then (4, 7) else if a = 150 then (5, 2) else if a = 151 then (8, 80) else if a = 152 then (9, 4) else if a = 153 then (12, 12)
  else if a < 190 then zg_sh (a - 149)
  else if a = 190 then (11, 2) else if a = 191 then (10, 2) else if a = 192 then (9, 96)
  else if a < 234 then zg_sh (a - 193)
  else if a < 275 then zg_sh (a - 234)
  else if a < 277 then (9, 36) else (9, 48)
def zS (n : Nat) : List (Nat × Nat) := (List.range 278).map (zs_sh n)
theorem zS_get {n a : Nat} (h : a < 278) : (zS n)[a]? = some (zs_sh n a) := by
  unfold zS
  rw [List.getElem?_map, List.getElem?_range h]
  rfl
/-- references of a block of a Graph at g -/
def zg_r (g k j : Nat) : Option Nat :=
  if k = 0 then (if j = 0 then some (g + 1) else if j = 2 then some (g + 2) else if j = 3 then some (g + 3) else if j = 4 then some (g + 4) else none)
  else if k = 1 then (if j < 12 then some (g + 5 + 3 * j) else none)
  else if k < 5 then none
  else if (k - 5) % 3 = 0 then (if j = 3 then some (g + k + 1) else if j = 4 then some (g + k + 2) else none) else none
/-- references; p: which picture stands at a place of the cache's row -/
def zR (p : Nat → Nat) : Nat → Nat → Option Nat := fun a j =>
  if a < 9 then none
  else if a = 9 then (if j = 0 then some 10 else if j = 1 then some 51 else if j = 2 then some 149 else if j = 3 then some 190 else if j = 4 then some 191 else if j = 5 then some 192 else none)
  else if a < 51 then zg_r 10 (a - 10) j
  else if a = 51 then (if j = 0 then some 52 else none)
  else if a = 52 then (if j < 48 then some (53 + 2 * p j) else none)
  else if a < 149 then (if (a - 53) % 2 = 0 ∧ j = 3 then some (a + 1) else none)
  else if a = 149 then (if j = 0 then some 150 else if j = 1 then some 152 else if j = 2 then some 153 else none)
  else if a = 150 then (if j = 0 then some 151 else none)
  else if a < 153 then none
  else if a < 190 then (if a = 153 then (if j < 12 then some (154 + 3 * j) else none) else zg_r 149 (a - 149) j)
  else if a = 190 then (if j = 0 then some 193 else if j = 1 then some 234 else none)
  else if a < 193 then none
  else if a < 234 then zg_r 193 (a - 193) j
  else if a < 275 then zg_r 234 (a - 234) j
  else none
/-- the store: script's length, ints, the order of the pictures -/
def zC (n : Nat) (m : Nat → Nat → Int32) (p : Nat → Nat) : ax_S := (zS n, m, zR p)
section ZC
variable {n a t k l i : Nat} {m : Nat → Nat → Int32} {p : Nat → Nat} {x : Int32}
theorem z_sh (h : a < 278) (hs : (zs_sh n a).1 = t) : ax_sh (zC n m p) t (some a) = some (a, (zs_sh n a).2) := by
  unfold ax_sh zC
  simp only [zS_get h, hs, if_true]
theorem z_gi (h : a < 278) (hs : (zs_sh n a).1 = t) : ax_gi (zC n m p) t k (some a) = some (m a k) := by
  unfold ax_gi
  rw [z_sh h hs]
  rfl
theorem z_gr (h : a < 278) (hs : (zs_sh n a).1 = t) : ax_gr (zC n m p) t k (some a) = some (zR p a k) := by
  unfold ax_gr
  rw [z_sh h hs]
  rfl
theorem z_pi (h : a < 278) (hs : (zs_sh n a).1 = t) : ax_pi (zC n m p) t k (some a) x = some (zC n (ax_u2 m a k x) p) := by
  unfold ax_pi
  rw [z_sh h hs]
  rfl
theorem z_ix (h : a < 278) (hs : (zs_sh n a).1 = t) (hi : i < (zs_sh n a).2) (hl : i < 2 ^ 31) : ax_ix (zC n m p) t (some a) (nI i) = some (a, i) := by
  unfold ax_ix
  rw [z_sh h hs]
  simp only [Option.bind_some, nI_clamp hl]
  rw [if_neg]
  intro hh
  rcases hh with hh | hh
  · exact nI_pos hl hh
  · omega
theorem z_al (h : a < 278) (hs : (zs_sh n a).1 = t) (hi : i < (zs_sh n a).2) (hl : i < 2 ^ 31) : ax_al (zC n m p) t (some a) (nI i) = some (m a i) := by
  unfold ax_al
  rw [z_ix h hs hi hl]
  rfl
theorem z_ar (h : a < 278) (hs : (zs_sh n a).1 = t) (hi : i < (zs_sh n a).2) (hl : i < 2 ^ 31) : ax_ar (zC n m p) t (some a) (nI i) = some (zR p a i) := by
  unfold ax_ar
  rw [z_ix h hs hi hl]
  rfl
theorem z_as (h : a < 278) (h9 : 9 ≤ a) (hs : (zs_sh n a).1 = t) (hi : i < (zs_sh n a).2) (hl : i < 2 ^ 31) : ax_as (zC n m p) t (some a) (nI i) x = some (zC n (ax_u2 m a i x) p) := by
  unfold ax_as
  rw [z_ix h hs hi hl]
  simp only [Option.bind_some]
  rw [if_neg (by omega)]
  rfl
theorem z_ln (h : a < 278) (hs : (zs_sh n a).1 = t) : ax_ln (zC n m p) t (some a) = some (nI (zs_sh n a).2) := by
  unfold ax_ln
  rw [z_sh h hs]
  rfl
theorem z_aw {j v : Nat} (hj : j < 48) (hv : v < 48) : ax_aw (zC n m p) 13 (some 52) (nI j) (some (53 + 2 * v)) = some (zC n m (va_up p j v)) := by
  unfold ax_aw
  rw [z_ix (t := 13) (a := 52) (by omega) rfl (by exact hj) (by omega)]
  simp only [Option.bind_some]
  rw [if_neg (by omega), z_sh (t := 13 - 10) (by omega) (by
    have h1 : ¬ 53 + 2 * v < 3 := by omega
    unfold zs_sh
    simp only [show ¬ 53 + 2 * v < 3 by omega, show ¬ 53 + 2 * v < 6 by omega, show ¬ 53 + 2 * v = 6 by omega, show ¬ 53 + 2 * v = 7 by omega, show ¬ 53 + 2 * v = 8 by omega, show ¬ 53 + 2 * v = 9 by omega, show ¬ 53 + 2 * v < 51 by omega, show ¬ 53 + 2 * v = 51 by omega, show ¬ 53 + 2 * v = 52 by omega, show 53 + 2 * v < 149 by omega, show (53 + 2 * v - 53) % 2 = 0 by omega, if_true, if_false])]
  simp only [Option.bind_some]
  have e : ax_u2 (zR p) 52 j (some (53 + 2 * v)) = zR (va_up p j v) := by
    funext a i
    unfold ax_u2
    by_cases ha : a = 52
    · subst ha
      by_cases hi : i = j
      · subst hi
        simp [zR, va_up, hj]
      · simp [zR, va_up, hi]
    · rw [if_neg (fun q => ha q.1)]
      simp only [zR, ha, if_false]
  show some (zS n, m, ax_u2 (zR p) 52 j (some (53 + 2 * v))) = _
  rw [e]
  rfl
/-- an object of the kind Node: its address -/
def zNB (b : Nat) : Prop := ∃ g i, (g = 10 ∨ g = 149 ∨ g = 193 ∨ g = 234) ∧ i < 12 ∧ b = g + 5 + 3 * i
theorem zNB_ok {b : Nat} (h : zNB b) : 9 ≤ b ∧ b + 2 < 278 ∧ zs_sh n b = (2, 5) ∧ zs_sh n (b + 1) = (9, 3) ∧ zs_sh n (b + 2) = (9, 4) ∧ zR p b 3 = some (b + 1) ∧ zR p b 4 = some (b + 2) := by
  obtain ⟨g, i, hg, hi, rfl⟩ := h
  have hc : i = 0 ∨ i = 1 ∨ i = 2 ∨ i = 3 ∨ i = 4 ∨ i = 5 ∨ i = 6 ∨ i = 7 ∨ i = 8 ∨ i = 9 ∨ i = 10 ∨ i = 11 := by omega
  refine ⟨by omega, by omega, ?_⟩
  rcases hg with rfl | rfl | rfl | rfl <;> rcases hc with rfl | rfl | rfl | rfl | rfl | rfl | rfl | rfl | rfl | rfl | rfl | rfl <;> exact ⟨rfl, rfl, rfl, rfl, rfl⟩
/-- an object of the kind Graph -/
def zGB (g : Nat) : Prop := g = 10 ∨ g = 193 ∨ g = 234
theorem zGB_ok {g : Nat} (h : zGB g) : 9 ≤ g ∧ g + 41 ≤ 278 ∧ zs_sh n g = (1, 5) ∧ zs_sh n (g + 1) = (12, 12) ∧ zs_sh n (g + 2) = (9, 12) ∧ zs_sh n (g + 3) = (9, 12) ∧ zs_sh n (g + 4) = (9, 12) ∧ zR p g 0 = some (g + 1) ∧ zR p g 2 = some (g + 2) ∧ zR p g 3 = some (g + 3) ∧ zR p g 4 = some (g + 4) := by
  rcases h with rfl | rfl | rfl <;> exact ⟨by omega, by omega, rfl, rfl, rfl, rfl, rfl, rfl, rfl, rfl, rfl⟩
theorem zGB_node {g i : Nat} (h : zGB g) (hi : i < 12) : zNB (g + 5 + 3 * i) ∧ zR p (g + 1) i = some (g + 5 + 3 * i) := by
  refine ⟨⟨g, i, by rcases h with h | h | h <;> simp [h], hi, rfl⟩, ?_⟩
  rcases h with rfl | rfl | rfl <;> simp [zR, zg_r, hi]
end ZC
