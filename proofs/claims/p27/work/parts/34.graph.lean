/-! ===== a graph: N nodes, V i w: kind, first, last, three inputs, four parameters ===== -/
def zGC (m : Nat → Nat → Int32) (g N : Nat) (V : Nat → Nat → Int32) : Prop := m g 1 = nI N ∧ (∀ i w, i < N → w < 3 → m (g + 5 + 3 * i) w = V i w) ∧ (∀ i k, i < N → k < 3 → m (g + 5 + 3 * i + 1) k = V i (3 + k)) ∧ ∀ i p, i < N → p < 4 → m (g + 5 + 3 * i + 2) p = V i (6 + p)
/-- the inputs of node i -/
def zI (V : Nat → Nat → Int32) (i : Nat) : Nat → Int32 := fun k => V i (3 + k)
def zOK (N : Nat) (V : Nat → Nat → Int32) : Prop := N ≤ 12 ∧ (∀ i, i < N → (∃ k, k < 7 ∧ V i 0 = nI k ∧ (∀ j, j < 3 → zin k ≤ j → V i (3 + j) = -1005) ∧ ∀ p, p < zpn k → zlo k p ≤ V i (6 + p) ∧ V i (6 + p) ≤ zhi k p) ∧ (∃ f l, f ≤ l ∧ l ≤ 99 ∧ V i 1 = nI f ∧ V i 2 = nI l) ∧ ∀ k, k < 3 → zI V i k = -1005 ∨ ∃ j, j < N ∧ zI V i k = nI j) ∧ ∃ rk : Nat → Nat, ∀ i j k, i < N → j < N → k < 3 → zI V i k = nI j → rk j < rk i
/-- is node i ready, P being placed, and not placed itself -/
def zrd (V : Nat → Nat → Int32) (P : Int32) (i : Nat) : Bool := if zis (zI V i) 3 &&& (P ^^^ (-1)) = 0 then (if (P >>> (nI i &&& 31)) &&& 1 = 1 then false else true) else false
theorem zrd_t {V : Nat → Nat → Int32} {P : Int32} {i : Nat} (h1 : zis (zI V i) 3 &&& (P ^^^ (-1)) = 0) (h2 : ¬ (P >>> (nI i &&& 31)) &&& 1 = 1) : zrd V P i = true := by
  unfold zrd
  rw [if_pos h1, if_neg h2]
theorem zrd_f1 {V : Nat → Nat → Int32} {P : Int32} {i : Nat} (h1 : ¬ zis (zI V i) 3 &&& (P ^^^ (-1)) = 0) : zrd V P i = false := by
  unfold zrd
  rw [if_neg h1]
theorem zrd_f2 {V : Nat → Nat → Int32} {P : Int32} {i : Nat} (h2 : (P >>> (nI i &&& 31)) &&& 1 = 1) : zrd V P i = false := by
  unfold zrd
  rw [if_pos h2]
  split <;> rfl
theorem zrd_iff {V : Nat → Nat → Int32} {P : Int32} {i : Nat} : zrd V P i = true ↔ zis (zI V i) 3 &&& (P ^^^ (-1)) = 0 ∧ ¬ zb P i := by
  unfold zrd zb
  split
  · split <;> simp_all
  · simp_all
/-- the first such from i on, among d more; 0 if there is none -/
def znf (V : Nat → Nat → Int32) (P : Int32) : Nat → Nat → Nat
  | 0, _ => 0
  | d + 1, i => if zrd V P i = true then i else znf V P d (i + 1)
def znx (N : Nat) (V : Nat → Nat → Int32) (P : Int32) : Nat := znf V P N 0
/-- what is placed after t steps -/
def zpl (N : Nat) (V : Nat → Nat → Int32) : Nat → Int32
  | 0 => 0
  | t + 1 => zpl N V t ||| z1 (znx N V (zpl N V t))
def zord (N : Nat) (V : Nat → Nat → Int32) (t : Nat) : Nat := znx N V (zpl N V t)
theorem zis_congr {v w : Nat → Int32} (h : ∀ k, k < 3 → v k = w k) : zis v 3 = zis w 3 := by
  simp only [zis, h 0 (by omega), h 1 (by omega), h 2 (by omega)]
theorem znf_lt {V : Nat → Nat → Int32} {P : Int32} {N : Nat} (h0 : 0 < N) : ∀ (d i : Nat), i + d = N → znf V P d i < N := by
  intro d
  induction d with
  | zero =>
    intro i hi
    unfold znf
    omega
  | succ d ih =>
    intro i hi
    unfold znf
    split
    · omega
    · exact ih (i + 1) (by omega)
theorem zord_lt {N t : Nat} {V : Nat → Nat → Int32} (h0 : 0 < N) : zord N V t < N := znf_lt h0 N 0 (by omega)
section GRAPH
variable {n g N i k : Nat} {m : Nat → Nat → Int32} {p : Nat → Nat} {V : Nat → Nat → Int32} {x y P : Int32}
theorem f_has (hg : zGB g) (h : m g 1 = nI N) : fn_X1_has (some g) x (zC n m p) = some (zB (0 ≤ x ∧ x ≤ nI N - 1), zC n m p) := by
  obtain ⟨h9, h41, s0, s1, s2, s3, s4, r0, r2, r3, r4⟩ := zGB_ok (n := n) (p := p) hg
  unfold fn_X1_has fi_X1_has
  rw [z_gi (by omega) (by rw [s0]), h]
  simp only [Option.bind_some]
  rw [f_isIn]
  simp only [Option.bind_some]
  exact zB_bz
theorem f_hasInput_no (hg : zGB g) (h : m g 1 = nI N) (hx : ¬ (0 ≤ x ∧ x ≤ nI N - 1)) : fn_X1_hasInput (some g) x y (zC n m p) = some (0, zC n m p) := by
  obtain ⟨h9, h41, s0, s1, s2, s3, s4, r0, r2, r3, r4⟩ := zGB_ok (n := n) (p := p) hg
  unfold fn_X1_hasInput fi_X1_hasInput
  rw [z_sh (by omega) (by rw [s0]), f_has hg h, zB_f hx]
  simp only [Option.bind_some, if_true]
  exact zbz0
theorem f_hasParameter_no (hg : zGB g) (h : m g 1 = nI N) (hx : ¬ (0 ≤ x ∧ x ≤ nI N - 1)) : fn_X1_hasParameter (some g) x y (zC n m p) = some (0, zC n m p) := by
  obtain ⟨h9, h41, s0, s1, s2, s3, s4, r0, r2, r3, r4⟩ := zGB_ok (n := n) (p := p) hg
  unfold fn_X1_hasParameter fi_X1_hasParameter
  rw [z_sh (by omega) (by rw [s0]), f_has hg h, zB_f hx]
  simp only [Option.bind_some, if_true]
  exact zbz0
theorem z_nodes (hg : zGB g) (hi : i < 12) : ax_ar (zC n m p) 12 (some (g + 1)) (nI i) = some (some (g + 5 + 3 * i)) := by
  obtain ⟨h9, h41, s0, s1, s2, s3, s4, r0, r2, r3, r4⟩ := zGB_ok (n := n) (p := p) hg
  rw [z_ar (by omega) (by rw [s1]) (by rw [s1]; exact hi) (by omega), (zGB_node hg hi).2]
theorem f_hasInput (hg : zGB g) (hT : zT m) (hG : zGC m g N V) (hN : N ≤ 12) (hi : i < N) (hk : k < 7) (hV : V i 0 = nI k) : fn_X1_hasInput (some g) (nI i) y (zC n m p) = some (zB (0 ≤ y ∧ y ≤ nI (zin k) - 1), zC n m p) := by
  obtain ⟨h9, h41, s0, s1, s2, s3, s4, r0, r2, r3, r4⟩ := zGB_ok (n := n) (p := p) hg
  obtain ⟨hb, -⟩ := zGB_node (p := p) hg (show i < 12 by omega)
  obtain ⟨b9, b1, t0, t1, t2, q3, q4⟩ := zNB_ok (n := n) (p := p) hb
  unfold fn_X1_hasInput fi_X1_hasInput
  rw [z_sh (by omega) (by rw [s0]), f_has hg hG.1, zB_t ⟨z_pos (by omega), z_le_pred (by omega) hi⟩]
  simp only [Option.bind_some]
  rw [if_neg (by decide), z_gr (by omega) (by rw [s0]), r0]
  simp only [Option.bind_some]
  rw [z_nodes hg (by omega)]
  simp only [Option.bind_some]
  rw [z_gi (by omega) (by rw [t0]), hG.2.1 i 0 hi (by omega), hV]
  simp only [Option.bind_some]
  rw [f_inputs hT hk]
  simp only [Option.bind_some]
  rw [f_isIn]
  simp only [Option.bind_some]
  by_cases hc : 0 ≤ y ∧ y ≤ nI (zin k) - 1
  · rw [zB_t hc, if_neg (by decide), zbz1]
  · rw [zB_f hc, if_pos rfl, zbz0]
theorem f_hasParameter (hg : zGB g) (hT : zT m) (hG : zGC m g N V) (hN : N ≤ 12) (hi : i < N) (hk : k < 7) (hV : V i 0 = nI k) : fn_X1_hasParameter (some g) (nI i) y (zC n m p) = some (zB (0 ≤ y ∧ y ≤ nI (zpn k) - 1), zC n m p) := by
  obtain ⟨h9, h41, s0, s1, s2, s3, s4, r0, r2, r3, r4⟩ := zGB_ok (n := n) (p := p) hg
  obtain ⟨hb, -⟩ := zGB_node (p := p) hg (show i < 12 by omega)
  obtain ⟨b9, b1, t0, t1, t2, q3, q4⟩ := zNB_ok (n := n) (p := p) hb
  unfold fn_X1_hasParameter fi_X1_hasParameter
  rw [z_sh (by omega) (by rw [s0]), f_has hg hG.1, zB_t ⟨z_pos (by omega), z_le_pred (by omega) hi⟩]
  simp only [Option.bind_some]
  rw [if_neg (by decide), z_gr (by omega) (by rw [s0]), r0]
  simp only [Option.bind_some]
  rw [z_nodes hg (by omega)]
  simp only [Option.bind_some]
  rw [z_gi (by omega) (by rw [t0]), hG.2.1 i 0 hi (by omega), hV]
  simp only [Option.bind_some]
  rw [f_parameters hT hk]
  simp only [Option.bind_some]
  rw [f_isIn]
  simp only [Option.bind_some]
  by_cases hc : 0 ≤ y ∧ y ≤ nI (zpn k) - 1
  · rw [zB_t hc, if_neg (by decide), zbz1]
  · rw [zB_f hc, if_pos rfl, zbz0]
theorem z_nodeset (hg : zGB g) (hG : zGC m g N V) (hN : N ≤ 12) (hi : i < N) : fn_X3_inputSet (some (g + 5 + 3 * i)) (zC n m p) = some (zis (zI V i) 3, zC n m p) := by
  obtain ⟨hb, -⟩ := zGB_node (p := p) hg (show i < 12 by omega)
  rw [f_inputSet hb, zis_congr (v := m (g + 5 + 3 * i + 1)) (w := zI V i) (fun k hk => hG.2.2.1 i k hi hk)]
theorem f_firstReady_lp (hg : zGB g) (hG : zGC m g N V) (hN : N ≤ 12) : ∀ (d i f : Nat), i + d = N → d < f → fb_X1_firstReady_2 f (some g) P (nI i) (zC n m p) = some (nI (znf V P d i), zC n m p) := by
  obtain ⟨h9, h41, s0, s1, s2, s3, s4, r0, r2, r3, r4⟩ := zGB_ok (n := n) (p := p) hg
  intro d
  induction d with
  | zero =>
    intro i f hi hf
    obtain ⟨f, rfl⟩ : ∃ k, f = k + 1 := ⟨f - 1, by omega⟩
    obtain rfl : i = N := by omega
    unfold fb_X1_firstReady_2
    rw [z_gi (by omega) (by rw [s0]), hG.1]
    simp only [Option.bind_some]
    rw [if_pos (nI_le (Nat.le_refl _) (by omega))]
    rfl
  | succ d ih =>
    intro i f hi hf
    obtain ⟨f, rfl⟩ : ∃ k, f = k + 1 := ⟨f - 1, by omega⟩
    obtain ⟨hb, -⟩ := zGB_node (p := p) hg (show i < 12 by omega)
    obtain ⟨b9, b1, t0, t1, t2, q3, q4⟩ := zNB_ok (n := n) (p := p) hb
    unfold fb_X1_firstReady_2
    rw [z_gi (by omega) (by rw [s0]), hG.1]
    simp only [Option.bind_some]
    rw [if_neg (nI_ge (by omega) (by omega)), z_gr (by omega) (by rw [s0]), r0]
    simp only [Option.bind_some]
    rw [z_nodes hg (by omega)]
    simp only [Option.bind_some]
    rw [z_sh (by omega) (by rw [t0])]
    simp only [Option.bind_some]
    rw [z_nodeset hg hG hN (by omega)]
    simp only [Option.bind_some]
    have ih1 := ih (i + 1) f (by omega) (by omega)
    have hin : (0 : Int32) ≤ nI i ∧ nI i ≤ 11 := ⟨z_pos (by omega), nI_le (b := 11) (by omega) (by omega)⟩
    unfold fb_X1_firstReady_31
    unfold znf
    rw [show nI i + 1 = nI (i + 1) from nI_1 i]
    by_cases h1 : zis (zI V i) 3 &&& (P ^^^ (-1)) = 0
    · rw [if_pos h1, if_neg (by decide), f_contains]
      simp only [Option.bind_some]
      by_cases h2 : (P >>> (nI i &&& 31)) &&& 1 = 1
      · rw [zB_t ⟨hin, h2⟩, if_neg (by decide), zrd_f2 h2, if_neg (by decide)]
        exact ih1
      · rw [zB_f (fun h => h2 h.2), if_pos rfl, zrd_t h1 h2, if_pos rfl]
    · rw [if_neg h1, if_pos rfl, zrd_f1 h1, if_neg (by decide)]
      exact ih1
theorem f_firstReady (hg : zGB g) (hG : zGC m g N V) (hN : N ≤ 12) : fn_X1_firstReady (some g) P (zC n m p) = some (nI (znx N V P), zC n m p) := f_firstReady_lp hg hG hN N 0 10000 (by omega) (by omega)
end GRAPH
