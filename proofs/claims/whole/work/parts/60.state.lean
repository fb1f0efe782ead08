/-! ===== what holds between calls ===== -/
/-- nodes, cache, text, slots -/
abbrev zA : Type := (Nat × (Nat → Nat → Int32)) × zSt × (Nat × (Nat → Nat)) × (Nat → Option (Nat × (Nat → Nat → Int32)))
def zGMr (r : Nat → Int32) (N : Nat) (V : Nat → Nat → Int32) : Prop := r 0 = nI N ∧ (∀ i w, i < N → w < 6 → r (1 + 10 * i + w) = V i w) ∧ ∀ i k q, i < N → k < 7 → V i 0 = nI k → q < zpn k → r (1 + 10 * i + (6 + q)) = V i (6 + q)
theorem zGM_r {m : Nat → Nat → Int32} {N : Nat} {V : Nat → Nat → Int32} : zGM m N V ↔ zGMr (m 276) N V := Iff.rfl
def zSlC (m : Nat → Nat → Int32) (s : Nat) : Option (Nat × (Nat → Nat → Int32)) → Prop
  | none => m 191 s = 0
  | some (N, V) => m 191 s = 1 ∧ N ≤ 12 ∧ zGC m (193 + 41 * s) N V
def zSlM (m : Nat → Nat → Int32) (s : Nat) : Option (Nat × (Nat → Nat → Int32)) → Prop
  | none => m 278 s = 0
  | some (N, V) => m 278 s = 1 ∧ N ≤ 12 ∧ zGMr (fun k => m 277 (121 * s + k)) N V
def zCls0 (m : Nat → Nat → Int32) (N : Nat) (V : Nat → Nat → Int32) (L : Nat) (T : Nat → Nat) (S : Nat → Option (Nat × (Nat → Nat → Int32))) : Prop :=
  zT m ∧ (N ≤ 12 ∧ zGC m 10 N V ∧ zOC m 10 N V) ∧ (∀ k, k < 96 → m 192 k = 0) ∧ (m 150 1 = nI L ∧ ∀ j, j < L → m 151 j = nI (T j)) ∧ ∀ s, s < 2 → zSlC m s (S s)
def zMdl0 (m : Nat → Nat → Int32) (N : Nat) (V : Nat → Nat → Int32) (L : Nat) (T : Nat → Nat) (S : Nat → Option (Nat × (Nat → Nat → Int32))) : Prop :=
  zMT m ∧ zGM m N V ∧ (m 275 12 = nI L ∧ ∀ j, j < L → m 284 j = nI (T j)) ∧ ∀ s, s < 2 → zSlM m s (S s)
def zCls (m : Nat → Nat → Int32) (p : Nat → Nat) : zA → Prop
  | ((N, V), C, (L, T), S) => zCls0 m N V L T S ∧ ∃ X Y E, zCa m p X Y C E
def zMdl (m : Nat → Nat → Int32) : zA → Prop
  | ((N, V), C, (L, T), S) => zMdl0 m N V L T S ∧ ∃ X Y, zMa m X Y C 0
def zAbs (B : Nat) : zA → Prop
  | ((N, V), C, (L, T), S) => zOK N V ∧ zI5 N 0 (C.1 1) C ∧ C.1 1 ≤ B ∧ L ≤ 80 ∧ (∀ j, T j < 128) ∧ ∀ s M W, S s = some (M, W) → zOK M W
/-- what the class leaves alone, what the model leaves alone -/
def zFK (m m' : Nat → Nat → Int32) : Prop := ∀ a, a < 9 ∨ 275 ≤ a → m' a = m a
def zFM (m m' : Nat → Nat → Int32) : Prop := ∀ a, a < 275 → m' a = m a
theorem zFK_rf {m : Nat → Nat → Int32} : zFK m m := fun _ _ => rfl
theorem zFM_rf {m : Nat → Nat → Int32} : zFM m m := fun _ _ => rfl
theorem zFK_tr {m1 m2 m3 : Nat → Nat → Int32} (h1 : zFK m1 m2) (h2 : zFK m2 m3) : zFK m1 m3 := fun a ha => (h2 a ha).trans (h1 a ha)
theorem zFM_tr {m1 m2 m3 : Nat → Nat → Int32} (h1 : zFM m1 m2) (h2 : zFM m2 m3) : zFM m1 m3 := fun a ha => (h2 a ha).trans (h1 a ha)
section STATE
variable {n N g L B : Nat} {m m' : Nat → Nat → Int32} {p X Y c : Nat → Nat} {T : Nat → Nat} {V : Nat → Nat → Int32} {C : zSt} {E K : Nat → Nat → Nat} {W : Nat → Nat → Nat → Int32} {A : zA} {S : Nat → Option (Nat × (Nat → Nat → Int32))}
theorem zGC_cg (h : zGC m g N V) (hN : N ≤ 12) (hf : ∀ a, g ≤ a → a < g + 41 → m' a = m a) : zGC m' g N V := ⟨by rw [hf g (by omega) (by omega)]; exact h.1, fun i w hi hw => by rw [hf _ (by omega) (by omega)]; exact h.2.1 i w hi hw, fun i k hi hk => by rw [hf _ (by omega) (by omega)]; exact h.2.2.1 i k hi hk, fun i q hi hq => by rw [hf _ (by omega) (by omega)]; exact h.2.2.2 i q hi hq⟩
theorem zSlC_cg {s : Nat} (hs : s < 2) : ∀ {o : Option (Nat × (Nat → Nat → Int32))}, zSlC m s o → (m' 191 = m 191 ∧ ∀ a, 193 ≤ a → a < 275 → m' a = m a) → zSlC m' s o
  | none, h, hf => by show m' 191 s = 0; rw [hf.1]; exact h
  | some (N, V), h, hf => by show m' 191 s = 1 ∧ _; rw [hf.1]; exact ⟨h.1, h.2.1, zGC_cg h.2.2 h.2.1 (fun a ha hb => hf.2 a (by omega) (by omega))⟩
theorem zSlM_cg {s : Nat} : ∀ {o : Option (Nat × (Nat → Nat → Int32))}, zSlM m s o → (m' 277 = m 277 ∧ m' 278 = m 278) → zSlM m' s o
  | none, h, hf => by show m' 278 s = 0; rw [hf.2]; exact h
  | some (N, V), h, hf => by show m' 278 s = 1 ∧ _ ∧ zGMr (fun k => m' 277 (121 * s + k)) N V; rw [hf.1, hf.2]; exact h
theorem zCls0_cg (h : zCls0 m N V L T S) (hf : ∀ a, a < 51 ∨ 149 ≤ a → a < 275 → m' a = m a) : zCls0 m' N V L T S := by
  obtain ⟨hT, ⟨hN, hG, hO⟩, hB, ⟨t1, t2⟩, hS⟩ := h
  refine ⟨fun a j ha => by rw [hf a (by omega) (by omega)]; exact hT a j ha, ⟨hN, zGC_f1 hG hN (fun a ha => hf a (by omega) (by omega)), zOC_f1 hO (fun a ha => hf a (by omega) (by omega))⟩, fun k hk => by rw [hf _ (by omega) (by omega)]; exact hB k hk, ⟨by rw [hf _ (by omega) (by omega)]; exact t1, fun j hj => by rw [hf _ (by omega) (by omega)]; exact t2 j hj⟩, fun s hs => zSlC_cg hs (hS s hs) ⟨hf _ (by omega) (by omega), fun a h1 h2 => hf a (by omega) h2⟩⟩
theorem zMdl0_cg (h : zMdl0 m N V L T S) (hf : ∀ a, (275 < a ∧ a < 279) ∨ 284 ≤ a ∧ a < 287 → m' a = m a) (hg : m' 275 12 = m 275 12) : zMdl0 m' N V L T S := by
  obtain ⟨hT, hG, ⟨t1, t2⟩, hS⟩ := h
  exact ⟨fun k hk => by rw [hf 285 (by omega), hf 286 (by omega)]; exact hT k hk, zGM_fr hG (hf 276 (by omega)), ⟨by rw [hg]; exact t1, fun j hj => by rw [hf 284 (by omega)]; exact t2 j hj⟩, fun s hs => zSlM_cg (hS s hs) ⟨hf 277 (by omega), hf 278 (by omega)⟩⟩
theorem zMdl0_fp (h : zMdl0 m N V L T S) (hf : zFp m m') : zMdl0 m' N V L T S := zMdl0_cg h (fun a ha => hf.1 a (by omega)) (hf.2 12 (by omega) (by omega) (by omega) (by omega))
theorem zCX_fr (h : zCX m p X Y c K W E) (hf : ∀ a, 51 ≤ a → a < 149 → m' a = m a) : zCX m' p X Y c K W E := by
  obtain ⟨hp, hc, h48, hP⟩ := h
  refine ⟨hp, fun i a b => by rw [hf 51 (by omega) (by omega)]; exact hc i a b, h48, zP_congr hP (fun w j hw hj => ?_) (fun j k hj hk => ?_) (fun j hj => rfl)⟩
  · have := hp.1 j (by omega)
    show m' (53 + 2 * p j) w = m (53 + 2 * p j) w
    rw [hf _ (by omega) (by omega)]
  · have := hp.1 j (by omega)
    show m' (54 + 2 * p j) k = m (54 + 2 * p j) k
    rw [hf _ (by omega) (by omega)]
theorem zCls_fr (h : zCls m p A) (hf : zFM m m') : zCls m' p A := by
  obtain ⟨⟨N, V⟩, C, ⟨L, T⟩, S⟩ := A
  obtain ⟨h0, X, Y, E, h1⟩ := h
  exact ⟨zCls0_cg h0 (fun a ha hb => hf a hb), X, Y, E, zCX_fr h1 (fun a ha hb => hf a (by omega))⟩
theorem zMdl_fr (h : zMdl m A) (hf : zFK m m') : zMdl m' A := by
  obtain ⟨⟨N, V⟩, C, ⟨L, T⟩, S⟩ := A
  obtain ⟨h0, X, Y, h1⟩ := h
  exact ⟨zMdl0_cg h0 (fun a ha => hf a (by omega)) (by rw [hf 275 (by omega)]), X, Y, zMX_fr h1 (fun a ha hb => hf a (by omega)) (fun k hk => by rw [hf 275 (by omega)])⟩
theorem zAbs_mono {B' : Nat} (h : zAbs B A) (hB : B ≤ B') : zAbs B' A := by
  obtain ⟨⟨N, V⟩, C, ⟨L, T⟩, S⟩ := A
  obtain ⟨h1, h2, h3, h4, h5, h6⟩ := h
  exact ⟨h1, h2, by omega, h4, h5, h6⟩
end STATE
/-- a call of both programs: the same answer, and what holds between calls -/
def zop {α : Type} (n : Nat) (F G : ax_S → Option (α × ax_S)) : Prop := ∀ (m : Nat → Nat → Int32) (p : Nat → Nat) (A : zA) (B : Nat), zCls m p A → zMdl m A → zAbs B A → B < 2 ^ 30 → ∃ r m1 p1 m2 A', F (zC n m p) = some (r, zC n m1 p1) ∧ G (zC n m1 p1) = some (r, zC n m2 p1) ∧ zFK m m1 ∧ zFM m1 m2 ∧ zCls m1 p1 A' ∧ zMdl m2 A' ∧ zAbs (B + 100) A'
/-- each program on its own -/
theorem zop_mk {α : Type} {n : Nat} {F G : ax_S → Option (α × ax_S)} (h : ∀ (m : Nat → Nat → Int32) (p : Nat → Nat) (A : zA) (B : Nat), zCls m p A → zMdl m A → zAbs B A → B < 2 ^ 30 → ∃ r A', (∃ m1 p1, F (zC n m p) = some (r, zC n m1 p1) ∧ zFK m m1 ∧ zCls m1 p1 A') ∧ (∀ m p, zMdl m A → ∃ m2, G (zC n m p) = some (r, zC n m2 p) ∧ zFM m m2 ∧ zMdl m2 A') ∧ zAbs (B + 100) A') : zop n F G := by
  intro m p A B h1 h2 h3 h4
  obtain ⟨r, A', ⟨m1, p1, a1, a2, a3⟩, hm, hA⟩ := h m p A B h1 h2 h3 h4
  obtain ⟨m2, b1, b2, b3⟩ := hm m1 p1 (zMdl_fr h2 a2)
  exact ⟨r, m1, p1, m2, A', a1, b1, a2, b2, a3, b3, hA⟩
/-- a call that changes nothing -/
theorem zop_q {α : Type} {n : Nat} {F G : ax_S → Option (α × ax_S)} (h : ∀ (m : Nat → Nat → Int32) (p : Nat → Nat) (A : zA) (B : Nat), zCls m p A → zMdl m A → zAbs B A → ∃ r m2, F (zC n m p) = some (r, zC n m p) ∧ G (zC n m p) = some (r, zC n m2 p) ∧ ∀ a, a < 287 → m2 a = m a) : zop n F G := by
  intro m p A B h1 h2 h3 h4
  obtain ⟨r, m2, a1, a2, a3⟩ := h m p A B h1 h2 h3
  refine ⟨r, m, p, m2, A, a1, a2, zFK_rf, fun a ha => a3 a (by omega), h1, ?_, zAbs_mono h3 (by omega)⟩
  obtain ⟨⟨N, V⟩, C, ⟨L, T⟩, S⟩ := A
  obtain ⟨g0, X, Y, g1⟩ := h2
  exact ⟨zMdl0_cg g0 (fun a ha => a3 a (by omega)) (by rw [a3 275 (by omega)]), X, Y, zMX_fr g1 (fun a ha hb => a3 a (by omega)) (fun k hk => by rw [a3 275 (by omega)])⟩
section CALLS1
variable {n N L B : Nat} {m : Nat → Nat → Int32} {p T : Nat → Nat} {V : Nat → Nat → Int32} {C : zSt} {x y : Int32} {S : Nat → Option (Nat × (Nat → Nat → Int32))}
theorem zIG_of (h1 : zCls0 m N V L T S) (h2 : zMdl0 m N V L T S) (h3 : zOK N V) : zIG m N V := ⟨h1.2.1.2.1, h1.2.1.2.2, h2.2.1, h3⟩
theorem c_nodes : zop n (fn_X9_nodes (some 9)) (fn_X10_nodes (some 275)) := zop_q (fun m p A B h1 h2 h3 => by
  obtain ⟨⟨N, V⟩, C, ⟨L, T⟩, S⟩ := A
  obtain ⟨a, b⟩ := q_nodes (n := n) (p := p) (zIG_of h1.1 h2.1 h3.1)
  exact ⟨_, m, a, b, fun _ _ => rfl⟩)
theorem c_input : zop n (fn_X9_input (some 9) x y) (fn_X10_input (some 275) x y) := zop_q (fun m p A B h1 h2 h3 => by
  obtain ⟨⟨N, V⟩, C, ⟨L, T⟩, S⟩ := A
  obtain ⟨r, a, b⟩ := q_input (n := n) (p := p) (x := x) (y := y) h1.1.1 h2.1.1 (zIG_of h1.1 h2.1 h3.1)
  exact ⟨_, m, a, b, fun _ _ => rfl⟩)
theorem c_parameter : zop n (fn_X9_parameter (some 9) x y) (fn_X10_parameter (some 275) x y) := zop_q (fun m p A B h1 h2 h3 => by
  obtain ⟨⟨N, V⟩, C, ⟨L, T⟩, S⟩ := A
  obtain ⟨r, a, b⟩ := q_parameter (n := n) (p := p) (x := x) (y := y) h1.1.1 h2.1.1 (zIG_of h1.1 h2.1 h3.1)
  exact ⟨_, m, a, b, fun _ _ => rfl⟩)
theorem c_node : zop n (fn_X9_node (some 9) x y) (fn_X10_node (some 275) x y) := zop_q (fun m p A B h1 h2 h3 => by
  obtain ⟨⟨N, V⟩, C, ⟨L, T⟩, S⟩ := A
  obtain ⟨r, m2, a, b, c⟩ := q_node (n := n) (p := p) (x := x) (y := y) (zIG_of h1.1 h2.1 h3.1)
  exact ⟨_, m2, a, b, fun a ha => c a (by omega)⟩)
end CALLS1
