/-! ===== what holds between calls ===== -/
/-- nodes, cache, text, slots -/
abbrev zA : Type := (Nat × (Nat → Nat → Int32)) × zSt × (Nat × (Nat → Nat)) × (Nat → Option (Nat × (Nat → Nat → Int32)))
def zSlC (m : Nat → Nat → Int32) (s : Nat) : Option (Nat × (Nat → Nat → Int32)) → Prop
  | none => m 191 s = 0
  | some (N, V) => m 191 s = 1 ∧ N ≤ 12 ∧ zGC m (193 + 41 * s) N V
def zCls0 (m : Nat → Nat → Int32) (N : Nat) (V : Nat → Nat → Int32) (L : Nat) (T : Nat → Nat) (S : Nat → Option (Nat × (Nat → Nat → Int32))) : Prop :=
  zT m ∧ (N ≤ 12 ∧ zGC m 10 N V ∧ zOC m 10 N V) ∧ (∀ k, k < 96 → m 192 k = 0) ∧ (m 150 1 = nI L ∧ ∀ j, j < L → m 151 j = nI (T j)) ∧ ∀ s, s < 2 → zSlC m s (S s)
def zCls (m : Nat → Nat → Int32) (p : Nat → Nat) : zA → Prop
  | ((N, V), C, (L, T), S) => zCls0 m N V L T S ∧ ∃ X Y E, zCa m p X Y C E
def zAbs (B : Nat) : zA → Prop
  | ((N, V), C, (L, T), S) => zOK N V ∧ zI5 N 0 (C.1 1) C ∧ C.1 1 ≤ B ∧ L ≤ 80 ∧ (∀ j, T j < 128) ∧ ∀ s M W, S s = some (M, W) → zOK M W
/-- what the class leaves alone, what the model leaves alone -/
def zFK (m m' : Nat → Nat → Int32) : Prop := ∀ a, a < 9 ∨ 275 ≤ a → m' a = m a
theorem zFK_rf {m : Nat → Nat → Int32} : zFK m m := fun _ _ => rfl
theorem zFK_tr {m1 m2 m3 : Nat → Nat → Int32} (h1 : zFK m1 m2) (h2 : zFK m2 m3) : zFK m1 m3 := fun a ha => (h2 a ha).trans (h1 a ha)
section STATE
variable {n N g L B : Nat} {m m' : Nat → Nat → Int32} {p X Y c : Nat → Nat} {T : Nat → Nat} {V : Nat → Nat → Int32} {C : zSt} {E K : Nat → Nat → Nat} {W : Nat → Nat → Nat → Int32} {A : zA} {S : Nat → Option (Nat × (Nat → Nat → Int32))}
theorem zGC_cg (h : zGC m g N V) (hN : N ≤ 12) (hf : ∀ a, g ≤ a → a < g + 41 → m' a = m a) : zGC m' g N V := ⟨by rw [hf g (by omega) (by omega)]; exact h.1, fun i w hi hw => by rw [hf _ (by omega) (by omega)]; exact h.2.1 i w hi hw, fun i k hi hk => by rw [hf _ (by omega) (by omega)]; exact h.2.2.1 i k hi hk, fun i q hi hq => by rw [hf _ (by omega) (by omega)]; exact h.2.2.2 i q hi hq⟩
theorem zSlC_cg {s : Nat} (hs : s < 2) : ∀ {o : Option (Nat × (Nat → Nat → Int32))}, zSlC m s o → (m' 191 = m 191 ∧ ∀ a, 193 ≤ a → a < 275 → m' a = m a) → zSlC m' s o
  | none, h, hf => by show m' 191 s = 0; rw [hf.1]; exact h
  | some (N, V), h, hf => by show m' 191 s = 1 ∧ _; rw [hf.1]; exact ⟨h.1, h.2.1, zGC_cg h.2.2 h.2.1 (fun a ha hb => hf.2 a (by omega) (by omega))⟩
theorem zCls0_cg (h : zCls0 m N V L T S) (hf : ∀ a, a < 51 ∨ 149 ≤ a → a < 275 → m' a = m a) : zCls0 m' N V L T S := by
  obtain ⟨hT, ⟨hN, hG, hO⟩, hB, ⟨t1, t2⟩, hS⟩ := h
  refine ⟨fun a j ha => by rw [hf a (by omega) (by omega)]; exact hT a j ha, ⟨hN, zGC_f1 hG hN (fun a ha => hf a (by omega) (by omega)), zOC_f1 hO (fun a ha => hf a (by omega) (by omega))⟩, fun k hk => by rw [hf _ (by omega) (by omega)]; exact hB k hk, ⟨by rw [hf _ (by omega) (by omega)]; exact t1, fun j hj => by rw [hf _ (by omega) (by omega)]; exact t2 j hj⟩, fun s hs => zSlC_cg hs (hS s hs) ⟨hf _ (by omega) (by omega), fun a h1 h2 => hf a (by omega) h2⟩⟩
theorem zCX_fr (h : zCX m p X Y c K W E) (hf : ∀ a, 51 ≤ a → a < 149 → m' a = m a) : zCX m' p X Y c K W E := by
  obtain ⟨hp, hc, h48, hP⟩ := h
  refine ⟨hp, fun i a b => by rw [hf 51 (by omega) (by omega)]; exact hc i a b, h48, zP_congr hP (fun w j hw hj => ?_) (fun j k hj hk => ?_) (fun j hj => rfl)⟩
  · have := hp.1 j (by omega)
    show m' (53 + 2 * p j) w = m (53 + 2 * p j) w
    rw [hf _ (by omega) (by omega)]
  · have := hp.1 j (by omega)
    show m' (54 + 2 * p j) k = m (54 + 2 * p j) k
    rw [hf _ (by omega) (by omega)]
theorem zCls_fr (h : zCls m p A) (hf : ∀ a, a < 275 → m' a = m a) : zCls m' p A := by
  obtain ⟨⟨N, V⟩, C, ⟨L, T⟩, S⟩ := A
  obtain ⟨h0, X, Y, E, h1⟩ := h
  exact ⟨zCls0_cg h0 (fun a ha hb => hf a hb), X, Y, E, zCX_fr h1 (fun a ha hb => hf a (by omega))⟩
theorem zAbs_mono {B' : Nat} (h : zAbs B A) (hB : B ≤ B') : zAbs B' A := by
  obtain ⟨⟨N, V⟩, C, ⟨L, T⟩, S⟩ := A
  obtain ⟨h1, h2, h3, h4, h5, h6⟩ := h
  exact ⟨h1, h2, by omega, h4, h5, h6⟩
end STATE
section CALLS1
variable {n N L B : Nat} {m : Nat → Nat → Int32} {p T : Nat → Nat} {V : Nat → Nat → Int32} {C : zSt} {x y : Int32} {S : Nat → Option (Nat × (Nat → Nat → Int32))}
end CALLS1
