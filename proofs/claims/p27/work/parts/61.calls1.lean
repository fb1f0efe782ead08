/-! ===== calls: count, isCached, clear, setRoom, text, addNode ===== -/
section CALLS2
variable {n N L B : Nat} {m m' : Nat → Nat → Int32} {p X Y c T : Nat → Nat} {V : Nat → Nat → Int32} {C : zSt} {E K : Nat → Nat → Nat} {W : Nat → Nat → Nat → Int32} {x y : Int32} {S : Nat → Option (Nat × (Nat → Nat → Int32))}
def zci (k : Nat) : Nat := if k = 0 then 2 else k + 3
theorem f_count9 (h : zCX m p X Y c K W E) {k : Nat} (hk : k < 5) : fn_X9_count (some 9) (nI k) (zC n m p) = some (nI (c (zci k)), zC n m p) := by
  have hcc := h.2.1
  have hc : k = 0 ∨ k = 1 ∨ k = 2 ∨ k = 3 ∨ k = 4 := by omega
  unfold fn_X9_count
  rcases hc with rfl | rfl | rfl | rfl | rfl
  · rw [if_pos (by decide), z_cr, show zR p 9 1 = some 51 from rfl, Option.bind_some, z_c1, hcc 2 (by omega) (by omega), Option.bind_some]
    rfl
  · rw [if_neg (by decide), if_pos (by decide), z_cr, show zR p 9 1 = some 51 from rfl, Option.bind_some, z_c1, hcc 4 (by omega) (by omega), Option.bind_some]
    rfl
  · rw [if_neg (by decide), if_neg (by decide), if_pos (by decide), z_cr, show zR p 9 1 = some 51 from rfl, Option.bind_some, z_c1, hcc 5 (by omega) (by omega), Option.bind_some]
    rfl
  · rw [if_neg (by decide), if_neg (by decide), if_neg (by decide), if_pos (by decide), z_cr, show zR p 9 1 = some 51 from rfl, Option.bind_some, z_c1, hcc 6 (by omega) (by omega), Option.bind_some]
    rfl
  · rw [if_neg (by decide), if_neg (by decide), if_neg (by decide), if_neg (by decide), if_pos (by decide), z_cr, show zR p 9 1 = some 51 from rfl, Option.bind_some, z_c1, hcc 7 (by omega) (by omega), Option.bind_some]
    rfl
def zkb (K : Nat → Nat → Nat) (i g : Nat) : Int32 := if K i g = 0 then 0 else 1
theorem f_isCached9 (hN : N ≤ 12) (hm : m 10 1 = nI N) (h : zCX m p X Y c K W E) {i g : Nat} (hi : i < N) (hg : g < 100) : fn_X9_isCached (some 9) (nI i) (nI g) (zC n m p) = some (zkb K i g, zC n m p) := by
  unfold fn_X9_isCached
  rw [z_cr, show zR p 9 0 = some 10 from rfl, Option.bind_some, z_gs, Option.bind_some, f_has z10 hm, zB_t ⟨z_pos (by omega), z_le_pred (by omega) hi⟩, Option.bind_some]
  dsimp only
  rw [if_neg (by decide), f_isFrame, zB_t ⟨z_pos (by omega), nI_le (b := 99) (by omega) (by omega)⟩, Option.bind_some]
  dsimp only
  rw [if_neg (by decide), z_cr, show zR p 9 1 = some 51 from rfl, Option.bind_some, z_cs, Option.bind_some]
  unfold zkb
  by_cases hk : K i g = 0
  · rw [f_find0 h (by omega) (by omega) hk, Option.bind_some]
    dsimp only
    rw [if_pos rfl, if_pos hk]
  · rw [f_find1 h hk, Option.bind_some]
    dsimp only
    rw [if_neg (by simp), if_neg hk]
/-! the parts of the state, changed -/
theorem zCls0_g {N' : Nat} {V' : Nat → Nat → Int32} (h : zCls0 m N V L T S) (hf : ∀ a, a < 9 ∨ (149 ≤ a ∧ a < 275) → m' a = m a) (hN : N' ≤ 12) (hG : zGC m' 10 N' V') (hO : zOC m' 10 N' V') : zCls0 m' N' V' L T S := by
  obtain ⟨hT, -, hB, ⟨t1, t2⟩, hS⟩ := h
  exact ⟨fun a j ha => by rw [hf a (by omega)]; exact hT a j ha, ⟨hN, hG, hO⟩, fun k hk => by rw [hf _ (by omega)]; exact hB k hk, ⟨by rw [hf _ (by omega)]; exact t1, fun j hj => by rw [hf _ (by omega)]; exact t2 j hj⟩, fun s hs => zSlC_cg hs (hS s hs) ⟨hf _ (by omega), fun a h1 h2 => hf a (by omega)⟩⟩
theorem zP_0 {f v : Nat → Nat → Int32} {e : Nat → Nat} : zP X Y 0 f v e (fun _ _ => 0) W E := ⟨fun j hj => by omega, fun i j hi => by omega, fun x y h => absurd rfl h⟩
theorem zI5_0 {f : Nat} (h1 : 12 ≤ c 3) (h2 : c 3 ≤ 48) (h0 : c 2 = 0) : zI5 N f (c 1) (c, fun _ _ => 0, W) := ⟨⟨⟨fun _ _ => Nat.zero_le _, fun _ _ _ _ h => absurd rfl h⟩, Nat.le_refl _⟩, fun y g h => absurd rfl h, fun y g h => by have h' : c 1 < 0 := h; omega, by
  show zE (c 2) _
  rw [h0]
  exact ⟨fun _ => 0, fun _ => 0, fun _ _ => 0, fun _ _ => 0, fun _ => 0, fun _ _ _ => 0, fun _ _ => 0, zP_0⟩, by show c 2 ≤ c 3; omega, h1, h2⟩
/-- the cache is emptied -/
def zcl (C : zSt) : zSt := (va_up C.1 2 0, fun _ _ => 0, C.2.2)
theorem zCa_cl (h : zCa m p X Y C E) : zCa (ax_u2 m 51 2 0) p X Y (zcl C) E := by
  obtain ⟨hp, hc, h48, hP⟩ := h
  refine ⟨hp, fun i a b => ?_, ?_, ?_⟩
  · show ax_u2 m 51 2 0 51 i = nI (va_up C.1 2 0 i)
    by_cases hi : i = 2
    · subst hi
      rw [ax_u2_self, va_up_self]
      exact nI_0.symm
    · rw [ax_u2_nk hi, va_up_ne _ _ hi]
      exact hc i a b
  · show va_up C.1 2 0 2 ≤ 48
    rw [va_up_self]
    omega
  · show zP X Y (va_up C.1 2 0 2) _ _ p _ _ E
    rw [va_up_self]
    exact zP_0
theorem zI5_cl {U : Nat} {N' : Nat} (h : zI5 N 0 U C) : zI5 N' 0 ((zcl C).1 1) (zcl C) := by
  obtain ⟨-, -, -, -, -, h1, h2⟩ := h
  have u : ∀ k, k ≠ 2 → (zcl C).1 k = C.1 k := fun k hk => va_up_ne C.1 0 hk
  exact zI5_0 (c := (zcl C).1) (by rw [u _ (by omega)]; exact h1) (by rw [u _ (by omega)]; exact h2) (va_up_self C.1 2 0)
theorem zcl_1 : (zcl C).1 1 = C.1 1 := va_up_ne C.1 0 (show (1 : Nat) ≠ 2 by omega)
theorem f_empty : fn_X0_empty (some 51) (zC n m p) = some (zC n (ax_u2 m 51 2 0) p) := by
  unfold fn_X0_empty
  rw [z_c2, Option.bind_some]
theorem z_gp {k : Nat} : ax_pi (zC n m p) 1 k (some 10) x = some (zC n (ax_u2 m 10 k x) p) := z_pi (by omega) rfl
end CALLS2
