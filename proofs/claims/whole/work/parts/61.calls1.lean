/-! ===== calls: count, isCached, clear, setRoom, text, addNode ===== -/
theorem zWt_0 (c : Nat → Nat) : zWt c 0 = c := by
  funext i
  unfold zWt
  by_cases h : i = 5
  · subst h
    rw [va_up_self]
    rfl
  · rw [va_up_ne _ _ h]
section CALLS2
variable {n N L B : Nat} {m m' : Nat → Nat → Int32} {p X Y c T : Nat → Nat} {V : Nat → Nat → Int32} {C : zSt} {E K : Nat → Nat → Nat} {W : Nat → Nat → Nat → Int32} {x y : Int32} {S : Nat → Option (Nat × (Nat → Nat → Int32))}
theorem zMa_0 : zMa m X Y C 0 ↔ zMX m X Y C.1 C.2.1 C.2.2 := by
  unfold zMa
  rw [zWt_0]
def zci (k : Nat) : Nat := if k = 0 then 2 else k + 3
theorem f_count9 (h : zCX m p X Y c K W E) {k : Nat} (hk : k < 5) : fn_X9_count (some 9) (nI k) (zC n m p) = some (nI (c (zci k)), zC n m p) := by
  have hcc := h.2.1
  have hc : k = 0 ∨ k = 1 ∨ k = 2 ∨ k = 3 ∨ k = 4 := by omega
  unfold fn_X9_count
  rcases hc with rfl | rfl | rfl | rfl | rfl
  · rw [if_pos (by decide), z_cr, show zR p 9 1 = some 51 from rfl, Option.bind_some, z_c1, hcc 2 (by omega) (by omega), Option.bind_some]
    rfl
  · rw [if_neg (by decide), if_pos (by decide), z_cr, show zR p 9 1 = some 51 from rfl, Option.bind_some, z_c1, hcc 4 (by omega) (by omega), Option.bind_some]
    rfl
  · rw [if_neg (by decide), if_neg (by decide), if_pos (by decide), z_cr, show zR p 9 1 = some 51 from rfl, Option.bind_some, z_c1, hcc 5 (by omega) (by omega), Option.bind_some]
    rfl
  · rw [if_neg (by decide), if_neg (by decide), if_neg (by decide), if_pos (by decide), z_cr, show zR p 9 1 = some 51 from rfl, Option.bind_some, z_c1, hcc 6 (by omega) (by omega), Option.bind_some]
    rfl
  · rw [if_neg (by decide), if_neg (by decide), if_neg (by decide), if_neg (by decide), if_pos (by decide), z_cr, show zR p 9 1 = some 51 from rfl, Option.bind_some, z_c1, hcc 7 (by omega) (by omega), Option.bind_some]
    rfl
theorem f_countOf (h : zMX m X Y c K W) {k : Nat} (hk : k < 5) : fn_X10_countOf (some 275) (nI k) (zC n m p) = some (nI (c (zci k)), zC n m p) := by
  obtain ⟨⟨c1, c2, c3⟩, ⟨d1, d2, d3, d4⟩, h48, hP⟩ := h
  have hc : k = 0 ∨ k = 1 ∨ k = 2 ∨ k = 3 ∨ k = 4 := by omega
  unfold fn_X10_countOf
  rcases hc with rfl | rfl | rfl | rfl | rfl
  · rw [if_pos (by decide), z_m1, c2, Option.bind_some]
    rfl
  · rw [if_neg (by decide), z_m10, Option.bind_some, z_a3 (by omega), d1, Option.bind_some]
    rfl
  · rw [if_neg (by decide), z_m10, Option.bind_some, z_a3 (by omega), d2, Option.bind_some]
    rfl
  · rw [if_neg (by decide), z_m10, Option.bind_some, z_a3 (by omega), d3, Option.bind_some]
    rfl
  · rw [if_neg (by decide), z_m10, Option.bind_some, z_a3 (by omega), d4, Option.bind_some]
    rfl
theorem c_count : zop n (fn_X9_count (some 9) x) (fn_X10_count (some 275) x) := zop_q (fun m p A B h1 h2 h3 => by
  obtain ⟨⟨N, V⟩, C, ⟨L, T⟩, S⟩ := A
  obtain ⟨-, X, Y, E, hc⟩ := h1
  obtain ⟨-, X', Y', hm⟩ := h2
  rw [zMa_0] at hm
  by_cases hx : 0 ≤ x ∧ x ≤ 4
  · obtain ⟨k, hk, rfl⟩ := z_in (N := 4) (by omega) hx.1 hx.2
    refine ⟨_, m, f_count9 hc (by omega), ?_, fun _ _ => rfl⟩
    unfold fn_X10_count
    rw [f_in, zB_t hx, Option.bind_some]
    dsimp only
    rw [if_neg (by decide), z_mo 0, Option.bind_some, f_countOf hm (by omega), Option.bind_some]
  · refine ⟨-1001, m, ?_, ?_, fun _ _ => rfl⟩
    · have hne : ∀ k : Nat, k ≤ 4 → x ≠ nI k := fun k hk e => hx (by rw [e]; exact ⟨z_pos (by omega), nI_le (b := 4) hk (by omega)⟩)
      unfold fn_X9_count
      rw [if_neg (show ¬ x = (0 : Int32) from hne 0 (by omega)), if_neg (show ¬ x = (1 : Int32) from hne 1 (by omega)), if_neg (show ¬ x = (2 : Int32) from hne 2 (by omega)), if_neg (show ¬ x = (3 : Int32) from hne 3 (by omega)), if_neg (show ¬ x = (4 : Int32) from hne 4 (by omega))]
    · unfold fn_X10_count
      rw [f_in, zB_f hx, Option.bind_some]
      dsimp only
      rw [if_pos rfl])
theorem f_isPicture (h : m 276 0 = nI N) : fn_X10_isPicture (some 275) x y (zC n m p) = some (zB ((0 ≤ x ∧ x ≤ nI N - 1) ∧ (0 ≤ y ∧ y ≤ 99)), zC n m p) := by
  unfold fn_X10_isPicture fi_X10_isPicture
  rw [z_mo 0, Option.bind_some, f_mNode h, Option.bind_some]
  by_cases h1 : 0 ≤ x ∧ x ≤ nI N - 1
  · rw [zB_t h1]
    dsimp only
    rw [if_neg (by decide), f_in, Option.bind_some]
    by_cases h2 : 0 ≤ y ∧ y ≤ 99
    · rw [zB_t h2]
      dsimp only
      rw [if_neg (by decide), zB_t ⟨h1, h2⟩, zbz1]
    · rw [zB_f h2]
      dsimp only
      rw [if_pos rfl, zB_f (fun q => h2 q.2), zbz0]
  · rw [zB_f h1]
    dsimp only
    rw [if_pos rfl, zB_f (fun q => h1 q.1), zbz0]
def zkb (K : Nat → Nat → Nat) (i g : Nat) : Int32 := if K i g = 0 then 0 else 1
theorem f_isCached9 (hN : N ≤ 12) (hm : m 10 1 = nI N) (h : zCX m p X Y c K W E) {i g : Nat} (hi : i < N) (hg : g < 100) : fn_X9_isCached (some 9) (nI i) (nI g) (zC n m p) = some (zkb K i g, zC n m p) := by
  unfold fn_X9_isCached
  rw [z_cr, show zR p 9 0 = some 10 from rfl, Option.bind_some, z_gs, Option.bind_some, f_has z10 hm, zB_t ⟨z_pos (by omega), z_le_pred (by omega) hi⟩, Option.bind_some]
  dsimp only
  rw [if_neg (by decide), f_isFrame, zB_t ⟨z_pos (by omega), nI_le (b := 99) (by omega) (by omega)⟩, Option.bind_some]
  dsimp only
  rw [if_neg (by decide), z_cr, show zR p 9 1 = some 51 from rfl, Option.bind_some, z_cs, Option.bind_some]
  unfold zkb
  by_cases hk : K i g = 0
  · rw [f_find0 h (by omega) (by omega) hk, Option.bind_some]
    dsimp only
    rw [if_pos rfl, if_pos hk]
  · rw [f_find1 h hk, Option.bind_some]
    dsimp only
    rw [if_neg (by simp), if_neg hk]
theorem f_mfindkb (h : zMX m X Y c K W) {i g : Nat} (hi : i < 12) (hg : g < 100) : ∃ v : Int32, fn_X10_find (some 275) (nI i) (nI g) (zC n m p) = some (v, zC n m p) ∧ (if 0 ≤ v then (1 : Int32) else 0) = zkb K i g ∧ (0 ≤ v ↔ K i g ≠ 0) := by
  unfold zkb
  by_cases hk : K i g = 0
  · exact ⟨-1, f_mfind0 h (by omega) (by omega) hk, by rw [if_pos hk]; decide, fun q => absurd q (by decide), fun q => absurd hk q⟩
  · obtain ⟨t, ht, -, -, e, -⟩ := f_mfindK (n := n) (p := p) h hk
    have h48 := h.2.2.1
    exact ⟨nI t, e, by rw [if_neg hk, if_pos (z_pos (by omega))], fun _ => hk, fun _ => z_pos (by omega)⟩
theorem c_isCached : zop n (fn_X9_isCached (some 9) x y) (fn_X10_isCached (some 275) x y) := zop_q (fun m p A B h1 h2 h3 => by
  obtain ⟨⟨N, V⟩, C, ⟨L, T⟩, S⟩ := A
  obtain ⟨h10, X, Y, E, hc⟩ := h1
  obtain ⟨h20, X', Y', hm⟩ := h2
  rw [zMa_0] at hm
  have hN := h10.2.1.1
  have hg := h10.2.1.2.1.1
  have hgm := h20.2.1.1
  by_cases hx : 0 ≤ x ∧ x ≤ nI N - 1
  · obtain ⟨i, hi, rfl⟩ := z_inlt (by omega) hx.1 hx.2
    by_cases hy : 0 ≤ y ∧ y ≤ 99
    · obtain ⟨g, hg2, rfl⟩ := z_in (N := 99) (by omega) hy.1 hy.2
      obtain ⟨v, v1, v2, -⟩ := f_mfindkb (n := n) (p := p) hm (show i < 12 by omega) (show g < 100 by omega)
      refine ⟨_, m, f_isCached9 hN hg hc hi (by omega), ?_, fun _ _ => rfl⟩
      unfold fn_X10_isCached
      rw [z_mo 0, Option.bind_some, f_isPicture hgm, zB_t ⟨hx, hy⟩, Option.bind_some]
      dsimp only
      rw [if_neg (by decide), z_mo 0, Option.bind_some, v1, Option.bind_some]
      dsimp only
      rw [← v2]
      split <;> rfl
    · refine ⟨-1001, m, ?_, ?_, fun _ _ => rfl⟩
      · unfold fn_X9_isCached
        rw [z_cr, show zR p 9 0 = some 10 from rfl, Option.bind_some, z_gs, Option.bind_some, f_has z10 hg, zB_t hx, Option.bind_some]
        dsimp only
        rw [if_neg (by decide), f_isFrame, zB_f hy, Option.bind_some]
        dsimp only
        rw [if_pos rfl]
      · unfold fn_X10_isCached
        rw [z_mo 0, Option.bind_some, f_isPicture hgm, zB_f (fun q => hy q.2), Option.bind_some]
        dsimp only
        rw [if_pos rfl]
  · refine ⟨-1001, m, ?_, ?_, fun _ _ => rfl⟩
    · unfold fn_X9_isCached
      rw [z_cr, show zR p 9 0 = some 10 from rfl, Option.bind_some, z_gs, Option.bind_some, f_has z10 hg, zB_f hx, Option.bind_some]
      dsimp only
      rw [if_pos rfl]
    · unfold fn_X10_isCached
      rw [z_mo 0, Option.bind_some, f_isPicture hgm, zB_f (fun q => hx q.1), Option.bind_some]
      dsimp only
      rw [if_pos rfl])
/-! the parts of the state, changed -/
theorem zCls0_g {N' : Nat} {V' : Nat → Nat → Int32} (h : zCls0 m N V L T S) (hf : ∀ a, a < 9 ∨ (149 ≤ a ∧ a < 275) → m' a = m a) (hN : N' ≤ 12) (hG : zGC m' 10 N' V') (hO : zOC m' 10 N' V') : zCls0 m' N' V' L T S := by
  obtain ⟨hT, -, hB, ⟨t1, t2⟩, hS⟩ := h
  exact ⟨fun a j ha => by rw [hf a (by omega)]; exact hT a j ha, ⟨hN, hG, hO⟩, fun k hk => by rw [hf _ (by omega)]; exact hB k hk, ⟨by rw [hf _ (by omega)]; exact t1, fun j hj => by rw [hf _ (by omega)]; exact t2 j hj⟩, fun s hs => zSlC_cg hs (hS s hs) ⟨hf _ (by omega), fun a h1 h2 => hf a (by omega)⟩⟩
theorem zMdl0_g {N' : Nat} {V' : Nat → Nat → Int32} (h : zMdl0 m N V L T S) (hf : ∀ a, (276 < a ∧ a < 279) ∨ 284 ≤ a ∧ a < 287 → m' a = m a) (hg : m' 275 12 = m 275 12) (hG : zGM m' N' V') : zMdl0 m' N' V' L T S := by
  obtain ⟨hT, -, ⟨t1, t2⟩, hS⟩ := h
  exact ⟨fun k hk => by rw [hf 285 (by omega), hf 286 (by omega)]; exact hT k hk, hG, ⟨by rw [hg]; exact t1, fun j hj => by rw [hf 284 (by omega)]; exact t2 j hj⟩, fun s hs => zSlM_cg (hS s hs) ⟨hf 277 (by omega), hf 278 (by omega)⟩⟩
theorem zP_0 {f v : Nat → Nat → Int32} {e : Nat → Nat} : zP X Y 0 f v e (fun _ _ => 0) W E := ⟨fun j hj => by omega, fun i j hi => by omega, fun x y h => absurd rfl h⟩
theorem zI5_0 {f : Nat} (h1 : 12 ≤ c 3) (h2 : c 3 ≤ 48) (h0 : c 2 = 0) : zI5 N f (c 1) (c, fun _ _ => 0, W) := ⟨⟨⟨fun _ _ => Nat.zero_le _, fun _ _ _ _ h => absurd rfl h⟩, Nat.le_refl _⟩, fun y g h => absurd rfl h, fun y g h => by have h' : c 1 < 0 := h; omega, by
  show zE (c 2) _
  rw [h0]
  exact ⟨fun _ => 0, fun _ => 0, fun _ _ => 0, fun _ _ => 0, fun _ => 0, fun _ _ _ => 0, fun _ _ => 0, zP_0⟩, by show c 2 ≤ c 3; omega, h1, h2⟩
/-- the cache is emptied -/
def zcl (C : zSt) : zSt := (va_up C.1 2 0, fun _ _ => 0, C.2.2)
theorem zCa_cl (h : zCa m p X Y C E) : zCa (ax_u2 m 51 2 0) p X Y (zcl C) E := by
  obtain ⟨hp, hc, h48, hP⟩ := h
  refine ⟨hp, fun i a b => ?_, ?_, ?_⟩
  · show ax_u2 m 51 2 0 51 i = nI (va_up C.1 2 0 i)
    by_cases hi : i = 2
    · subst hi
      rw [ax_u2_self, va_up_self]
      exact nI_0.symm
    · rw [ax_u2_nk hi, va_up_ne _ _ hi]
      exact hc i a b
  · show va_up C.1 2 0 2 ≤ 48
    rw [va_up_self]
    omega
  · show zP X Y (va_up C.1 2 0 2) _ _ p _ _ E
    rw [va_up_self]
    exact zP_0
theorem zMa_cl (h : zMa m X Y C 0) : zMa (ax_u2 m 275 4 0) X Y (zcl C) 0 := by
  rw [zMa_0] at h ⊢
  obtain ⟨⟨c1, c2, c3⟩, ⟨d1, d2, d3, d4⟩, h48, hP⟩ := h
  have u : ∀ k, k ≠ 2 → (zcl C).1 k = C.1 k := fun k hk => va_up_ne C.1 0 hk
  have u2 : (zcl C).1 2 = 0 := va_up_self C.1 2 0
  have r : ∀ a, a ≠ 275 → ax_u2 m 275 4 0 a = m a := fun a ha => zu2_row ha
  refine ⟨⟨?_, ?_, ?_⟩, ⟨?_, ?_, ?_, ?_⟩, ?_, ?_⟩
  · rw [ax_u2_nk (by omega), u _ (by omega)]; exact c1
  · rw [ax_u2_self, u2]; exact nI_0.symm
  · rw [ax_u2_nk (by omega), u _ (by omega)]; exact c3
  · rw [r _ (by omega), u _ (by omega)]; exact d1
  · rw [r _ (by omega), u _ (by omega)]; exact d2
  · rw [r _ (by omega), u _ (by omega)]; exact d3
  · rw [r _ (by omega), u _ (by omega)]; exact d4
  · rw [u2]; omega
  · rw [u2]; exact zP_0
theorem zI5_cl {U : Nat} {N' : Nat} (h : zI5 N 0 U C) : zI5 N' 0 ((zcl C).1 1) (zcl C) := by
  obtain ⟨-, -, -, -, -, h1, h2⟩ := h
  have u : ∀ k, k ≠ 2 → (zcl C).1 k = C.1 k := fun k hk => va_up_ne C.1 0 hk
  exact zI5_0 (c := (zcl C).1) (by rw [u _ (by omega)]; exact h1) (by rw [u _ (by omega)]; exact h2) (va_up_self C.1 2 0)
theorem zcl_1 : (zcl C).1 1 = C.1 1 := va_up_ne C.1 0 (show (1 : Nat) ≠ 2 by omega)
theorem f_empty : fn_X0_empty (some 51) (zC n m p) = some (zC n (ax_u2 m 51 2 0) p) := by
  unfold fn_X0_empty
  rw [z_c2, Option.bind_some]
theorem z_gp {k : Nat} : ax_pi (zC n m p) 1 k (some 10) x = some (zC n (ax_u2 m 10 k x) p) := z_pi (by omega) rfl
theorem z_v0 : ax_al (zC n m p) 9 (some 276) 0 = some (m 276 0) := z_v (j := 0) (by omega)
theorem z_vs0 : ax_as (zC n m p) 9 (some 276) 0 x = some (zC n (ax_u2 m 276 0 x) p) := z_vs (j := 0) (by omega)
theorem z_m0 : ax_gr (zC n m p) 7 0 (some 275) = some (some 276) := z_mr
theorem c_clear : zop n (fn_X9_clear (some 9)) (fn_X10_clear (some 275)) := zop_mk (fun m p A B h1 h2 h3 hB => by
  obtain ⟨⟨N, V⟩, C, ⟨L, T⟩, S⟩ := A
  obtain ⟨h10, X, Y, E, hc⟩ := h1
  obtain ⟨a1, a2, a3, a4, a5, a6⟩ := h3
  refine ⟨nI N, ((0, V), zcl C, (L, T), S), ⟨ax_u2 (ax_u2 m 10 1 0) 51 2 0, p, ?_, fun a ha => by rw [zu2_row (by omega), zu2_row (by omega)], ?_, X, Y, E, zCa_cl (zCX_fr hc (fun a h1 h2 => zu2_row (by omega)))⟩, fun m p h2 => ?_, ⟨by omega, fun i hi => by omega, fun _ => 0, fun i j k hi => by omega⟩, zI5_cl a2, by rw [zcl_1]; omega, a4, a5, a6⟩
  · unfold fn_X9_clear fn_X1_removeAll
    rw [z_cr, show zR p 9 0 = some 10 from rfl, Option.bind_some, z_g1, h10.2.1.2.1.1, Option.bind_some, Option.bind_some, z_gs, Option.bind_some, z_gp, Option.bind_some, Option.bind_some, z_cr, show zR p 9 1 = some 51 from rfl, Option.bind_some, z_cs, Option.bind_some, f_empty, Option.bind_some]
  · refine zCls0_g h10 (fun a ha => by rw [zu2_row (by omega), zu2_row (by omega)]) (by omega) ⟨?_, fun i w hi => by omega, fun i k hi => by omega, fun i q hi => by omega⟩ ⟨fun t ht => by omega, fun _ => 0, fun i hi => by omega, fun i hi => by omega, fun i hi => by omega⟩
    rw [zu2_row (by omega), ax_u2_self]
    exact nI_0.symm
  · obtain ⟨h20, X', Y', hm⟩ := h2
    refine ⟨ax_u2 (ax_u2 m 276 0 0) 275 4 0, ?_, fun a ha => by rw [zu2_row (by omega), zu2_row (by omega)], ?_, X', Y', zMa_cl (zMX_fr hm (fun a _ _ => zu2_row (by omega)) (fun k _ => by rw [zu2_row (by omega)]))⟩
    · unfold fn_X10_clear
      rw [z_m0, Option.bind_some, z_v0, h20.2.1.1, Option.bind_some, Option.bind_some, z_vs0, Option.bind_some, z_m2, Option.bind_some]
    · refine zMdl0_g h20 (fun a ha => by rw [zu2_row (by omega), zu2_row (by omega)]) (by rw [ax_u2_nk (by omega), zu2_row (by omega)]) ⟨?_, fun i w hi => by omega, fun i k q hi => by omega⟩
      rw [zu2_row (by omega), ax_u2_self]
      exact nI_0.symm)
end CALLS2
