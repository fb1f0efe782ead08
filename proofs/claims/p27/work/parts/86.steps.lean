/-! ===== the law: its end; what follows each step ===== -/
section FIN
variable {n N B i f t z : Nat} {m : Nat → Nat → Int32} {p : Nat → Nat} {V V1 : Nat → Nat → Int32} {C C' : zSt} {LT : Nat × (Nat → Nat)} {S S' : Nat → Option (Nat × (Nat → Nat → Int32))} {b : Nat → Nat → Bool} {K : Option Nat → Option Nat → Option Nat → Option Nat → Int32 → Int32 → Int32 → ax_S → Option (Int32 × ax_S)}
theorem zcl_idem : zcl (zcl C) = zcl C := by
  unfold zcl
  refine Prod.ext ?_ rfl
  funext k
  show va_up (va_up C.1 2 0) 2 0 k = va_up C.1 2 0 k
  by_cases h : k = 2
  · subst h
    rw [va_up_self, va_up_self]
  · rw [va_up_ne _ _ h]
theorem l_699 {L : Nat} {T : Nat → Nat} (h1 : zCls m p ((N, V), zcl C, (L, T), S)) (h3 : zAbs B ((N, V), zcl C, (L, T), S)) : ∃ m' p', fb_L_law_699 (some 9) (nI N) 1 (zC n m p) = some (1, zC n m' p') := by
  have hN := h3.1.1
  have hck := k_checksum (n := n) h1 h3
  obtain ⟨m1, p1, a1, -, a3, a4⟩ := k_save (n := n) h1 h3 (s := 1) (by omega)
  obtain ⟨m2, p2, b1, -, b3, b4⟩ := k_clear (n := n) a3 a4
  obtain ⟨m3, p3, c1, -, c3, c4⟩ := k_restore (n := n) b3 b4 (s := 1) (by omega) (va_up_self _ _ _)
  rw [zcl_idem, zcl_idem] at c3 c4
  have hck2 := k_checksum (n := n) c3 c4
  rw [show nI 1 = (1 : Int32) from rfl] at a1 c1
  refine ⟨m3, p3, ?_⟩
  unfold fb_L_law_699
  rw [z_gi9, Option.bind_some, hck, Option.bind_some]
  dsimp only
  rw [if_neg (by decide), z_gi9, Option.bind_some, a1, Option.bind_some]
  dsimp only
  rw [if_pos rfl, z_gi9, Option.bind_some, b1, Option.bind_some]
  dsimp only
  rw [if_pos rfl, z_gi9, Option.bind_some, c1, Option.bind_some]
  dsimp only
  rw [if_pos rfl, z_gi9, Option.bind_some, hck2, Option.bind_some]
  dsimp only
  rw [if_pos (lg_same _)]
theorem l_637 {L : Nat} {T : Nat → Nat} (h1 : zCls m p ((N, V), C, (L, T), S)) (h3 : zAbs B ((N, V), C, (L, T), S)) : ∃ m' p', fb_L_law_637 (some 9) (nI N) 1 (zC n m p) = some (1, zC n m' p') := by
  have hN := h3.1.1
  obtain ⟨m1, p1, a1, -, a3, a4⟩ := k_save (n := n) h1 h3 (s := 0) (by omega)
  obtain ⟨m2, p2, b1, -, b3, b4⟩ := k_clear (n := n) a3 a4
  have bn := k_nodes (n := n) b3
  have bc : fn_X9_count (some 9) 0 (zC n m2 p2) = some (nI 0, zC n m2 p2) := (k_count (n := n) b3 (q := 0) (by omega)).trans (by rw [show (zcl C).1 (zci 0) = 0 from va_up_self C.1 2 0])
  obtain ⟨m3, p3, c1, -, c3, c4⟩ := k_restore (n := n) b3 b4 (s := 0) (by omega) (va_up_self _ _ _)
  have cc : fn_X9_count (some 9) 0 (zC n m3 p3) = some (nI 0, zC n m3 p3) := (k_count (n := n) c3 (q := 0) (by omega)).trans (by rw [show (zcl (zcl C)).1 (zci 0) = 0 from va_up_self (zcl C).1 2 0])
  obtain ⟨m', p', e⟩ := l_699 (n := n) c3 c4
  rw [nI_0] at a1 c1 bn bc cc
  refine ⟨m', p', ?_⟩
  unfold fb_L_law_637
  rw [if_neg (by decide), z_gi9, Option.bind_some, a1, Option.bind_some]
  dsimp only
  rw [if_pos rfl, z_gi9, Option.bind_some, b1, Option.bind_some]
  dsimp only
  rw [if_pos rfl, z_gi9, Option.bind_some, bn, Option.bind_some]
  dsimp only
  rw [if_pos rfl, z_gi9, Option.bind_some, bc, Option.bind_some]
  dsimp only
  rw [if_pos rfl, z_gi9, Option.bind_some, c1, Option.bind_some]
  dsimp only
  rw [if_pos rfl, z_gi9, Option.bind_some, cc, Option.bind_some]
  dsimp only
  rw [if_pos rfl]
  exact e
theorem l_607 {L : Nat} {T : Nat → Nat} (h1 : zCls m p ((N, V), C, (L, T), S)) (h3 : zAbs B ((N, V), C, (L, T), S)) (hN : 1 ≤ N) (ht : t < 22) : fb_L_law_607 K (some 6) (some 9) (some 275) (some 276) (nI N) (nI t) (zC n m p) = K (some 6) (some 9) (some 275) (some 276) (nI N) 1 (nI (t + 1)) (zC n m p) := by
  have e624 : ∀ s, fb_L_law_624 K (some 6) (some 9) (some 275) (some 276) (nI N) (nI t) s = K (some 6) (some 9) (some 275) (some 276) (nI N) 1 (nI (t + 1)) s := fun s => by
    unfold fb_L_law_624
    rw [nI_1]
  unfold fb_L_law_607
  rw [if_neg (show ¬ (7 : Int32) = 0 by decide), Option.bind_some]
  split
  · exact e624 _
  · rw [l_refuses h1 h3 hN, Option.bind_some]
    dsimp only
    rw [if_neg (by decide)]
    exact e624 _
theorem s13 : (((13 : Int32) &&& 31).toBitVec.smod 32).toNat = 13 := by decide
theorem s11 : (((11 : Int32) &&& 31).toBitVec.smod 32).toNat = 11 := by decide
theorem s9 : (((9 : Int32) &&& 31).toBitVec.smod 32).toNat = 9 := by decide
theorem s7 : (((7 : Int32) &&& 31).toBitVec.smod 32).toNat = 7 := by decide
theorem s5 : (((5 : Int32) &&& 31).toBitVec.smod 32).toNat = 5 := by decide
theorem s3 : (((3 : Int32) &&& 31).toBitVec.smod 32).toNat = 3 := by decide
theorem s2 : (((2 : Int32) &&& 31).toBitVec.smod 32).toNat = 2 := by decide
theorem l_rem {s : Int32} {k d : Nat} (hz : z < 2 ^ 31) (hs : (s.toBitVec.smod 32).toNat = k) (h0 : 0 < d) (hd : d < 2 ^ 31) : (nI z >>> s) - (nI z >>> s) / nI d * nI d = nI (z / 2 ^ k % d) := by
  rw [pk_shrN hz s k hs]
  exact pk_rem (z_div_lt hz) h0 hd
/-- behind a step: all that is checked holds -/
theorem l_565 (h : zLw m p B N V C LT S) (hN : 1 ≤ N) (hN9 : N < 10) (ht : t < 22) (hz : z < 2 ^ 31) (hB : B + 8000 < 2 ^ 30) : ∃ m' p' C' S', fb_L_law_565 K (some 6) (some 9) (some 275) (some 276) (nI N) 1 (nI t) (nI z) (zC n m p) = K (some 6) (some 9) (some 275) (some 276) (nI N) 1 (nI (t + 1)) (zC n m' p') ∧ zLw m' p' (B + 8000) N V C' LT S' := by
  obtain ⟨L, T⟩ := LT
  have hs := l_sound (n := n) h.1 h.2.1 h.2.2.1 (by omega)
  have h14 : z / 2 ^ 13 % 14 < 14 := Nat.mod_lt _ (by omega)
  obtain ⟨m1, p1, C1, S1, e1, h1⟩ := l_same (n := n) (f := z / 2 ^ 13 % 14) (Y := z / 2 ^ 5) h hN9 (by omega) (z_div_lt hz) hB
  have e14 := l_rem (z := z) (s := (13 : Int32) &&& 31) (d := 14) hz s13 (by omega) (by omega)
  rw [show nI 14 = (14 : Int32) from rfl] at e14
  unfold fb_L_law_565
  rw [if_neg (by decide), hs, Option.bind_some]
  dsimp only
  rw [if_neg (by decide), if_neg (show ¬ (4 : Int32) = 0 by decide), Option.bind_some, if_neg (show ¬ (14 : Int32) = 0 by decide), Option.bind_some, e14, pk_shrN hz ((5 : Int32) &&& 31) 5 s5]
  split
  · exact ⟨m, p, C, S, l_607 h.1 h.2.1 hN ht, h.1, zAbs_mono h.2.1 (by omega), h.2.2⟩
  · rw [e1, Option.bind_some]
    dsimp only
    rw [if_neg (by decide)]
    exact ⟨m1, p1, C1, S1, l_607 h1.1 h1.2.1 hN ht, h1⟩
/-- a change of a node that leaves kinds alone -/
theorem zLw_gv {F : ax_S → Option (Int32 × ax_S)} (h : zLw m p B N V C LT S) (g : zgv n m p B F N V1 C b LT S) (hQ : ∀ kk, kk ≤ C.1 2 → zQV (zPix V1) (zvoid C b kk)) : ∃ e m1 p1 C1, e ≤ 48 ∧ F (zC n m p) = some (nI e, zC n m1 p1) ∧ zCls m1 p1 ((N, V1), C1, LT, S) ∧ zAbs (B + 100) ((N, V1), C1, LT, S) ∧ zQV (zPix V1) C1 ∧ m1 275 = m 275 ∧ m1 276 = m 276 := by
  obtain ⟨kk, k0, -, m1, p1, a1, a2, a3, a4⟩ := g
  have u3 : C.1 2 ≤ 48 := Nat.le_trans h.2.1.2.1.2.2.2.2.1 h.2.1.2.1.2.2.2.2.2.2
  exact ⟨C.1 2 - kk, m1, p1, _, by omega, a1, a3, a4, hQ kk k0, a2 275 (by omega), a2 276 (by omega)⟩
end FIN
