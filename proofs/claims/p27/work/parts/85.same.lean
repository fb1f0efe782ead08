/-! ===== the law: a picture from the cache is like one made anew ===== -/
section SAME
variable {n N B i f : Nat} {m : Nat → Nat → Int32} {p : Nat → Nat} {V : Nat → Nat → Int32} {C C' : zSt} {LT : Nat × (Nat → Nat)} {S S' : Nat → Option (Nat × (Nat → Nat → Int32))}
theorem zLw_go {α : Type} {F : ax_S → Option (α × ax_S)} {r : α} (h : zLw m p B N V C LT S) (g : zgo n m p B F r ((N, V), C', LT, S')) (hQ : zQV (zPix V) C') : ∃ m1 p1, F (zC n m p) = some (r, zC n m1 p1) ∧ zLw m1 p1 (B + 100) N V C' LT S' := by
  obtain ⟨m1, p1, a1, a2, a3, a4⟩ := g
  exact ⟨m1, p1, a1, a3, a4, hQ, fun i hi => by rw [a2 275 (by omega)]; exact h.2.2.2.1 i hi, fun i k hi hk => by rw [a2 276 (by omega)]; exact h.2.2.2.2 i k hi hk⟩
theorem zPix_b (h3 : zAbs B ((N, V), C, LT, S)) (hQ : zQV (zPix V) C) (hi : i < N) (hf : f < 100) : zwb (zPix V i f) := by
  have hI : zI5 N f (C.1 1) C := zI5_f h3.2.1
  obtain ⟨b1, -, b3, -⟩ := zask_b h3.1 hi hf hI
  rw [← zask_pic h3.1 hi hf hI hQ]
  exact (b1.2.1 i f (by omega)).2.2
theorem w_kept (h : zLw m p B N V C LT S) (hi : i < N) (hf : f < 100) : (zask V f 12 i C).2.1 i f ≠ 0 := by
  obtain ⟨-, -, b3, -⟩ := zask_b h.2.1.1 hi hf (zI5_f (f' := f) h.2.1.2.1)
  omega
theorem w_Q (h : zLw m p B N V C LT S) (hi : i < N) (hf : f < 100) : zQV (zPix V) (zask V f 12 i C) := zQV_ask12 h.2.1.1 hi hf (zI5_f (f' := f) h.2.1.2.1) h.2.2.1
theorem w_value (h : zLw m p B N V C LT S) (hB : B < 2 ^ 30) (hi : i < N) (hf : f < 100) {a b d : Nat} (ha : a < 8) (hb : b < 4) (hd : d < 3) : ∃ m1 p1, fn_X9_value (some 9) (nI i) (nI f) (nI a) (nI b) (nI d) (zC n m p) = some (zPix V i f (d * 32 + b * 8 + a), zC n m1 p1) ∧ zLw m1 p1 (B + 100) N V (zask V f 12 i C) LT S := by
  have g := k_value (n := n) h.1 h.2.1 hB hi hf ha hb hd
  rw [zask_pic h.2.1.1 hi hf (zI5_f h.2.1.2.1) h.2.2.1] at g
  exact zLw_go h g (w_Q h hi hf)
theorem w_sum (h : zLw m p B N V C LT S) (hB : B < 2 ^ 30) (hi : i < N) (hf : f < 100) {d : Nat} (hd : d < 3) : ∃ m1 p1, fn_X9_sum (some 9) (nI i) (nI f) (nI d) 2 (zC n m p) = some (zfo zgT (zPix V i f) (d * 32) 32 0 0, zC n m1 p1) ∧ zLw m1 p1 (B + 100) N V (zask V f 12 i C) LT S := by
  have g := k_sum (n := n) h.1 h.2.1 hB hi hf hd
  rw [zask_pic h.2.1.1 hi hf (zI5_f h.2.1.2.1) h.2.2.1] at g
  exact zLw_go h g (w_Q h hi hf)
theorem w_compare (h : zLw m p B N V C LT S) (hB : B < 2 ^ 30) {o : Nat} (hi : i < N) (ho : o < N) (hf : f < 100) : ∃ m1 p1, fn_X9_compare (some 9) (nI i) (nI o) (nI f) (zC n m p) = some (zgd (zPix V i f) (zPix V o f) 96 0 0, zC n m1 p1) ∧ zLw m1 p1 (B + 100) N V (zask V f 12 o (zask V f 12 i C)) LT S := by
  have g := k_compare (n := n) h.1 h.2.1 hB hi ho hf
  have hI : zI5 N f (C.1 1) C := zI5_f h.2.1.2.1
  obtain ⟨b1, -, -, -⟩ := zask_b h.2.1.1 hi hf hI
  rw [zask_pic h.2.1.1 hi hf hI h.2.2.1, zask_pic h.2.1.1 ho hf b1 (w_Q h hi hf)] at g
  exact zLw_go h g (zQV_ask12 h.2.1.1 ho hf b1 (w_Q h hi hf))
theorem w_save (h : zLw m p B N V C LT S) {s : Nat} (hs : s < 2) : ∃ m1 p1, fn_X9_save (some 9) (nI s) (zC n m p) = some (nI N, zC n m1 p1) ∧ zLw m1 p1 (B + 100) N V C LT (va_up S s (some (N, V))) := zLw_go h (k_save (n := n) h.1 h.2.1 hs) h.2.2.1
theorem w_restore (h : zLw m p B N V C LT S) {s : Nat} (hs : s < 2) (hS : S s = some (N, V)) : ∃ m1 p1, fn_X9_restore (some 9) (nI s) (zC n m p) = some (nI N, zC n m1 p1) ∧ zLw m1 p1 (B + 100) N V (zcl C) LT S := zLw_go h (k_restore (n := n) h.1 h.2.1 hs hS) (zQV_cl h.2.2.1)
theorem w_count (h : zLw m p B N V C LT S) {q : Nat} (hq : q < 5) : fn_X9_count (some 9) (nI q) (zC n m p) = some (nI (C.1 (zci q)), zC n m p) := k_count (n := n) h.1 hq
theorem w_isCached (h : zLw m p B N V C LT S) (hi : i < N) (hf : f < 100) : fn_X9_isCached (some 9) (nI i) (nI f) (zC n m p) = some (zkb C.2.1 i f, zC n m p) := k_isCached (n := n) h.1 hi hf
theorem z_smod : ∀ i, i < 32 → ((nI i &&& 31).toBitVec.smod 32).toNat = i := by decide +kernel
theorem z_shr {Y i : Nat} (hY : Y < 2 ^ 31) (hi : i < 32) : nI Y >>> (nI i &&& 31) = nI (Y / 2 ^ i) := pk_shrN hY _ i (z_smod i hi)
theorem z_div_lt {Y i : Nat} (hY : Y < 2 ^ 31) : Y / 2 ^ i < 2 ^ 31 := Nat.lt_of_le_of_lt (Nat.div_le_self _ _) hY
theorem z_256 {v : Nat} (h : v ≤ 255) : ¬ (256 : Int32) ≤ nI v := by
  rw [show (256 : Int32) = nI 256 by decide +kernel]
  exact nI_ge (by omega) (by omega)
theorem l_s6 {Y : Nat} (hN : N < 10) (hf : f < 100) (hY : Y < 2 ^ 31) : ∀ (d i fu : Nat) (m : Nat → Nat → Int32) (p : Nat → Nat) (B : Nat) (C : zSt) (S : Nat → Option (Nat × (Nat → Nat → Int32))), i + d = N → d < fu → zLw m p B N V C LT S → B + 800 * d < 2 ^ 30 → ∃ m' p' C' S', fb_L_same_6 fu (some 9) (nI N) (nI f) (nI Y) 1 (nI i) (zC n m p) = some (1, zC n m' p') ∧ zLw m' p' (B + 800 * d) N V C' LT S' := by
  intro d
  induction d with
  | zero =>
    intro i fu m p B C S hi hfu h hB
    obtain ⟨fu, rfl⟩ : ∃ k, fu = k + 1 := ⟨fu - 1, by omega⟩
    refine ⟨m, p, C, S, ?_, h⟩
    unfold fb_L_same_6
    rw [if_pos (nI_le (by omega) (by omega))]
  | succ d ih =>
    intro i fu m p B C S hi hfu h hB
    obtain ⟨fu, rfl⟩ : ∃ k, fu = k + 1 := ⟨fu - 1, by omega⟩
    have hiN : i < N := by omega
    have ea : (nI Y >>> (nI i &&& 31)) - (nI Y >>> (nI i &&& 31)) / 8 * 8 = nI (Y / 2 ^ i % 8) := by
      rw [z_shr hY (by omega)]
      exact pk_rem (d := 8) (z_div_lt hY) (by omega) (by omega)
    have eb : (nI Y >>> ((nI i + 3) &&& 31)) - (nI Y >>> ((nI i + 3) &&& 31)) / 4 * 4 = nI (Y / 2 ^ (i + 3) % 4) := by
      rw [show nI i + 3 = nI (i + 3) from nI_add i 3, z_shr hY (by omega)]
      exact pk_rem (d := 4) (z_div_lt hY) (by omega) (by omega)
    have ed : (nI Y >>> ((nI i + 5) &&& 31)) - (nI Y >>> ((nI i + 5) &&& 31)) / 3 * 3 = nI (Y / 2 ^ (i + 5) % 3) := by
      rw [show nI i + 5 = nI (i + 5) from nI_add i 5, z_shr hY (by omega)]
      exact pk_rem (d := 3) (z_div_lt hY) (by omega) (by omega)
    have ha : Y / 2 ^ i % 8 < 8 := Nat.mod_lt _ (by omega)
    have hb : Y / 2 ^ (i + 3) % 4 < 4 := Nat.mod_lt _ (by omega)
    have hd : Y / 2 ^ (i + 5) % 3 < 3 := Nat.mod_lt _ (by omega)
    generalize Y / 2 ^ i % 8 = a at ea ha
    generalize Y / 2 ^ (i + 3) % 4 = b at eb hb
    generalize Y / 2 ^ (i + 5) % 3 = c at ed hd
    have hbd : zwb (zPix V i f) := zPix_b h.2.1 h.2.2.1 hiN hf
    obtain ⟨v, hv, ev⟩ := hbd (c * 32 + b * 8 + a) (by omega)
    -- asked, counted, asked again
    obtain ⟨m1, p1, e1, h1⟩ := w_value (n := n) h (by omega) hiN hf ha hb hd
    generalize hb1 : B + 100 = B1 at h1
    have k1 := w_kept h hiN hf
    obtain ⟨m2, p2, e2, h2⟩ := w_sum (n := n) h1 (by omega) hiN hf hd
    generalize hb2 : B1 + 100 = B2 at h2
    rw [zask_again k1] at h2
    generalize zask V f 12 i C = C1 at k1 h1 h2
    have k2 : (zhit C1 i f).2.1 i f ≠ 0 := by
      have := zask_again (V := V) k1
      have hw := w_kept h1 hiN hf
      rw [this] at hw
      exact hw
    obtain ⟨m3, p3, e3, h3⟩ := w_value (n := n) h2 (by omega) hiN hf ha hb hd
    generalize hb3 : B2 + 100 = B3 at h3
    rw [zask_again k2] at h3
    have c2 : fn_X9_count (some 9) 2 (zC n m2 p2) = some (nI ((zhit C1 i f).1 5), zC n m2 p2) := w_count h2 (q := 2) (by omega)
    have c3 : fn_X9_count (some 9) 2 (zC n m3 p3) = some (nI ((zhit C1 i f).1 5), zC n m3 p3) := (w_count h3 (q := 2) (by omega)).trans (by rw [show zci 2 = 5 from rfl, zhit_cs.2.2.2.1])
    have k3 : (zhit (zhit C1 i f) i f).2.1 i f ≠ 0 := by
      have hw := w_kept h2 hiN hf
      rw [zask_again k2] at hw
      exact hw
    have q3 : fn_X9_isCached (some 9) (nI i) (nI f) (zC n m3 p3) = some (1, zC n m3 p3) := (w_isCached h3 hiN hf).trans (by unfold zkb; rw [if_neg k3])
    generalize zhit (zhit C1 i f) i f = C3 at h3 k3
    -- saved, restored, asked anew
    obtain ⟨m4, p4, e4, h4⟩ := w_save (n := n) h3 (s := 1) (by omega)
    generalize hb4 : B3 + 100 = B4 at h4
    obtain ⟨m5, p5, e5, h5⟩ := w_restore (n := n) h4 (s := 1) (by omega) (va_up_self _ _ _)
    generalize hb5 : B4 + 100 = B5 at h5
    have c5 : fn_X9_count (some 9) 0 (zC n m5 p5) = some (0, zC n m5 p5) := (w_count h5 (q := 0) (by omega)).trans (by rw [show (zcl C3).1 (zci 0) = 0 from va_up_self C3.1 2 0, nI_0])
    have q5 : fn_X9_isCached (some 9) (nI i) (nI f) (zC n m5 p5) = some (0, zC n m5 p5) := (w_isCached h5 hiN hf).trans (by rw [show zkb (zcl C3).2.1 i f = 0 from if_pos rfl])
    obtain ⟨m6, p6, e6, h6⟩ := w_value (n := n) h5 (by omega) hiN hf ha hb hd
    generalize hb6 : B5 + 100 = B6 at h6
    obtain ⟨m7, p7, e7, h7⟩ := w_sum (n := n) h6 (by omega) hiN hf hd
    generalize hb7 : B6 + 100 = B7 at h7
    obtain ⟨m8, p8, e8, h8⟩ := w_compare (n := n) h7 (by omega) hiN hiN hf
    generalize hb8 : B7 + 100 = B8 at h8
    rw [zgd_self] at e8
    obtain ⟨m', p', C', S', r1, r2⟩ := ih (i + 1) fu m8 p8 _ _ _ (by omega) (by omega) h8 (by omega)
    refine ⟨m', p', C', S', ?_, by rw [show B + 800 * (d + 1) = B8 + 800 * d by omega]; exact r2⟩
    rw [show nI 1 = (1 : Int32) from rfl] at e4 e5
    unfold fb_L_same_6 ax_bd
    rw [if_neg (nI_ge hiN (by omega)), if_neg (by decide), ea, eb, ed]
    dsimp only
    rw [z_gi9, Option.bind_some, e1, Option.bind_some]
    dsimp only
    rw [z_gi9, Option.bind_some, e2, Option.bind_some]
    dsimp only
    rw [z_gi9, Option.bind_some, c2, Option.bind_some]
    dsimp only
    rw [ev] at e3 e6 ⊢
    rw [if_neg (nI_pos (by omega)), if_neg (z_256 hv), z_gi9, Option.bind_some, e3, Option.bind_some]
    dsimp only
    rw [if_pos rfl, z_gi9, Option.bind_some, c3, Option.bind_some]
    dsimp only
    rw [if_pos rfl, z_gi9, Option.bind_some, q3, Option.bind_some]
    dsimp only
    rw [if_pos rfl]
    unfold fb_L_same_137
    rw [if_neg (by decide), z_gi9, Option.bind_some, e4, Option.bind_some]
    dsimp only
    rw [if_pos rfl, z_gi9, Option.bind_some, e5, Option.bind_some]
    dsimp only
    rw [if_pos rfl, z_gi9, Option.bind_some, c5, Option.bind_some]
    dsimp only
    rw [if_pos rfl, z_gi9, Option.bind_some, q5, Option.bind_some]
    dsimp only
    rw [if_pos rfl, z_gi9, Option.bind_some, e6, Option.bind_some]
    dsimp only
    rw [if_pos rfl, z_gi9, Option.bind_some, e7, Option.bind_some]
    dsimp only
    rw [if_pos rfl, z_gi9, Option.bind_some, e8, Option.bind_some]
    dsimp only
    rw [if_pos rfl, nI_1]
    exact r1
theorem l_same {Y : Nat} (h : zLw m p B N V C LT S) (hN : N < 10) (hf : f < 100) (hY : Y < 2 ^ 31) (hB : B + 8000 < 2 ^ 30) : ∃ m' p' C' S', fn_L_same (some 9) (nI N) (nI f) (nI Y) (zC n m p) = some (1, zC n m' p') ∧ zLw m' p' (B + 8000) N V C' LT S' := by
  obtain ⟨m', p', C', S', r1, r2⟩ := l_s6 (n := n) hN hf hY N 0 10000 m p B C S (by omega) (by omega) h (by omega)
  rw [nI_0] at r1
  refine ⟨m', p', C', S', ?_, r2.1, zAbs_mono r2.2.1 (by omega), r2.2.2⟩
  unfold fn_L_same fi_L_same
  exact (congrArg ax_bz r1).trans zbz1
end SAME
