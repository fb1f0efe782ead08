/-! ===== the model asks: hit, miss, what is seen ===== -/
def zWt (c : Nat → Nat) (w : Nat) : Nat → Nat := va_up c 5 (c 5 + w)
def zMa (m : Nat → Nat → Int32) (X Y : Nat → Nat) (C : zSt) (w : Nat) : Prop := zMX m X Y (zWt C.1 w) C.2.1 C.2.2
/-- what asking leaves alone -/
def zFp (m m' : Nat → Nat → Int32) : Prop := (∀ a, a < 275 ∨ (275 < a ∧ a < 279) ∨ (283 < a ∧ a < 288) ∨ 289 < a → m' a = m a) ∧ ∀ k, k ≠ 3 → k ≠ 4 → k ≠ 9 → k ≠ 18 → m' 275 k = m 275 k
theorem zFp_rf {m : Nat → Nat → Int32} : zFp m m := ⟨fun _ _ => rfl, fun _ _ _ _ _ => rfl⟩
theorem zFp_tr {m1 m2 m3 : Nat → Nat → Int32} (h1 : zFp m1 m2) (h2 : zFp m2 m3) : zFp m1 m3 := ⟨fun a ha => (h2.1 a ha).trans (h1.1 a ha), fun k a b c d => (h2.2 k a b c d).trans (h1.2 k a b c d)⟩
theorem zFp_fm {m m' : Nat → Nat → Int32} (h : zFm m m') : zFp m m' := ⟨fun a ha => h.1 a (by omega), fun k a b c _ => h.2 k a b c⟩
theorem zGM_fp {m m' : Nat → Nat → Int32} {N : Nat} {V : Nat → Nat → Int32} (h : zGM m N V) (hf : zFp m m') : zGM m' N V := zGM_fr h (hf.1 276 (by omega))
theorem zMT_fp {m m' : Nat → Nat → Int32} (h : zMT m) (hf : zFp m m') : zMT m' := fun k hk => by rw [hf.1 285 (by omega), hf.1 286 (by omega)]; exact h k hk
theorem zWt_c (c : Nat → Nat) (w : Nat) : zWt c w 1 = c 1 ∧ zWt c w 2 = c 2 ∧ zWt c w 3 = c 3 ∧ zWt c w 5 = c 5 + w := by simp [zWt, va_up]
section MASK
variable {n N f U0 x j w k t : Nat} {m m' : Nat → Nat → Int32} {p X Y c c' : Nat → Nat} {K : Nat → Nat → Nat} {W : Nat → Nat → Nat → Int32} {C : zSt} {V : Nat → Nat → Int32}
theorem zMX_cc (h : zMX m X Y c K W) (hc : ∀ i, 1 ≤ i → i < 8 → c' i = c i) : zMX m X Y c' K W := by
  obtain ⟨⟨c1, c2, c3⟩, ⟨d1, d2, d3, d4⟩, h48, hP⟩ := h
  refine ⟨⟨?_, ?_, ?_⟩, ⟨?_, ?_, ?_, ?_⟩, ?_, ?_⟩
  · rw [hc 1 (by omega) (by omega)]; exact c1
  · rw [hc 2 (by omega) (by omega)]; exact c2
  · rw [hc 3 (by omega) (by omega)]; exact c3
  · rw [hc 4 (by omega) (by omega)]; exact d1
  · rw [hc 5 (by omega) (by omega)]; exact d2
  · rw [hc 6 (by omega) (by omega)]; exact d3
  · rw [hc 7 (by omega) (by omega)]; exact d4
  · rw [hc 2 (by omega) (by omega)]; exact h48
  · rw [hc 2 (by omega) (by omega)]; exact hP
theorem zMX_fr (h : zMX m X Y c K W) (hf : ∀ a, 279 ≤ a → a ≤ 283 → m' a = m a) (hg : ∀ k, k = 3 ∨ k = 4 ∨ k = 9 → m' 275 k = m 275 k) : zMX m' X Y c K W := by
  obtain ⟨⟨c1, c2, c3⟩, ⟨d1, d2, d3, d4⟩, h48, hP⟩ := h
  refine ⟨⟨?_, ?_, ?_⟩, ⟨?_, ?_, ?_, ?_⟩, h48, ?_⟩
  · rw [hg 9 (by omega)]; exact c1
  · rw [hg 4 (by omega)]; exact c2
  · rw [hg 3 (by omega)]; exact c3
  · rw [hf 283 (by omega) (by omega)]; exact d1
  · rw [hf 283 (by omega) (by omega)]; exact d2
  · rw [hf 283 (by omega) (by omega)]; exact d3
  · rw [hf 283 (by omega) (by omega)]; exact d4
  · exact zP_congr hP (fun v i hv hi => by show m' (279 + v) i = m (279 + v) i; rw [hf _ (by omega) (by omega)]) (fun i k hi hk => by show m' 282 _ = m 282 _; rw [hf _ (by omega) (by omega)]) (fun i hi => rfl)
/-- where a kept picture is -/
theorem f_mfindK (h : zMX m X Y c K W) {x y : Nat} (hk : K x y ≠ 0) : ∃ t, t < c 2 ∧ X t = x ∧ Y t = y ∧ fn_X10_find (some 275) (nI x) (nI y) (zC n m p) = some (nI t, zC n m p) ∧ ∀ k, k < 96 → m 282 (96 * t + k) = W x y k := by
  obtain ⟨t, ht, rfl, rfl⟩ := h.2.2.2.2.2 x y hk
  exact ⟨t, ht, rfl, rfl, f_mfind1 h ht, (h.2.2.2.1 t ht).2.2.2.2.2.2.2⟩
theorem f_masks_hit (h : zMX m X Y c K W) {x y : Nat} (hk : K x y ≠ 0) : ∃ m', fn_X10_asks (some 275) (nI x) (nI y) (zC n m p) = some (zC n m' p) ∧ zMX m' X Y (zhtC c) (ax_u2 K x y (c 1 + 1)) W ∧ zFm m m' := by
  obtain ⟨t, ht, hx, hy, e1, -⟩ := f_mfindK (n := n) (p := p) h hk
  have h48 := h.2.2.1
  have h1 := zMX_r (i := 4) (v := c 4 + 1) h (by omega) (by omega)
  have u1 : va_up c 4 (c 4 + 1) 1 = c 1 := va_up_ne _ _ (by omega)
  have u2 : va_up c 4 (c 4 + 1) 2 = c 2 := va_up_ne _ _ (by omega)
  obtain ⟨m2, a1, a2, a3⟩ := f_muses (n := n) (p := p) h1 (j := t) (by rw [u2]; exact ht)
  rw [u1, hx, hy] at a2
  refine ⟨m2, ?_, a2, ⟨fun a ha => by rw [a3.1 a ha]; exact zu2_row (by omega), fun k k1 k2 k3 => by rw [a3.2 k k1 k2 k3]; exact congrFun (zu2_row (by omega)) k⟩⟩
  have d1 := h.2.1.1
  unfold fn_X10_asks
  rw [z_mo 0, Option.bind_some, e1, Option.bind_some]
  dsimp only
  rw [if_neg (nI_pos (by omega)), z_m10, Option.bind_some, show (1 : Int32) = nI 1 from rfl, z_a3 (by omega), d1, Option.bind_some, z_s3 (by omega), nI_add, Option.bind_some, z_mo 0, Option.bind_some]
  rw [show ax_u2 m 283 1 (nI (c 4 + 1)) = ax_u2 m 283 (4 - 3) (nI (c 4 + 1)) from rfl, a1, Option.bind_some]
theorem z_m16 : ax_gr (zC n m p) 7 16 (some 275) = some (some 288) := z_gr (by omega) rfl
theorem z_m17 : ax_gr (zC n m p) 7 17 (some 275) = some (some 289) := z_gr (by omega) rfl
theorem z_m13 : ax_gr (zC n m p) 7 13 (some 275) = some (some 285) := z_gr (by omega) rfl
theorem z_a8 (hj : j < 13) : ax_al (zC n m p) 9 (some 288) (nI j) = some (m 288 j) := z_al (by omega) rfl (by exact hj) (by omega)
theorem z_a89 (hj : j < 13) : ax_al (zC n m p) 9 (some 289) (nI j) = some (m 289 j) := z_al (by omega) rfl (by exact hj) (by omega)
theorem z_s8 {v : Int32} (hj : j < 13) : ax_as (zC n m p) 9 (some 288) (nI j) v = some (zC n (ax_u2 m 288 j v) p) := z_as (by omega) (by omega) rfl (by exact hj) (by omega)
theorem z_s89 {v : Int32} (hj : j < 13) : ax_as (zC n m p) 9 (some 289) (nI j) v = some (zC n (ax_u2 m 289 j v) p) := z_as (by omega) (by omega) rfl (by exact hj) (by omega)
/-- the pile above place w -/
def zBel (w : Nat) (m m' : Nat → Nat → Int32) : Prop := ∀ i, i < w → m' 288 i = m 288 i ∧ m' 289 i = m 289 i
theorem zBel_tr {m1 m2 m3 : Nat → Nat → Int32} (h1 : zBel w m1 m2) (h2 : zBel w m2 m3) : zBel w m1 m3 := fun i hi => ⟨(h2 i hi).1.trans (h1 i hi).1, (h2 i hi).2.trans (h1 i hi).2⟩
theorem zBel_le {v : Nat} (h : zBel w m m') (hv : v ≤ w) : zBel v m m' := fun i hi => h i (by omega)
theorem zBel_fm (h : zFm m m') : zBel w m m' := fun i _ => by rw [h.1 288 (by omega), h.1 289 (by omega)]; exact ⟨rfl, rfl⟩
theorem f_masks_miss (h : zMX m X Y c K W) {x y : Nat} (hx : x < 2 ^ 31) (hy : y < 2 ^ 31) (hk : K x y = 0) (hw : w < 13) (h18 : m 275 18 = nI w) : ∃ m', fn_X10_asks (some 275) (nI x) (nI y) (zC n m p) = some (zC n m' p) ∧ zMX m' X Y (va_up c 5 (c 5 + 1)) K W ∧ zFp m m' ∧ zBel w m m' ∧ m' 275 18 = nI (w + 1) ∧ m' 288 w = nI x ∧ m' 289 w = 0 := by
  have h1 := zMX_r (i := 5) (v := c 5 + 1) h (by omega) (by omega)
  have d2 := h.2.1.2.1
  have e0 := f_mfind0 (n := n) (p := p) h hx hy hk
  have hh : ax_u2 m 283 (5 - 3) (nI (c 5 + 1)) = ax_u2 m 283 2 (nI (c 5 + 1)) := rfl
  rw [hh] at h1
  generalize hm1 : ax_u2 m 283 2 (nI (c 5 + 1)) = m1 at h1
  generalize hm2 : ax_u2 m1 288 w (nI x) = m2
  generalize hm3 : ax_u2 m2 289 w 0 = m3
  generalize hm4 : ax_u2 m3 275 18 (nI (w + 1)) = m4
  have e1 : ∀ a, a ≠ 283 → m1 a = m a := fun a ha => by rw [← hm1]; exact zu2_row ha
  have e2 : ∀ a, a ≠ 288 → m2 a = m1 a := fun a ha => by rw [← hm2]; exact zu2_row ha
  have e3 : ∀ a, a ≠ 289 → m3 a = m2 a := fun a ha => by rw [← hm3]; exact zu2_row ha
  have e4 : ∀ a, a ≠ 275 → m4 a = m3 a := fun a ha => by rw [← hm4]; exact zu2_row ha
  have e5 : ∀ k, k ≠ 18 → m4 275 k = m 275 k := fun k hk => by rw [← hm4, ax_u2_nk hk, e3 _ (by omega), e2 _ (by omega), e1 _ (by omega)]
  refine ⟨m4, ?_, zMX_fr h1 (fun a b c => by rw [e4 a (by omega), e3 a (by omega), e2 a (by omega)]) (fun k hk => by rw [e5 k (by omega), e1 _ (by omega)]), ⟨fun a ha => by rw [e4 a (by omega), e3 a (by omega), e2 a (by omega), e1 a (by omega)], fun k _ _ _ k4 => e5 k k4⟩, fun i hi => ⟨?_, ?_⟩, ?_, ?_, ?_⟩
  · unfold fn_X10_asks
    rw [z_mo 0, Option.bind_some, e0, Option.bind_some]
    dsimp only
    rw [if_pos (by decide), z_m10, Option.bind_some, show (2 : Int32) = nI 2 from rfl, z_a3 (by omega), d2, Option.bind_some, z_s3 (by omega), nI_1, hm1, Option.bind_some]
    rw [z_m16, Option.bind_some, z_m1, e1 _ (by omega), h18, Option.bind_some, z_s8 hw, hm2, Option.bind_some]
    rw [z_m17, Option.bind_some, z_m1, e2 _ (by omega), e1 _ (by omega), h18, Option.bind_some, z_s89 hw, hm3, Option.bind_some]
    rw [z_m1, e3 _ (by omega), e2 _ (by omega), e1 _ (by omega), h18, Option.bind_some, nI_1, z_m2, hm4, Option.bind_some]
  · rw [e4 _ (by omega), e3 _ (by omega), ← hm2, ax_u2_nk (by omega), e1 _ (by omega)]
  · rw [e4 _ (by omega), ← hm3, ax_u2_nk (by omega), e2 _ (by omega), e1 _ (by omega)]
  · rw [← hm4, ax_u2_self]
  · rw [e4 _ (by omega), e3 _ (by omega), ← hm2, ax_u2_self]
  · rw [e4 _ (by omega), ← hm3, ax_u2_self]
/-- what is seen of an input -/
theorem f_seen0 {i : Nat} {fr kk : Int32} (hG : zGM m N V) (hN : N ≤ 12) (hx : x < N) (hi : i < 3) (hv : V x (3 + i) = -1005) : fn_X10_seen (some 275) (nI x) (nI i) fr kk (zC n m p) = some (0, zC n m p) := by
  have hz : zI V x i = -1005 := hv
  unfold fn_X10_seen fn_X10_at
  rw [z_mr, show zR p 275 0 = some 276 from rfl, Option.bind_some, Option.bind_some]
  dsimp only
  rw [z_vin hG hN hx hi, hz, Option.bind_some, if_neg (by decide)]
theorem f_seen1 {i y t : Nat} {fr : Int32} (hG : zGM m N V) (hN : N ≤ 12) (hx : x < N) (hi : i < 3) (hy : y < N) (hv : V x (3 + i) = nI y) (ht : t < 48) (hk : k < 96) (hfd : fn_X10_find (some 275) (nI y) fr (zC n m p) = some (nI t, zC n m p)) : fn_X10_seen (some 275) (nI x) (nI i) fr (nI k) (zC n m p) = some (m 282 (96 * t + k), zC n m p) := by
  have hz : zI V x i = nI y := hv
  unfold fn_X10_seen fn_X10_at
  rw [z_mr, show zR p 275 0 = some 276 from rfl, Option.bind_some, Option.bind_some]
  dsimp only
  rw [z_vin hG hN hx hi, hz, Option.bind_some, if_pos (z_pos (by omega)), z_m8, Option.bind_some, z_mo 0, Option.bind_some, hfd, Option.bind_some]
  dsimp only
  rw [z_96, z_a2 (by omega), Option.bind_some]
end MASK
