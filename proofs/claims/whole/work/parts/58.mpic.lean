/-! ===== the model asks: a picture is made ===== -/
section MMAKE
variable {n N f U0 x j w k t S : Nat} {m m0 : Nat → Nat → Int32} {p X Y c : Nat → Nat} {K : Nat → Nat → Nat} {W : Nat → Nat → Nat → Int32} {C : zSt} {V : Nat → Nat → Int32} {u : Nat → Nat → Int32}
theorem zs_96 {v : Int32} (hS : S < 48) (hj : j < 96) : ax_as (zC n m p) 9 (some 282) (96 * nI S + nI j) v = some (zC n (ax_u2 m 282 (96 * S + j) v) p) := by
  rw [z_96, z_s2 (by omega)]
theorem f_makes_lp (hOK : zOK N V) (hG : zGM m0 N V) (hx : x < N) (hS : S < 48) (hw : zwb (u 0)) (h0 : V x 0 = 0 → ∀ k, u 0 k = 0) (hs : ∀ m : Nat → Nat → Int32, (∀ a, a ≠ 282 → m a = m0 a) → (∀ q, q < 96 * S → m 282 q = m0 282 q) → zSeen n m p V x (nI f) u) : ∀ (d j fu : Nat) (m : Nat → Nat → Int32), j + d = 96 → d < fu → (∀ a, a ≠ 282 → m a = m0 a) → (∀ q, q < 96 * S → m 282 q = m0 282 q) →
    ∃ m', fb_X10_makes_42 fu (some 275) (nI x) (nI f) (nI S) (nI j) (zC n m p) = fn_X10_uses (some 275) (nI S) (zC n m' p) ∧ (∀ a, a ≠ 282 → m' a = m0 a) ∧ (∀ q, q < 96 * S → m' 282 q = m0 282 q) ∧ (∀ k, j ≤ k → k < 96 → m' 282 (96 * S + k) = zpc V x (nI f) u k) ∧ ∀ k, k < j → m' 282 (96 * S + k) = m 282 (96 * S + k) := by
  intro d
  induction d with
  | zero =>
    intro j fu m hj hfu ha hq
    obtain ⟨fu, rfl⟩ : ∃ k, fu = k + 1 := ⟨fu - 1, by omega⟩
    refine ⟨m, ?_, ha, hq, fun k h1 h2 => by omega, fun k _ => rfl⟩
    obtain rfl : j = 96 := by omega
    unfold fb_X10_makes_42
    rw [if_pos (show (96 : Int32) ≤ nI 96 by decide), z_mo 0, Option.bind_some]
    cases fn_X10_uses (some 275) (nI S) (zC n m p) <;> rfl
  | succ d ih =>
    intro j fu m hj hfu ha hq
    obtain ⟨fu, rfl⟩ : ∃ k, fu = k + 1 := ⟨fu - 1, by omega⟩
    have hGm : zGM m N V := zGM_fr hG (ha 276 (by omega))
    obtain ⟨m', e1, e2, e3, e4, e5⟩ := ih (j + 1) fu (ax_u2 m 282 (96 * S + j) (zpc V x (nI f) u j)) (by omega) (by omega) (fun a h => by rw [zu2_row h]; exact ha a h) (fun q h => by rw [ax_u2_nk (by omega)]; exact hq q h)
    refine ⟨m', ?_, e2, e3, fun k h1 h2 => ?_, fun k h1 => ?_⟩
    · unfold fb_X10_makes_42
      rw [if_neg (show ¬ (96 : Int32) ≤ nI j from nI_ge (b := 96) (by omega) (by omega)), z_m8, Option.bind_some, z_mo 0, Option.bind_some, f_made hGm hOK hx (hs m ha hq) hw h0 (show j < 96 by omega), Option.bind_some]
      dsimp only
      rw [zs_96 hS (by omega), Option.bind_some, nI_1]
      exact e1
    · by_cases hkj : k = j
      · subst hkj
        rw [e5 k (by omega), ax_u2_self]
      · exact e4 k (by omega) h2
    · rw [e5 k (by omega), ax_u2_nk (by omega)]
theorem zrm_1 (h : c 2 ≤ c 3) (h3 : 0 < c 3) : zrmC (c 2 - (c 3 - 1)) c = zroC c ∧ zrmK (c 2 - (c 3 - 1)) K = zroK c K := by
  by_cases hr : c 3 ≤ c 2
  · rw [show c 2 - (c 3 - 1) = 0 + 1 by omega]
    unfold zroC zroK
    rw [if_pos hr, if_pos hr]
    exact ⟨rfl, rfl⟩
  · rw [show c 2 - (c 3 - 1) = 0 by omega]
    unfold zroC zroK
    rw [if_neg hr, if_neg hr]
    exact ⟨rfl, rfl⟩
theorem zro_wt (K : Nat → Nat → Nat) : zroK (zWt c w) K = zroK c K ∧ (zroC (zWt c w)) 2 = zroC c 2 ∧ (zroC (zWt c w)) 1 = c 1 := by
  obtain ⟨a1, a2, a3, a5⟩ := zWt_c c w
  unfold zroK zroC
  rw [a2, a3]
  refine ⟨rfl, ?_, ?_⟩
  · split <;> simp [zdrC, zWt, va_up]
  · split <;> simp [zdrC, zWt, va_up]
theorem zadm_wt {v : Nat → Int32} : ∀ i, 1 ≤ i → i < 8 → zWt (zadm C x f v).1 w i = va_up (va_up (zroC (zWt C.1 (w + 1))) 2 (zroC C.1 2 + 1)) 1 (C.1 1 + 1) i := by
  intro i h1 h2
  have hc : i = 1 ∨ i = 2 ∨ i = 3 ∨ i = 4 ∨ i = 5 ∨ i = 6 ∨ i = 7 := by omega
  obtain ⟨a1, a2, a3, a5⟩ := zWt_c C.1 (w + 1)
  unfold zroC
  rw [a2, a3]
  by_cases hr : C.1 3 ≤ C.1 2
  · rw [if_pos hr, if_pos hr]
    rcases hc with rfl | rfl | rfl | rfl | rfl | rfl | rfl <;> simp [zadm, zadC, zroC, zdrC, zWt, va_up, hr] <;> omega
  · rw [if_neg hr, if_neg hr]
    rcases hc with rfl | rfl | rfl | rfl | rfl | rfl | rfl <;> simp [zadm, zadC, zroC, zdrC, zWt, va_up, hr] <;> omega
theorem f_mmakes (hOK : zOK N V) (hG : zGM m N V) (hx : x < N) (hf : f < 100) (hI : zI5 N f U0 C) (hb : C.1 1 + 1 < 2 ^ 31) (h : zMa m X Y C (w + 1)) (hk : C.2.1 x f = 0) (hin : ∀ i, i < 3 → (i = 0 ∨ zir V x (nI f)) → V x (3 + i) = -1005 ∨ ∃ y, y < N ∧ V x (3 + i) = nI y ∧ U0 < C.2.1 y f) :
    ∃ m' X' Y', fn_X10_makes (some 275) (nI x) (nI f) (zC n m p) = some (zC n m' p) ∧ zMa m' X' Y' (zadm C x f (zpc V x (nI f) (zw V C x f))) w ∧ zFm m m' := by
  have hN := hOK.1
  have hper := (zadm_ok (u := fun _ => 0) hI hN hx hf hk (fun k _ => ⟨0, by omega, rfl⟩)).2.2.1
  obtain ⟨⟨hU, hU0⟩, hkey, hfr, hE, hS, hR, hR2⟩ := hI
  obtain ⟨a1, a2, a3, a5⟩ := zWt_c C.1 (w + 1)
  obtain ⟨r1, r2, r3⟩ := zro_wt (c := C.1) (w := w + 1) C.2.1
  obtain ⟨q1, q3, q8, q2⟩ := zroC_1 C.1
  obtain ⟨g1, g2⟩ := zrm_1 (c := zWt C.1 (w + 1)) (K := C.2.1) (by omega) (by omega)
  obtain ⟨m1, X1, Y1, b1, b2, b3⟩ := f_makesRoom (n := n) (p := p) (r := C.1 3 - 1) (by omega) h (by omega) (by rw [a1]; exact hU)
  rw [show zWt C.1 (w + 1) 2 - (C.1 3 - 1) = zWt C.1 (w + 1) 2 - (zWt C.1 (w + 1) 3 - 1) by rw [a3], g1, g2, r1] at b2
  have hm3 : m 275 3 = nI (C.1 3) := by rw [← a3]; exact h.1.2.2
  obtain ⟨S, hSe⟩ : ∃ S, zroC C.1 2 = S := ⟨_, rfl⟩
  have hS48 : S < 48 := by
    rw [q2] at hSe
    split at hSe <;> omega
  obtain ⟨⟨k1, k2, k3⟩, ⟨d1, d2, d3, d4⟩, h48, hP⟩ := b2
  rw [r2, hSe] at hP k2
  rw [r3] at k1
  generalize hm2 : ax_u2 m1 279 S (nI x) = m2
  generalize hm4 : ax_u2 m2 280 S (nI f) = m4
  generalize hm5 : ax_u2 m4 275 4 (nI (S + 1)) = m5
  have e2 : ∀ a, a ≠ 279 → m2 a = m1 a := fun a ha => by rw [← hm2]; exact zu2_row ha
  have e4 : ∀ a, a ≠ 280 → m4 a = m2 a := fun a ha => by rw [← hm4]; exact zu2_row ha
  have e5 : ∀ a, a ≠ 275 → m5 a = m4 a := fun a ha => by rw [← hm5]; exact zu2_row ha
  have e57 : ∀ k, k ≠ 4 → m5 275 k = m1 275 k := fun k hk => by rw [← hm5, ax_u2_nk hk, e4 _ (by omega), e2 _ (by omega)]
  have eo : ∀ a, a ≠ 275 → a ≠ 279 → a ≠ 280 → m5 a = m1 a := fun a h1 h2 h3 => by rw [e5 a h1, e4 a h3, e2 a h2]
  have h279 : ∀ i, m5 279 i = if i = S then nI x else m1 279 i := fun i => by
    rw [e5 _ (by omega), e4 _ (by omega), ← hm2]
    by_cases hi : i = S
    · subst hi; rw [ax_u2_self, if_pos rfl]
    · rw [ax_u2_nk hi, if_neg hi]
  have h280 : ∀ i, m5 280 i = if i = S then nI f else m1 280 i := fun i => by
    rw [e5 _ (by omega), ← hm4]
    by_cases hi : i = S
    · subst hi; rw [ax_u2_self, if_pos rfl]
    · rw [ax_u2_nk hi, if_neg hi, e2 _ (by omega)]
  have hG1 : zGM m1 N V := zGM_fr hG (b3.1 276 (by omega))
  have hG5 : zGM m5 N V := zGM_fr hG1 (eo 276 (by omega) (by omega) (by omega))
  have hwz : zwb (zw V C x f 0) := by
    unfold zw
    rcases hin 0 (by omega) (Or.inl rfl) with hn | ⟨y, hy, hv, hyu⟩
    · rw [if_pos hn]; exact fun k _ => ⟨0, by omega, rfl⟩
    · rw [hv, if_neg (nI_ne_none (by omega)), nI_clamp (by omega)]
      exact (hkey y f (by omega)).2.2
  have hz0 : V x 0 = 0 → ∀ k, zw V C x f 0 k = 0 := by
    intro hv k
    obtain ⟨kd, hkd, hve, hno, -⟩ := (hOK.2.1 x hx).1
    have : kd = 0 := nI_inj (b := 0) (by omega) (by omega) (hve.symm.trans hv)
    subst this
    unfold zw
    rw [if_pos (hno 0 (by omega) (by decide))]
  have hseen : ∀ mm : Nat → Nat → Int32, (∀ a, a ≠ 282 → mm a = m5 a) → (∀ q, q < 96 * S → mm 282 q = m5 282 q) → zSeen n mm p V x (nI f) (zw V C x f) := by
    intro mm ha hq i k hi hr hk
    have hGm : zGM mm N V := zGM_fr hG5 (ha 276 (by omega))
    rcases hin i hi hr with hn | ⟨y, hy, hv, hyu⟩
    · rw [f_seen0 hGm hN hx hi hn]
      unfold zw
      rw [if_pos hn]
    · obtain ⟨t, ht, rfl, hYt⟩ := hP.2.2 y f (hper y hyu)
      have hrows : ∀ j, j < va_up (fun _ => 0) 2 (S + 1) 2 → mm 279 j = nI (va_up X1 S x j) ∧ mm 280 j = nI (va_up Y1 S f j) ∧ va_up X1 S x j < 12 ∧ va_up Y1 S f j < 100 := by
        intro j hj
        rw [va_up_self] at hj
        rw [ha _ (by omega), ha _ (by omega), h279, h280]
        by_cases hjS : j = S
        · subst hjS
          rw [if_pos rfl, if_pos rfl, va_up_self, va_up_self]
          exact ⟨rfl, rfl, by omega, hf⟩
        · rw [if_neg hjS, if_neg hjS, va_up_ne _ _ hjS, va_up_ne _ _ hjS]
          obtain ⟨z1, z2, z3, z4, -⟩ := hP.1 j (by omega)
          exact ⟨z3, z4, z1, z2⟩
      have hfd := f_mfind_yes (n := n) (p := p) (m := mm) (X := va_up X1 S x) (Y := va_up Y1 S f) (c := va_up (fun _ => 0) 2 (S + 1)) (by rw [ha _ (by omega), ← hm5, ax_u2_self, va_up_self]) (by rw [va_up_self]; omega) hrows (t := t) (by rw [va_up_self]; omega) (fun i hi he => by
        rw [va_up_ne (j := i) _ _ (by omega), va_up_ne (j := i) _ _ (by omega), va_up_ne (j := t) _ _ (by omega), va_up_ne (j := t) _ _ (by omega)] at he
        have := hP.2.1 i t (by omega) ht he.1 he.2
        omega) t 0 10000 (by omega) (by omega)
      rw [va_up_ne (j := t) _ _ (by omega), va_up_ne (j := t) _ _ (by omega), hYt] at hfd
      rw [f_seen1 hGm hN hx hi hy hv (by omega) hk hfd, hq _ (by omega), eo _ (by omega) (by omega) (by omega)]
      have hval : m1 282 (96 * t + k) = C.2.2 (X1 t) (Y1 t) k := (hP.1 t ht).2.2.2.2.2.2.2 k hk
      rw [hval, hYt]
      unfold zw
      rw [hv, if_neg (nI_ne_none (by omega)), nI_clamp (by omega)]
  obtain ⟨m6, f1, f2, f3, f4, -⟩ := f_makes_lp (n := n) (p := p) (f := f) hOK hG5 hx hS48 hwz hz0 hseen 96 0 10000 m5 rfl (by omega) (fun _ _ => rfl) (fun _ _ => rfl)
  generalize hm7 : ax_u2 m6 275 9 (nI (C.1 1 + 1)) = m7
  generalize hm8 : ax_u2 m7 281 S (nI (C.1 1 + 1)) = m8
  have e7 : ∀ a, a ≠ 275 → m7 a = m6 a := fun a ha => by rw [← hm7]; exact zu2_row ha
  have e8 : ∀ a, a ≠ 281 → m8 a = m7 a := fun a ha => by rw [← hm8]; exact zu2_row ha
  have e75 : ∀ k, k ≠ 9 → m8 275 k = m5 275 k := fun k hk => by rw [e8 _ (by omega), ← hm7, ax_u2_nk hk, f2 _ (by omega)]
  have hfin : fn_X10_makes (some 275) (nI x) (nI f) (zC n m p) = some (zC n m8 p) := by
    unfold fn_X10_makes
    rw [z_m1, hm3, Option.bind_some, z_mo 0, Option.bind_some, show nI (C.1 3) - 1 = nI (C.1 3 - 1) from nI_sub (b := 1) (by omega), b1, Option.bind_some, z_m1, k2, Option.bind_some, z_m5, Option.bind_some, z_s9 hS48, hm2, Option.bind_some, z_m6, Option.bind_some, z_s0 hS48, hm4, Option.bind_some, z_m1, e4 _ (by omega), e2 _ (by omega), k2, Option.bind_some, nI_1, z_m2, hm5, Option.bind_some]
    rw [nI_0] at f1
    rw [f1]
    unfold fn_X10_uses
    have h9 : m6 275 9 = nI (C.1 1) := by rw [f2 _ (by omega), e57 _ (by omega)]; exact k1
    rw [z_m1, h9, Option.bind_some, nI_1, z_m2, hm7, Option.bind_some, z_m7, Option.bind_some, z_m1, ← hm7, ax_u2_self, hm7, Option.bind_some, z_s1 hS48, hm8, Option.bind_some]
  refine ⟨m8, va_up X1 S x, va_up Y1 S f, hfin, ?_, ⟨fun a ha => ?_, fun k g1 g2 g3 => ?_⟩⟩
  · refine zMX_cc (c := va_up (va_up (zroC (zWt C.1 (w + 1))) 2 (zroC C.1 2 + 1)) 1 (C.1 1 + 1)) ⟨⟨?_, ?_, ?_⟩, ⟨?_, ?_, ?_, ?_⟩, ?_, ?_⟩ zadm_wt
    · rw [e8 _ (by omega), ← hm7, ax_u2_self, va_up_self]
    · rw [e75 _ (by omega), ← hm5, ax_u2_self, va_up_ne _ _ (by omega), va_up_self, hSe]
    · rw [e75 _ (by omega), e57 _ (by omega), va_up_ne _ _ (by omega), va_up_ne _ _ (by omega)]; exact k3
    · rw [e8 _ (by omega), e7 _ (by omega), f2 _ (by omega), eo _ (by omega) (by omega) (by omega), va_up_ne _ _ (by omega), va_up_ne _ _ (by omega)]; exact d1
    · rw [e8 _ (by omega), e7 _ (by omega), f2 _ (by omega), eo _ (by omega) (by omega) (by omega), va_up_ne _ _ (by omega), va_up_ne _ _ (by omega)]; exact d2
    · rw [e8 _ (by omega), e7 _ (by omega), f2 _ (by omega), eo _ (by omega) (by omega) (by omega), va_up_ne _ _ (by omega), va_up_ne _ _ (by omega)]; exact d3
    · rw [e8 _ (by omega), e7 _ (by omega), f2 _ (by omega), eo _ (by omega) (by omega) (by omega), va_up_ne _ _ (by omega), va_up_ne _ _ (by omega)]; exact d4
    · rw [va_up_ne _ _ (by omega), va_up_self]; omega
    · rw [va_up_ne (j := 2) _ _ (by omega), va_up_self, hSe]
      have hK0 : zroK C.1 C.2.1 x f = 0 := by
        by_cases hz : zroK C.1 C.2.1 x f = 0
        · exact hz
        · rw [zroK_ne hz]; exact hk
      have hT0 : ax_u2 (fun _ _ => 0 : Nat → Nat → Nat) x f 0 = fun _ _ => 0 := by
        funext a b
        unfold ax_u2
        split <;> rfl
      suffices hz : zP (va_up X1 S x) (va_up Y1 S f) (S + 1) (zmF m8) (zmV m8) (fun _ => 0) (ax_u2 (zroK C.1 C.2.1) x f (C.1 1 + 1)) (ax_u2 C.2.2 x f (zpc V x (nI f) (zw V C x f))) (ax_u2 (fun _ _ => 0) x f 0) by
        rw [hT0] at hz
        exact hz
      refine zP_add (u := C.1 1 + 1) hP hK0 (by omega) hf (by omega) (fun v i hv hi => ?_) (fun i k hi hk => ?_) (fun i hi => rfl) ?_ ?_ ?_ rfl (fun k hk => ?_)
      · show m8 (279 + v) i = m1 (279 + v) i
        have hv3 : v = 0 ∨ v = 1 ∨ v = 2 := by omega
        rcases hv3 with rfl | rfl | rfl
        · rw [e8 _ (by omega), e7 _ (by omega), f2 _ (by omega), h279, if_neg (by omega)]
        · rw [e8 _ (by omega), e7 _ (by omega), f2 _ (by omega), h280, if_neg (by omega)]
        · rw [← hm8, ax_u2_nk (by omega), e7 _ (by omega), f2 _ (by omega), eo _ (by omega) (by omega) (by omega)]
      · show m8 282 (96 * i + k) = m1 282 (96 * i + k)
        rw [e8 _ (by omega), e7 _ (by omega), f3 _ (by omega), eo _ (by omega) (by omega) (by omega)]
      · show m8 279 S = nI x
        rw [e8 _ (by omega), e7 _ (by omega), f2 _ (by omega), h279, if_pos rfl]
      · show m8 280 S = nI f
        rw [e8 _ (by omega), e7 _ (by omega), f2 _ (by omega), h280, if_pos rfl]
      · show m8 281 S = nI (C.1 1 + 1)
        rw [← hm8, ax_u2_self]
      · show m8 282 (96 * S + k) = _
        rw [e8 _ (by omega), e7 _ (by omega)]
        exact f4 k (by omega) hk
  · rw [e8 _ (by omega), e7 _ (by omega), f2 _ (by omega), eo _ (by omega) (by omega) (by omega)]
    exact b3.1 a ha
  · rw [e75 _ (by omega), e57 _ g2]
    exact b3.2 k g1 g2 g3
end MMAKE
