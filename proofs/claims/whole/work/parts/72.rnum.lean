/-! ===== the class reads: expect, digits, numbers ===== -/
section RNUM
variable {n L N P F k i : Nat} {m m' : Nat → Nat → Int32} {p T : Nat → Nat} {c fl hi x : Int32}
theorem f_exp0 (hE : zEv m L T) (h : zRd m N P F 0) (hP : P < 2 ^ 31) (hc : zch T L P = c) : fn_X6_expect (some 149) c (zC n m p) = some (zC n (ax_u2 m 149 5 (nI (P + 1))) p) := by
  unfold fn_X6_expect
  rw [z_rd, h.2.2.2, Option.bind_some, if_pos rfl, z_rr, show zR p 149 0 = some 150 from rfl, Option.bind_some, z_rd, h.2.2.1, Option.bind_some, z_tsh, Option.bind_some, f_chr hE hP, Option.bind_some]
  dsimp only
  rw [if_pos hc, z_rd, h.2.2.1, Option.bind_some, nI_1, z_rp, Option.bind_some]
theorem f_exp1 (hE : zEv m L T) (h : zRd m N P F 0) (hP : P < 2 ^ 31) (hc : zch T L P ≠ c) : fn_X6_expect (some 149) c (zC n m p) = some (zC n (ax_u2 m 149 6 1) p) := by
  unfold fn_X6_expect
  rw [z_rd, h.2.2.2, Option.bind_some, if_pos rfl, z_rr, show zR p 149 0 = some 150 from rfl, Option.bind_some, z_rd, h.2.2.1, Option.bind_some, z_tsh, Option.bind_some, f_chr hE hP, Option.bind_some]
  dsimp only
  rw [if_neg hc, z_rp, Option.bind_some]
theorem f_expF (h : zRd m N P F 1) : fn_X6_expect (some 149) c (zC n m p) = some (zC n (ax_u2 m 149 6 1) p) := by
  unfold fn_X6_expect
  rw [z_rd, h.2.2.2, Option.bind_some, if_neg (by decide), z_rp, Option.bind_some]
/-- one round of readDigits -/
theorem f_dig {f j : Nat} {v : Int32} (hE : zEv m L T) (h : zRd m N P F fl) (hP : P < 2 ^ 31) (hj : j < 3) : fb_X6_readDigits_4 (f + 1) (some 149) v (nI j) (zC n m p) = if (48 ≤ zch T L P ∧ zch T L P ≤ 57) ∧ (j = 0 ∨ v ≠ 0) then fb_X6_readDigits_4 f (some 149) (v * 10 + zch T L P - 48) (nI (j + 1)) (zC n (ax_u2 m 149 5 (nI (P + 1))) p) else some (v, zC n m p) := by
  conv => lhs; unfold fb_X6_readDigits_4 fb_X6_readDigits_33 fb_X6_readDigits_34
  rw [if_neg (show ¬ (3 : Int32) ≤ nI j from nI_ge (b := 3) (by omega) (by omega)), z_rr, show zR p 149 0 = some 150 from rfl, Option.bind_some, z_rd, h.2.2.1, Option.bind_some, z_tsh, Option.bind_some, f_chr hE hP, Option.bind_some, nI_1]
  unfold ax_bd
  dsimp only
  by_cases hj0 : j = 0
  · subst hj0
    rw [if_pos (show nI 0 ≤ 0 by decide), f_isIn]
    by_cases hd : 48 ≤ zch T L P ∧ zch T L P ≤ 57
    · refine Eq.trans ?_ (if_pos ⟨hd, Or.inl rfl⟩).symm
      rw [zB_t hd, Option.bind_some]
      dsimp only
      rw [if_neg (by decide), if_pos rfl, z_rd, h.2.2.1, Option.bind_some, nI_1, z_rp, Option.bind_some]
    · refine Eq.trans ?_ (if_neg (fun q => hd q.1)).symm
      rw [zB_f hd, Option.bind_some]
      dsimp only
      rw [if_pos rfl]
  · rw [if_neg (nI_nle (by omega) (by omega))]
    by_cases hv : v = 0
    · refine Eq.trans ?_ (if_neg (fun q => by rcases q.2 with q | q; exact hj0 q; exact q hv)).symm
      rw [if_pos hv, f_isIn, Option.bind_some]
      dsimp only
      rw [if_neg (show ¬ (1 : Int32) = 0 by decide)]
      split <;> rfl
    · rw [if_neg hv, f_isIn]
      by_cases hd : 48 ≤ zch T L P ∧ zch T L P ≤ 57
      · refine Eq.trans ?_ (if_pos ⟨hd, Or.inr hv⟩).symm
        rw [zB_t hd, Option.bind_some]
        dsimp only
        rw [if_neg (by decide), if_pos rfl, z_rd, h.2.2.1, Option.bind_some, nI_1, z_rp, Option.bind_some]
      · refine Eq.trans ?_ (if_neg (fun q => hd q.1)).symm
        rw [zB_f hd, Option.bind_some]
        dsimp only
        rw [if_pos rfl]
theorem f_dig3 {f : Nat} {v : Int32} {s : ax_S} : fb_X6_readDigits_4 (f + 1) (some 149) v (nI 3) s = some (v, s) := by
  unfold fb_X6_readDigits_4
  rw [if_pos (show (3 : Int32) ≤ nI 3 by decide)]
theorem z_d10 {a b : Nat} (h : 48 ≤ b) : nI a * 10 + nI b - 48 = nI (a * 10 + (b - 48)) := by
  rw [show (10 : Int32) = nI 10 from rfl, show (48 : Int32) = nI 48 from rfl, pk_mul, nI_add, nI_sub (by omega)]
  congr 1
  omega
theorem f_digits (hE : zEv m L T) (h : zRd m N P F fl) (hP : P + 3 < 2 ^ 31) : ∃ m', fn_X6_readDigits (some 149) (zC n m p) = some (nI (zdg T L P).1, zC n m' p) ∧ zRd m' N (zdg T L P).2 F fl ∧ zFy m m' := by
  have hT := hE.2.2.2.2
  have r1 := zRd_5 (v := P + 1) h
  have y1 : zFy m (ax_u2 m 149 5 (nI (P + 1))) := zFy_149
  generalize hm1 : ax_u2 m 149 5 (nI (P + 1)) = m1 at r1 y1
  have r2 := zRd_5 (v := P + 2) r1
  have y2 : zFy m1 (ax_u2 m1 149 5 (nI (P + 2))) := zFy_149
  generalize hm2 : ax_u2 m1 149 5 (nI (P + 2)) = m2 at r2 y2
  have r3 := zRd_5 (v := P + 3) r2
  have y3 : zFy m2 (ax_u2 m2 149 5 (nI (P + 3))) := zFy_149
  generalize hm3 : ax_u2 m2 149 5 (nI (P + 3)) = m3 at r3 y3
  have d0 := f_dig (n := n) (p := p) (f := 9999) (j := 0) (v := 0) hE h (by omega) (by omega)
  rw [hm1] at d0
  have hd0 : fn_X6_readDigits (some 149) (zC n m p) = fb_X6_readDigits_4 (9999 + 1) (some 149) 0 (nI 0) (zC n m p) := by
    unfold fn_X6_readDigits
    rw [nI_0]
  rw [hd0, d0]
  unfold zdg
  by_cases h1 : 48 ≤ zch T L P ∧ zch T L P ≤ 57
  · obtain ⟨a1, a2, a3, a4⟩ := zch_di h1 hT
    rw [if_pos ⟨h1, Or.inl rfl⟩, if_pos h1, a4, show (0 : Int32) = nI 0 from nI_0.symm, z_d10 a2, Nat.zero_mul, Nat.zero_add]
    have d1 := f_dig (n := n) (p := p) (f := 9998) (j := 0 + 1) (v := nI (T P - 48)) (zEv_fy hE y1) r1 (by omega) (by omega)
    rw [show P + 1 + 1 = P + 2 from rfl, hm2] at d1
    rw [d1]
    by_cases h0 : T P - 48 = 0
    · rw [if_pos h0, if_neg (fun q => by rcases q.2 with q | q; exact absurd q (by omega); exact q (by rw [h0]; exact nI_0)), h0]
      exact ⟨m1, rfl, r1, y1⟩
    · have hne : nI (T P - 48) ≠ 0 := nI_ne0 (by omega) (by omega)
      rw [if_neg h0]
      by_cases h2 : 48 ≤ zch T L (P + 1) ∧ zch T L (P + 1) ≤ 57
      · obtain ⟨b1, b2, b3, b4⟩ := zch_di h2 hT
        rw [if_pos ⟨h2, Or.inr hne⟩, if_pos h2, b4, z_d10 b2]
        have d2 := f_dig (n := n) (p := p) (f := 9997) (j := 0 + 1 + 1) (v := nI ((T P - 48) * 10 + (T (P + 1) - 48))) (zEv_fy hE (zFy_tr y1 y2)) r2 (by omega) (by omega)
        rw [show P + 2 + 1 = P + 3 from rfl, hm3] at d2
        rw [d2]
        have hne2 : nI ((T P - 48) * 10 + (T (P + 1) - 48)) ≠ 0 := nI_ne0 (by omega) (by omega)
        by_cases h3 : 48 ≤ zch T L (P + 2) ∧ zch T L (P + 2) ≤ 57
        · obtain ⟨c1, c2, c3, c4⟩ := zch_di h3 hT
          rw [if_pos ⟨h3, Or.inr hne2⟩, if_pos h3, c4, z_d10 c2]
          exact ⟨m3, f_dig3 (f := 9996), r3, zFy_tr y1 (zFy_tr y2 y3)⟩
        · rw [if_neg (fun q => h3 q.1), if_neg h3]
          exact ⟨m2, rfl, r2, zFy_tr y1 y2⟩
      · rw [if_neg (fun q => h2 q.1), if_neg h2]
        exact ⟨m1, rfl, r1, y1⟩
  · rw [if_neg (fun q => h1 q.1), if_neg h1]
    exact ⟨m, by rw [nI_0], h, zFy_rf⟩
/-- what reading a number does -/
def zRN (n : Nat) (p T : Nat → Nat) (m : Nat → Nat → Int32) (L N P F : Nat) (hi : Int32) (neg : Bool) (o : Option (Int32 × ax_S)) : Prop :=
  match zrn T L P hi neg with
  | none => ∃ v m', o = some (v, zC n m' p) ∧ zRd m' N P F 1 ∧ zFy m m'
  | some q => ∃ m', o = some (if neg = true then -nI q.1 else nI q.1, zC n m' p) ∧ zRd m' N q.2 F 0 ∧ zFy m m'
theorem f_rn49 {neg : Bool} (hE : zEv m L T) (h : zRd m N P F 0) (hP : P + 3 < 2 ^ 31) : zRN n p T m L N P F hi neg (fb_X6_readNumber_49 (some 149) hi (zq neg) (zC n m p)) := by
  obtain ⟨m1, d1, r1, y1⟩ := f_digits (n := n) (p := p) hE h hP
  obtain ⟨l1, l2, l3⟩ := zdg_le (L := L) (P := P) hE.2.2.2.2
  have hL := hE.2.2.2.1
  have hun : fb_X6_readNumber_49 (some 149) hi (zq neg) (zC n m p) = if nI (zdg T L P).2 = nI P then fb_X6_readNumber_104 (zq neg) (nI (zdg T L P).1) (zC n (ax_u2 m1 149 6 1) p) else if hi < nI (zdg T L P).1 then fb_X6_readNumber_93 (some 149) (zq neg) (nI P) (nI (zdg T L P).1) (zC n m1 p) else if zq neg = 0 then fb_X6_readNumber_104 (zq neg) (nI (zdg T L P).1) (zC n m1 p) else if nI (zdg T L P).1 = 0 then fb_X6_readNumber_93 (some 149) (zq neg) (nI P) (nI (zdg T L P).1) (zC n m1 p) else fb_X6_readNumber_104 (zq neg) (nI (zdg T L P).1) (zC n m1 p) := by
    unfold fb_X6_readNumber_49
    rw [z_rd, h.2.2.1, Option.bind_some, z_rsh, Option.bind_some, d1, Option.bind_some]
    dsimp only
    rw [z_rd, r1.2.2.1, Option.bind_some, z_rp, Option.bind_some]
  have h104 : ∀ (v : Int32) (s : ax_S), fb_X6_readNumber_104 (zq neg) v s = some (if neg = true then -v else v, s) := by
    intro v s
    unfold fb_X6_readNumber_104
    cases neg <;> rfl
  have h93 : ∀ (v : Int32), fb_X6_readNumber_93 (some 149) (zq neg) (nI P) v (zC n m1 p) = some (if neg = true then -v else v, zC n (ax_u2 (ax_u2 m1 149 5 (nI P)) 149 6 1) p) := by
    intro v
    unfold fb_X6_readNumber_93
    rw [z_rp, Option.bind_some, z_rp, Option.bind_some, h104]
  have hf93 : zRd (ax_u2 (ax_u2 m1 149 5 (nI P)) 149 6 1) N P F 1 ∧ zFy m (ax_u2 (ax_u2 m1 149 5 (nI P)) 149 6 1) := ⟨zRd_6 (zRd_5 r1), zFy_tr y1 (zFy_tr zFy_149 zFy_149)⟩
  rw [hun]
  unfold zRN zrn
  by_cases h1 : (zdg T L P).2 = P
  · rw [if_pos h1, if_pos (by rw [h1]), h104]
    rw [h1] at r1
    exact ⟨_, _, rfl, zRd_6 r1, zFy_tr y1 zFy_149⟩
  · rw [if_neg h1, if_neg (fun q => h1 (nI_inj (by omega) (by omega) q))]
    by_cases h2 : hi < nI (zdg T L P).1
    · rw [if_pos h2, if_pos h2, h93]
      exact ⟨_, _, rfl, hf93.1, hf93.2⟩
    · rw [if_neg h2, if_neg h2]
      cases neg with
      | false =>
        rw [if_pos (show zq false = 0 from rfl), if_neg (fun q => absurd q.1 (by decide)), h104]
        exact ⟨m1, rfl, r1, y1⟩
      | true =>
        rw [if_neg (show ¬ zq true = 0 by decide)]
        by_cases h3 : (zdg T L P).1 = 0
        · rw [if_pos ⟨rfl, h3⟩, if_pos (by rw [h3]; exact nI_0), h93]
          exact ⟨_, _, rfl, hf93.1, hf93.2⟩
        · rw [if_neg (fun q => h3 q.2), if_neg (nI_ne0 (by omega) (by omega)), h104]
          exact ⟨m1, rfl, r1, y1⟩
/-- without a minus sign -/
theorem f_rn0 {lo : Int32} (hE : zEv m L T) (h : zRd m N P F 0) (hP : P + 3 < 2 ^ 31) (hlo : 0 ≤ lo ∨ zch T L P ≠ 45) : zRN n p T m L N P F hi false (fn_X6_readNumber (some 149) lo hi (zC n m p)) := by
  have h49 := f_rn49 (n := n) (p := p) (hi := hi) (neg := false) hE h hP
  have h33 : fb_X6_readNumber_33 (some 149) hi (zC n m p) = fb_X6_readNumber_49 (some 149) hi (zq false) (zC n m p) := by
    unfold fb_X6_readNumber_33 fb_X6_readNumber_34
    rw [if_pos rfl]
    rfl
  unfold fn_X6_readNumber
  rw [z_rd, h.2.2.2, Option.bind_some, if_pos rfl]
  by_cases h0 : 0 ≤ lo
  · rw [if_pos h0, h33]
    exact h49
  · have hc : zch T L P ≠ 45 := by
      rcases hlo with q | q
      · exact absurd q h0
      · exact q
    rw [if_neg h0, z_rr, show zR p 149 0 = some 150 from rfl, Option.bind_some, z_rd, h.2.2.1, Option.bind_some, z_tsh, Option.bind_some, f_chr hE (by omega), Option.bind_some]
    dsimp only
    rw [if_neg hc, h33]
    exact h49
/-- with one -/
theorem f_rn1 {lo : Int32} (hE : zEv m L T) (h : zRd m N P F 0) (hP : P + 4 < 2 ^ 31) (hlo : ¬ 0 ≤ lo) (hc : zch T L P = 45) : zRN n p T m L N (P + 1) F hi true (fn_X6_readNumber (some 149) lo hi (zC n m p)) := by
  have y1 : zFy m (ax_u2 m 149 5 (nI (P + 1))) := zFy_149
  have h49 := f_rn49 (n := n) (p := p) (hi := hi) (neg := true) (zEv_fy hE y1) (zRd_5 (v := P + 1) h) (by omega)
  have hun : fn_X6_readNumber (some 149) lo hi (zC n m p) = fb_X6_readNumber_49 (some 149) hi (zq true) (zC n (ax_u2 m 149 5 (nI (P + 1))) p) := by
    unfold fn_X6_readNumber
    rw [z_rd, h.2.2.2, Option.bind_some, if_pos rfl, if_neg hlo, z_rr, show zR p 149 0 = some 150 from rfl, Option.bind_some, z_rd, h.2.2.1, Option.bind_some, z_tsh, Option.bind_some, f_chr hE (by omega), Option.bind_some]
    dsimp only
    rw [if_pos hc]
    unfold fb_X6_readNumber_34
    rw [if_neg (by decide), z_rd, h.2.2.1, Option.bind_some, nI_1, z_rp, Option.bind_some]
    rfl
  rw [hun]
  unfold zRN at h49 ⊢
  cases hz : zrn T L (P + 1) hi true with
  | none =>
    rw [hz] at h49
    obtain ⟨v, m', e1, e2, e3⟩ := h49
    exact ⟨v, m', e1, e2, zFy_tr y1 e3⟩
  | some q =>
    rw [hz] at h49
    obtain ⟨m', e1, e2, e3⟩ := h49
    exact ⟨m', e1, e2, zFy_tr y1 e3⟩
theorem f_rnF {lo : Int32} (h : zRd m N P F 1) : fn_X6_readNumber (some 149) lo hi (zC n m p) = some (0, zC n m p) := by
  unfold fn_X6_readNumber
  rw [z_rd, h.2.2.2, Option.bind_some, if_neg (by decide)]
theorem zlo_neg : ∀ k, k < 7 → ∀ i, i < znn k → (¬ 0 ≤ zlo k i ↔ k = 2) := by decide +kernel
/-- number i of a kind -/
theorem f_znu (hE : zEv m L T) (h : zRd m N P F 0) (hP : P + 4 < 2 ^ 31) (hk : k < 7) (hi : i < znn k) : match znu T L k i P with
    | .inl q => ∃ v m', fn_X6_readNumber (some 149) (zlo k i) (zhi k i) (zC n m p) = some (v, zC n m' p) ∧ zRd m' N q F 1 ∧ zFy m m'
    | .inr q => ∃ m', fn_X6_readNumber (some 149) (zlo k i) (zhi k i) (zC n m p) = some (q.2, zC n m' p) ∧ zRd m' N q.1 F 0 ∧ zFy m m' := by
  have hneg := zlo_neg k hk i hi
  unfold znu
  by_cases hc : k = 2 ∧ zch T L P = 45
  · rw [if_pos hc]
    have h1 := f_rn1 (n := n) (p := p) (hi := zhi k i) hE h hP (hneg.mpr hc.1) hc.2
    unfold zRN at h1
    cases hz : zrn T L (P + 1) (zhi k i) true with
    | none =>
      rw [hz] at h1
      exact h1
    | some q =>
      rw [hz] at h1
      exact h1
  · rw [if_neg hc]
    have h1 := f_rn0 (n := n) (p := p) (hi := zhi k i) (lo := zlo k i) hE h (by omega) (by
      by_cases h0 : 0 ≤ zlo k i
      · exact Or.inl h0
      · exact Or.inr (fun q => hc ⟨hneg.mp h0, q⟩))
    unfold zRN at h1
    cases hz : zrn T L P (zhi k i) false with
    | none =>
      rw [hz] at h1
      exact h1
    | some q =>
      rw [hz] at h1
      exact h1
end RNUM
