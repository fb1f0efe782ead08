/-! ===== the class reads the text ===== -/
section RREAD
variable {n L N P F B k i d e g : Nat} {m m' m1 : Nat → Nat → Int32} {p T : Nat → Nat} {c fl hi x y z : Int32} {W : Nat → Nat → Int32} {se : Option Nat → Int32 → ax_S → Option (Int32 × ax_S)} {us : Nat → Nat}
theorem f_exprF : zKfl n p T L N e (fr_X6_expression (k + 1)) := by
  intro P F m hE h hP
  show fo_X6_expression (fr_X6_expression k) (some 149) (nI e) (zC n m p) = _
  unfold fo_X6_expression fb_X6_expression_25
  rw [z_rsh, Option.bind_some, f_kind9 hE h (by omega), Option.bind_some]
  dsimp only
  rw [z_rd, h.2.2.2, Option.bind_some, if_neg (by decide), z_rp, Option.bind_some]
theorem f_newNodeF (hk : k < 7) (hf : zKfl n p T L N e se) (hE : zEv m L T) (h : zRd m N P F 1) (hP : P ≤ 100) (hF : F < 100) : ∃ v m', fo_X6_newNode se (some 149) (nI k) (nI e) (zC n m p) = some (v, zC n m' p) ∧ zRd m' N P (F + 1) 1 ∧ zFx m m' := by
  unfold fo_X6_newNode
  rw [f_inputs hE.1 hk, Option.bind_some]
  dsimp only
  by_cases h0 : nI (zin k) ≤ 0
  · rw [if_pos h0]
    exact f_20F hk hf hE h hP hF _
  · obtain ⟨v, m', e1, e2, e3⟩ := f_20F (n := n) (p := p) (x := -1005) hk hf (zEv_fy hE (zFy_149 (k := 6) (x := 1))) (zRd_6 h) hP hF (nI (zin k))
    refine ⟨v, m', ?_, e2, zFx_tr (zFx_y zFy_149) e3⟩
    rw [if_neg h0, z_rsh, Option.bind_some, hf P F m hE h hP, Option.bind_some]
    exact e1
theorem f_78F {v : Int32} (h : zRd m N P F 1) : fb_X6_expression_78 se (some 149) v (zC n m p) = some (v, zC n (ax_u2 m 149 6 1) p) := by
  unfold fb_X6_expression_78
  rw [z_rsh, Option.bind_some, f_expF h, Option.bind_some]
theorem f_78 {v : Int32} (hE : zEv m L T) (h : zRd m N P F 0) (hP : P < 2 ^ 31) : fb_X6_expression_78 se (some 149) v (zC n m p) = if zch T L P = 41 then some (v, zC n (ax_u2 m 149 5 (nI (P + 1))) p) else some (v, zC n (ax_u2 m 149 6 1) p) := by
  unfold fb_X6_expression_78
  rw [z_rsh, Option.bind_some]
  by_cases hc : zch T L P = 41
  · rw [if_pos hc, f_exp0 hE h hP hc, Option.bind_some]
  · rw [if_neg hc, f_exp1 hE h hP hc, Option.bind_some]
theorem zkh_7 : ∀ k, k < 8 → (nI k = (7 : Int32) ↔ k = 7) := by decide +kernel
theorem f_expr (hN : N ≤ 12) : ∀ (d e k : Nat), e + d = 6 → zKs n p T L N d e (fr_X6_expression (d + 1 + k)) := by
  intro d
  induction d with
  | zero =>
    intro e k he P F W m hE h hP hF hG
    have hL := hE.2.2.2.1
    obtain rfl : e = 6 := by omega
    rw [show 0 + 1 + k = k + 1 by omega]
    refine ⟨-1005, ax_u2 m 149 6 1, F, ?_, zRd_6 h, by omega, zFx_y zFy_149⟩
    show fo_X6_expression (fr_X6_expression k) (some 149) (nI 6) (zC n m p) = _
    unfold fo_X6_expression fb_X6_expression_25
    rw [z_rsh, Option.bind_some, f_kind9 hE h (by omega), Option.bind_some]
    dsimp only
    rw [z_rd, h.2.2.2, Option.bind_some, if_pos rfl, if_neg (show ¬ nI 6 < (6 : Int32) by decide), z_rp, Option.bind_some]
    exact ite_self _
  | succ d ih =>
    intro e k he P F W m hE h hP hF hG
    have hL := hE.2.2.2.1
    have hT := hE.2.2.2.2
    have hse := ih (e + 1) k (by omega)
    have hfl : zKfl n p T L N (e + 1) (fr_X6_expression (d + 1 + k)) := by
      rw [show d + 1 + k = (d + k) + 1 by omega]
      exact f_exprF
    rw [show d + 1 + 1 + k = (d + 1 + k) + 1 by omega]
    show zKres n p N m (30 + (d + 1)) (fo_X6_expression (fr_X6_expression (d + 1 + k)) (some 149) (nI e) (zC n m p)) _
    generalize fr_X6_expression (d + 1 + k) = se at hse hfl
    unfold zpx
    by_cases h8 : zkh (zch T L P) = 8
    · rw [if_pos h8]
      refine ⟨-1005, ax_u2 m 149 6 1, F, ?_, zRd_6 h, by omega, zFx_y zFy_149⟩
      unfold fo_X6_expression fb_X6_expression_25
      rw [z_rsh, Option.bind_some, f_kind9 hE h (by omega), Option.bind_some, if_pos h8]
      dsimp only
      rw [z_rd, h.2.2.2, Option.bind_some, if_pos rfl, if_pos rfl, z_rp, Option.bind_some]
    · have hk7 : zkh (zch T L P) < 8 := by have := zkh_le (zch T L P); omega
      rw [if_neg h8]
      have r1 := zRd_5 (v := P + 1) h
      have y1 : zFy m (ax_u2 m 149 5 (nI (P + 1))) := zFy_149
      generalize hm1 : ax_u2 m 149 5 (nI (P + 1)) = m1 at r1 y1
      have hE1 := zEv_fy hE y1
      have hun : fo_X6_expression se (some 149) (nI e) (zC n m p) = (fn_X6_expect (some 149) 40 (zC n m1 p)).bind fun q13 => if nI (zkh (zch T L P)) = 7 then (ax_gi q13 4 4 (some 149)).bind fun x17 => (ax_sh q13 4 (some 149)).bind fun w18 => (fn_X6_readNumber (some 149) 0 (x17 - 1) q13).bind fun q19 => fb_X6_expression_78 se (some 149) q19.1 q19.2 else (ax_sh q13 4 (some 149)).bind fun w15 => (fo_X6_newNode se (some 149) (nI (zkh (zch T L P))) (nI (e + 1)) q13).bind fun q16 => fb_X6_expression_78 se (some 149) q16.1 q16.2 := by
        unfold fo_X6_expression
        rw [z_rsh, Option.bind_some, f_kind9 hE h (by omega), Option.bind_some, if_neg h8]
        dsimp only
        rw [z_rd, h.2.2.2, Option.bind_some, if_pos rfl, if_neg (nI_ne_none (by omega)), if_pos (show nI e < (6 : Int32) from nI_lt (b := 6) (by omega) (by omega)), z_rd, h.2.2.1, Option.bind_some, nI_1, z_rp, hm1, Option.bind_some, z_rsh, Option.bind_some, nI_1]
      rw [hun]
      have hl : P < L := by
        by_cases hl : P < L
        · exact hl
        · exact absurd (by rw [show zch T L P = -1 from if_neg hl]; exact zkh_m1) h8
      by_cases h40 : zch T L (P + 1) = 40
      · obtain ⟨b1, b2⟩ := zch_nat (a := 40) h40 (by omega) hT
        rw [if_pos h40, f_exp0 hE1 r1 (by omega) h40, Option.bind_some]
        have r2 := zRd_5 (v := P + 2) r1
        have y2 : zFy m1 (ax_u2 m1 149 5 (nI (P + 2))) := zFy_149
        rw [show P + 1 + 1 = P + 2 from rfl]
        generalize hm2 : ax_u2 m1 149 5 (nI (P + 2)) = m2 at r2 y2
        have y12 := zFy_tr y1 y2
        have hE2 := zEv_fy hE y12
        by_cases h7 : zkh (zch T L P) = 7
        · rw [if_pos h7, if_pos ((zkh_7 _ hk7).mpr h7), z_rd, r2.2.1, Option.bind_some, z_rsh, Option.bind_some]
          have hn := f_rn0 (n := n) (p := p) (hi := nI N - 1) (lo := 0) hE2 r2 (by omega) (Or.inl (by decide))
          unfold zRN at hn
          cases hz : zrn T L (P + 2) (nI N - 1) false with
          | none =>
            rw [hz] at hn
            obtain ⟨v, m3, e1, e2, e3⟩ := hn
            rw [e1, Option.bind_some]
            dsimp only
            rw [f_78F e2]
            exact ⟨v, _, F, rfl, zRd_6 e2, by omega, zFx_y (zFy_tr y12 (zFy_tr e3 zFy_149))⟩
          | some q =>
            rw [hz] at hn
            obtain ⟨m3, e1, e2, e3⟩ := hn
            obtain ⟨a1, a2, a3, a4, -, -⟩ := zrn_ok hT hz
            obtain ⟨j, hj, ej⟩ := z_inlt (N := N) (by omega) (z_pos (by omega)) a4
            have hqj : q.1 = j := nI_inj (by omega) (by omega) ej
            rw [e1, Option.bind_some]
            dsimp only
            rw [f_78 (zEv_fy hE2 e3) e2 (by omega)]
            by_cases h41 : zch T L q.2 = 41
            · rw [if_pos h41, if_pos h41]
              refine ⟨_, ?_, zRd_5 e2, zFx_y (zFy_tr y12 (zFy_tr e3 zFy_149)), zGN_congr hG (fun i hi => ?_)⟩
              · show some (nI q.1, _) = some (nI (zcv N q.1), _)
                have : zcv N q.1 = q.1 := if_pos (by omega)
                rw [this]
              · exact ⟨(zFy_tr y12 (zFy_tr e3 zFy_149)) _ (by omega), (zFy_tr y12 (zFy_tr e3 zFy_149)) _ (by omega), (zFy_tr y12 (zFy_tr e3 zFy_149)) _ (by omega)⟩
            · rw [if_neg h41, if_neg h41]
              exact ⟨_, _, F, rfl, zRd_6 e2, by omega, zFx_y (zFy_tr y12 (zFy_tr e3 zFy_149))⟩
        · rw [if_neg h7, if_neg (fun q => h7 ((zkh_7 _ hk7).mp q)), z_rsh, Option.bind_some]
          have hk : zkh (zch T L P) < 7 := by omega
          have hnn := f_newNode (n := n) (p := p) (se := se) hk hN (show d ≤ 6 by omega) hse hfl hE2 r2 (show P + 2 ≤ L by omega) (by omega) (zGN_congr hG (fun i hi => ⟨y12 _ (by omega), y12 _ (by omega), y12 _ (by omega)⟩))
          unfold znd zne at hnn
          have hx := zxs_ok (L := L) (N := N) (e := e + 1) (rec := zpx T L N d (e + 1)) hT (fun P F W hP => zpx_ok hT hN d (e + 1) P F W hP) (zin (zkh (zch T L P))) 0 (P + 2) F W (fun _ => 0) (by omega)
          cases hs : zxs T L (e + 1) (zpx T L N d (e + 1)) (zin (zkh (zch T L P))) 0 (P + 2) F W (fun _ => 0) with
          | inl f =>
            rw [hs] at hnn
            obtain ⟨v, m3, F3, e1, e2, e3, e4⟩ := hnn
            rw [e1, Option.bind_some]
            dsimp only
            rw [f_78F e2]
            exact ⟨v, _, F3, rfl, zRd_6 e2, by omega, zFx_tr (zFx_y y12) (zFx_tr e4 (zFx_y zFy_149))⟩
          | inr r =>
            rw [hs] at hnn hx
            obtain ⟨x1, x2, x3, x4, -⟩ := hx
            have hns := zns_ok (L := L) hT hk (znn (zkh (zch T L P))) 0 r.1 (fun _ => 0) (by omega) x2
            cases hq : zns T L (zkh (zch T L P)) (znn (zkh (zch T L P))) 0 r.1 (fun _ => 0) with
            | inl q =>
              dsimp only at hnn
              rw [hq] at hnn
              obtain ⟨v, m3, F3, e1, e2, e3, e4⟩ := hnn
              rw [e1, Option.bind_some]
              dsimp only
              rw [f_78F e2, hq]
              exact ⟨v, _, F3, rfl, zRd_6 e2, by omega, zFx_tr (zFx_y y12) (zFx_tr e4 (zFx_y zFy_149))⟩
            | inr q =>
              dsimp only at hnn
              rw [hq] at hnn hns
              obtain ⟨m3, e1, e2, e3, e4⟩ := hnn
              have hq1 : q.1 ≤ L := hns.2.1
              have e1' : fo_X6_newNode se (some 149) (nI (zkh (zch T L P))) (nI (e + 1)) (zC n m2 p) = some (nI (N + r.2.1), zC n m3 p) := e1
              have e2' : zRd m3 N q.1 (r.2.1 + 1) 0 := e2
              rw [e1', Option.bind_some]
              dsimp only
              rw [f_78 (zEv_fx hE2 e3) e2' (by omega), hq]
              dsimp only
              by_cases h41 : zch T L q.1 = 41
              · rw [if_pos h41, if_pos h41]
                refine ⟨_, ?_, zRd_5 e2', zFx_tr (zFx_y y12) (zFx_tr e3 (zFx_y zFy_149)), zGN_congr e4 (fun i hi => ⟨zu2_row (by omega), zu2_row (by omega), zu2_row (by omega)⟩)⟩
                show some (nI (N + r.2.1), _) = some (nI (zcv N (100 + r.2.1)), _)
                have : zcv N (100 + r.2.1) = N + r.2.1 := by
                  unfold zcv
                  rw [if_neg (by omega)]
                  omega
                rw [this]
              · rw [if_neg h41, if_neg h41]
                exact ⟨_, _, r.2.1 + 1, rfl, zRd_6 e2', by omega, zFx_tr (zFx_y y12) (zFx_tr e3 (zFx_y zFy_149))⟩
      · rw [if_neg h40, f_exp1 hE1 r1 (by omega) h40, Option.bind_some]
        have r2 := zRd_6 (v := 1) r1
        have y2 : zFy m1 (ax_u2 m1 149 6 1) := zFy_149
        generalize hm2 : ax_u2 m1 149 6 1 = m2 at r2 y2
        have y12 := zFy_tr y1 y2
        have hE2 := zEv_fy hE y12
        by_cases h7 : nI (zkh (zch T L P)) = 7
        · rw [if_pos h7, z_rd, r2.2.1, Option.bind_some, z_rsh, Option.bind_some, f_rnF r2, Option.bind_some]
          dsimp only
          rw [f_78F r2]
          exact ⟨_, _, F, rfl, zRd_6 r2, by omega, zFx_y (zFy_tr y12 zFy_149)⟩
        · have hk : zkh (zch T L P) < 7 := by
            have h7' : zkh (zch T L P) ≠ 7 := fun q => h7 ((zkh_7 _ hk7).mpr q)
            omega
          obtain ⟨v, m3, e1, e2, e3⟩ := f_newNodeF (n := n) (p := p) hk hfl hE2 r2 (by omega) (by omega)
          rw [if_neg h7, z_rsh, Option.bind_some, e1, Option.bind_some]
          dsimp only
          rw [f_78F e2]
          exact ⟨v, _, F + 1, rfl, zRd_6 e2, by omega, zFx_tr (zFx_y y12) (zFx_tr e3 (zFx_y zFy_149))⟩
/-- the whole text -/
def zrdt (T : Nat → Nat) (L N : Nat) : zRs :=
  match zpx T L N 6 0 0 0 (fun _ _ => 0) with
  | .inl f => .inl f
  | .inr r => if r.1 < L then .inl (r.1, 0) else .inr r
theorem f_read (hN : N ≤ 12) (hE : zEv m L T) : match zrdt T L N with
    | .inl f => ∃ v m', fn_X6_read (some 149) (nI N) (zC n m p) = some (v, zC n m' p) ∧ m' 149 6 = 1 ∧ m' 149 5 = nI f.1 ∧ zFx m m'
    | .inr r => ∃ m', fn_X6_read (some 149) (nI N) (zC n m p) = some (nI (zcv N r.2.1), zC n m' p) ∧ m' 149 6 = 0 ∧ m' 149 3 = nI r.2.2.1 ∧ zFx m m' ∧ zGN m' 149 (min r.2.2.1 12) r.2.2.2 := by
  have hL := hE.2.2.2.1
  generalize hm1 : ax_u2 m 149 4 (nI N) = m1
  generalize hm2 : ax_u2 m1 149 3 (nI 0) = m2
  generalize hm3 : ax_u2 m2 149 5 (nI 0) = m3
  generalize hm4 : ax_u2 m3 149 6 0 = m4
  have y4 : zFy m m4 := fun a ha => by rw [← hm4, zu2_row ha, ← hm3, zu2_row ha, ← hm2, zu2_row ha, ← hm1, zu2_row ha]
  have r4 : zRd m4 N 0 0 0 := ⟨by rw [← hm4, ax_u2_nk (by omega), ← hm3, ax_u2_nk (by omega), ← hm2, ax_u2_self], by rw [← hm4, ax_u2_nk (by omega), ← hm3, ax_u2_nk (by omega), ← hm2, ax_u2_nk (by omega), ← hm1, ax_u2_self], by rw [← hm4, ax_u2_nk (by omega), ← hm3, ax_u2_self], by rw [← hm4, ax_u2_self]⟩
  have hE4 := zEv_fy hE y4
  have hx := f_expr (n := n) (p := p) (T := T) (L := L) hN 6 0 3 rfl 0 0 (fun _ _ => 0) m4 hE4 r4 (by omega) (by omega) ⟨fun i w hi => by omega, fun i w hi => by omega, fun i w hi => by omega⟩
  have hok := zpx_ok (L := L) (N := N) hE.2.2.2.2 hN 6 0 0 0 (fun _ _ => 0) (by omega)
  have hun : ∀ (v : Int32) (m5 : Nat → Nat → Int32) (Q : Nat), Q ≤ L → fr_X6_expression (6 + 1 + 3) (some 149) (nI 0) (zC n m4 p) = some (v, zC n m5 p) → zFx m m5 → m5 149 5 = nI Q → fn_X6_read (some 149) (nI N) (zC n m p) = if Q < L then some (v, zC n (ax_u2 m5 149 6 1) p) else some (v, zC n m5 p) := by
    intro v m5 Q hQ he hf hq
    rw [nI_0] at he
    unfold fn_X6_read fn_X6_expression
    rw [z_rp, hm1, Option.bind_some, show (0 : Int32) = nI 0 from nI_0.symm, z_rp, hm2, Option.bind_some, z_rp, hm3, Option.bind_some, nI_0, z_rp, hm4, Option.bind_some, z_rsh, Option.bind_some, he, Option.bind_some]
    dsimp only
    rw [z_rd, hq, Option.bind_some, z_rr, show zR p 149 0 = some 150 from rfl, Option.bind_some, z_t1, hf 150 (by omega), hE.2.2.1.1, Option.bind_some]
    by_cases hlt : Q < L
    · rw [if_neg (nI_ge hlt (by omega)), if_pos hlt, z_rp, Option.bind_some]
    · rw [if_pos (nI_le (by omega) (by omega)), if_neg hlt]
  unfold zrdt
  cases hz : zpx T L N 6 0 0 0 (fun _ _ => 0) with
  | inl f =>
    rw [hz] at hx hok
    obtain ⟨v, m5, F5, e1, e2, e3, e4⟩ := hx
    have hfx := zFx_tr (zFx_y y4) e4
    have hu := hun v m5 f.1 hok.1 e1 hfx e2.2.2.1
    by_cases hlt : f.1 < L
    · rw [if_pos hlt] at hu
      exact ⟨v, _, hu, ax_u2_self, by rw [ax_u2_nk (by omega)]; exact e2.2.2.1, zFx_tr hfx (zFx_y zFy_149)⟩
    · rw [if_neg hlt] at hu
      exact ⟨v, _, hu, e2.2.2.2, e2.2.2.1, hfx⟩
  | inr r =>
    rw [hz] at hx hok
    obtain ⟨m5, e1, e2, e3, e4⟩ := hx
    have hfx := zFx_tr (zFx_y y4) e3
    have hu := hun _ m5 r.1 hok.2.1 e1 hfx e2.2.2.1
    dsimp only
    by_cases hlt : r.1 < L
    · rw [if_pos hlt] at hu ⊢
      exact ⟨_, _, hu, ax_u2_self, by rw [ax_u2_nk (by omega)]; exact e2.2.2.1, zFx_tr hfx (zFx_y zFy_149)⟩
    · rw [if_neg hlt] at hu ⊢
      exact ⟨_, hu, e2.2.2.2, e2.1, hfx, e4⟩
end RREAD
