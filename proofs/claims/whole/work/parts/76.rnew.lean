/-! ===== the class reads: a node, an expression, the text ===== -/
section RNEW
variable {n L N P F B k i d e g : Nat} {m m' m1 : Nat → Nat → Int32} {p T : Nat → Nat} {c fl hi x y z : Int32} {W : Nat → Nat → Int32} {se : Option Nat → Int32 → ax_S → Option (Int32 × ax_S)} {us : Nat → Nat}
theorem zGN_put {r : Nat → Int32} (h : zGN m 149 (min F 12) W) (hf : ∀ a, (12 ≤ F ∨ (a ≠ 149 + 5 + 3 * F ∧ a ≠ 149 + 5 + 3 * F + 1 ∧ a ≠ 149 + 5 + 3 * F + 2)) → a ≠ 149 → a ≠ 152 → m' a = m a) (hr : F < 12 → (∀ w, w < 3 → m' (149 + 5 + 3 * F) w = r w) ∧ (∀ w, w < 3 → m' (149 + 5 + 3 * F + 1) w = r (3 + w)) ∧ ∀ w, w < 4 → m' (149 + 5 + 3 * F + 2) w = r (6 + w)) : zGN m' 149 (min (F + 1) 12) (zput W F r) := by
  have hW : ∀ i w, i ≠ F → zput W F r i w = W i w := fun i w hi => if_neg hi
  have hW2 : ∀ w, zput W F r F w = r w := fun w => if_pos rfl
  refine ⟨fun i w hi hw => ?_, fun i w hi hw => ?_, fun i w hi hw => ?_⟩
  · by_cases hiF : i = F
    · subst hiF
      rw [hW2]; exact (hr (by omega)).1 w hw
    · rw [hW i _ hiF, hf _ (by omega) (by omega) (by omega)]; exact h.1 i w (by omega) hw
  · by_cases hiF : i = F
    · subst hiF
      rw [hW2]; exact (hr (by omega)).2.1 w hw
    · rw [hW i _ hiF, hf _ (by omega) (by omega) (by omega)]; exact h.2.1 i w (by omega) hw
  · by_cases hiF : i = F
    · subst hiF
      rw [hW2]; exact (hr (by omega)).2.2 w hw
    · rw [hW i _ hiF, hf _ (by omega) (by omega) (by omega)]; exact h.2.2 i w (by omega) hw
/-- the numbers and the node, all inputs being read -/
def zne (T : Nat → Nat) (L N k P F : Nat) (W : Nat → Nat → Int32) (us : Nat → Nat) : Nat ⊕ (Nat × Nat × (Nat → Nat → Int32)) :=
  match zns T L k (znn k) 0 P (fun _ => 0) with
  | .inl q => .inl q
  | .inr q => .inr (q.1, F, zput W F (zrw N k us q.2))
def zhin (N k : Nat) (us : Nat → Nat) (j : Nat) : Int32 := if j < zin k then nI (zcv N (us j)) else -1005
theorem zrw_in {ns : Nat → Int32} {j : Nat} (hj : j < 3) : zrw N k us ns (3 + j) = zhin N k us j := by
  unfold zrw zhin
  rw [if_neg (by omega), if_neg (by omega), if_neg (by omega), if_pos (by omega), show 3 + j - 3 = j by omega]
theorem zrw_p {ns : Nat → Int32} {w : Nat} : zrw N k us ns (6 + w) = if w < zpn k then ns (if w < znn k then w else 0) else zaf k w := by
  unfold zrw
  rw [if_neg (by omega), if_neg (by omega), if_neg (by omega), if_neg (by omega), show 6 + w - 6 = w by omega]
theorem f_nn61 (hk : k < 7) (hE : zEv m L T) (h : zRd m N P F 0) (hP : P ≤ L) (hF : 3 * F ≤ P) (hG : zGN m 149 (min F 12) W) : zNres n p N m (F + 1) (fb_X6_newNode_61 se 10000 (some 149) (nI k) (nI (zin k)) (zhin N k us 0) (zhin N k us 1) (zhin N k us 2) 0 (zC n m p)) (zne T L N k P F W us) := by
  obtain ⟨h4, hp4, hsrc⟩ := znn_ok k hk
  have hL := hE.2.2.2.1
  have h1 := f_61 (n := n) (p := p) (N := N) (F := F) (g := 9999 - znn k) (se := se) (x := zhin N k us 0) (y := zhin N k us 1) (z := zhin N k us 2) hk (znn k) 0 P (fun _ => 0) m (by omega) hE h hP (by omega) (fun j hj => by omega)
  rw [show 9999 - znn k + 1 + znn k = 10000 by omega, nI_0] at h1
  unfold zne
  cases hz : zns T L k (znn k) 0 P (fun _ => 0) with
  | inl q =>
    rw [hz] at h1
    obtain ⟨v, m', e1, e2, e3⟩ := h1
    exact ⟨v, m', F + 1, e1, e2, Nat.le_refl _, e3⟩
  | inr q =>
    rw [hz] at h1
    obtain ⟨m', e1, e2, e3, e4⟩ := h1
    have hx : zFx m m' := fun a ha => e3 a (by omega) (by omega)
    obtain ⟨m2, g1, g2, g3, g4⟩ := f_nnend (n := n) (p := p) (se := se) (g := 9999 - znn k) (x := zhin N k us 0) (y := zhin N k us 1) (z := zhin N k us 2) (zT_fx hE.1 hx) e2 (by omega) hk (nI (zin k))
    refine ⟨m2, e1.trans g1, g2, zFx_tr hx (zFx_nn g3), ?_⟩
    refine zGN_put hG (fun a ha hb hc => by rw [g3 a hb ha]; exact e3 a hb hc) (fun hF12 => ?_)
    obtain ⟨r0, r1, r2, r3, r4, r5, r6⟩ := g4 hF12
    refine ⟨fun w hw => ?_, fun w hw => ?_, fun w hw => ?_⟩
    · have hc : w = 0 ∨ w = 1 ∨ w = 2 := by omega
      rcases hc with rfl | rfl | rfl
      · exact r0
      · exact r1
      · exact r2
    · rw [zrw_in hw]
      have hc : w = 0 ∨ w = 1 ∨ w = 2 := by omega
      rcases hc with rfl | rfl | rfl
      · exact r3
      · exact r4
      · exact r5
    · rw [r6 w hw, zrw_p]
      by_cases hwp : w < zpn k
      · rw [if_pos hwp, if_pos hwp, e4 _ (hsrc w hwp)]
      · rw [if_neg hwp, if_neg hwp]
/-- behind a fault -/
theorem f_nextF (hf : zKfl n p T L N e se) (hE : zEv m L T) (h : zRd m N P F 1) (hP : P ≤ 100) : ∃ m', fo_X6_nextExpression se (some 149) (nI e) (zC n m p) = some (-1005, zC n m' p) ∧ zRd m' N P F 1 ∧ zFy m m' := by
  refine ⟨ax_u2 (ax_u2 m 149 6 1) 149 6 1, ?_, zRd_6 (zRd_6 h), zFy_tr zFy_149 zFy_149⟩
  unfold fo_X6_nextExpression
  rw [z_rsh, Option.bind_some, f_expF h, Option.bind_some, z_rsh, Option.bind_some, hf P F _ (zEv_fy hE zFy_149) (zRd_6 h) hP, Option.bind_some]
theorem f_61F0 (hk : k < 7) (x3 : Int32) (hE : zEv m L T) (h : zRd m N P F 1) (hF : F < 100) : ∃ v m', fb_X6_newNode_61 se 10000 (some 149) (nI k) x3 x y z 0 (zC n m p) = some (v, zC n m' p) ∧ zRd m' N P (F + 1) 1 ∧ zFx m m' := by
  have h4 := (znn_ok k hk).1
  have h1 := f_61F (n := n) (p := p) (se := se) (x := x) (y := y) (z := z) hk x3 (znn k) 0 (9999 - znn k) m (by omega) hE.1 h hF
  rw [show 9999 - znn k + 1 + znn k = 10000 by omega, nI_0] at h1
  exact h1
theorem f_38F (hk : k < 7) (hf : zKfl n p T L N e se) (hE : zEv m L T) (h : zRd m N P F 1) (hP : P ≤ 100) (hF : F < 100) (x3 : Int32) : ∃ v m', fb_X6_newNode_38 se (some 149) (nI k) (nI e) x3 x y (zC n m p) = some (v, zC n m' p) ∧ zRd m' N P (F + 1) 1 ∧ zFx m m' := by
  unfold fb_X6_newNode_38
  by_cases h2 : x3 ≤ 2
  · rw [if_pos h2]
    exact f_61F0 hk x3 hE h hF
  · obtain ⟨m1, a1, a2, a3⟩ := f_nextF (n := n) (p := p) hf hE h hP
    obtain ⟨v, m', e1, e2, e3⟩ := f_61F0 (n := n) (p := p) (se := se) (x := x) (y := y) (z := -1005) hk x3 (zEv_fy hE a3) a2 hF
    refine ⟨v, m', ?_, e2, zFx_tr (zFx_y a3) e3⟩
    rw [if_neg h2, z_rsh, Option.bind_some, a1, Option.bind_some]
    exact e1
theorem f_20F (hk : k < 7) (hf : zKfl n p T L N e se) (hE : zEv m L T) (h : zRd m N P F 1) (hP : P ≤ 100) (hF : F < 100) (x3 : Int32) : ∃ v m', fb_X6_newNode_20 se (some 149) (nI k) (nI e) x3 x (zC n m p) = some (v, zC n m' p) ∧ zRd m' N P (F + 1) 1 ∧ zFx m m' := by
  unfold fb_X6_newNode_20
  by_cases h2 : x3 ≤ 1
  · rw [if_pos h2]
    exact f_38F hk hf hE h hP hF x3
  · obtain ⟨m1, a1, a2, a3⟩ := f_nextF (n := n) (p := p) hf hE h hP
    obtain ⟨v, m', e1, e2, e3⟩ := f_38F (n := n) (p := p) (x := x) (y := -1005) hk hf (zEv_fy hE a3) a2 hP hF x3
    refine ⟨v, m', ?_, e2, zFx_tr (zFx_y a3) e3⟩
    rw [if_neg h2, z_rsh, Option.bind_some, a1, Option.bind_some]
    exact e1
/-- a further input -/
theorem f_next0 (hf : zKfl n p T L N e se) (hE : zEv m L T) (h : zRd m N P F 0) (hP : P ≤ L) (hc : zch T L P ≠ 44) : ∃ m', fo_X6_nextExpression se (some 149) (nI e) (zC n m p) = some (-1005, zC n m' p) ∧ zRd m' N P F 1 ∧ zFy m m' := by
  have hL := hE.2.2.2.1
  refine ⟨ax_u2 (ax_u2 m 149 6 1) 149 6 1, ?_, zRd_6 (zRd_6 h), zFy_tr zFy_149 zFy_149⟩
  unfold fo_X6_nextExpression
  rw [z_rsh, Option.bind_some, f_exp1 hE h (by omega) hc, Option.bind_some, z_rsh, Option.bind_some, hf P F _ (zEv_fy hE zFy_149) (zRd_6 h) (by omega), Option.bind_some]
theorem f_next1 (hE : zEv m L T) (h : zRd m N P F 0) (hP : P < 2 ^ 31) (hc : zch T L P = 44) : fo_X6_nextExpression se (some 149) (nI e) (zC n m p) = se (some 149) (nI e) (zC n (ax_u2 m 149 5 (nI (P + 1))) p) := by
  unfold fo_X6_nextExpression
  rw [z_rsh, Option.bind_some, f_exp0 hE h hP hc, Option.bind_some, z_rsh, Option.bind_some]
  cases se (some 149) (nI e) (zC n (ax_u2 m 149 5 (nI (P + 1))) p) <;> rfl
/-- all of a node but its last parenthesis -/
def znd (T : Nat → Nat) (L N k e : Nat) (rec : Nat → Nat → (Nat → Nat → Int32) → zRs) (P F : Nat) (W : Nat → Nat → Int32) : Nat ⊕ (Nat × Nat × (Nat → Nat → Int32)) :=
  match zxs T L e rec (zin k) 0 P F W (fun _ => 0) with
  | .inl f => .inl f.1
  | .inr r => zne T L N k r.1 r.2.1 r.2.2.1 r.2.2.2
theorem zin_013 : ∀ k, k < 7 → zin k = 0 ∨ zin k = 1 ∨ zin k = 3 := by decide +kernel
theorem zxs_s {rec : Nat → Nat → (Nat → Nat → Int32) → zRs} {c j : Nat} : zxs T L e rec (c + 1) j P F W us = if 0 < j ∧ zch T L P ≠ 44 then .inl (P, e) else match rec (if 0 < j then P + 1 else P) F W with
      | .inl f => .inl f
      | .inr r => zxs T L e rec c (j + 1) r.1 r.2.2.1 r.2.2.2 (va_up us j r.2.1) := rfl
theorem f_newNode (hk : k < 7) (hN : N ≤ 12) (hd : d ≤ 6) (hs : zKs n p T L N d e se) (hf : zKfl n p T L N e se) (hE : zEv m L T) (h : zRd m N P F 0) (hP : P ≤ L) (hF : 3 * F ≤ P) (hG : zGN m 149 (min F 12) W) : zNres n p N m (31 + d) (fo_X6_newNode se (some 149) (nI k) (nI e) (zC n m p)) (znd T L N k e (zpx T L N d e) P F W) := by
  have hL := hE.2.2.2.1
  have hT := hE.2.2.2.2
  have hpk := fun P F W (hP : P ≤ L) => zpx_ok (L := L) (N := N) hT hN d e P F W hP
  have hin3 : ∀ (us : Nat → Nat) (j : Nat), ¬ j < zin k → zhin N k us j = -1005 := fun us j hj => if_neg hj
  have hin1 : ∀ (us : Nat → Nat) (j : Nat), j < zin k → zhin N k us j = nI (zcv N (us j)) := fun us j hj => if_pos hj
  unfold fo_X6_newNode znd
  rw [f_inputs hE.1 hk, Option.bind_some]
  dsimp only
  rcases zin_013 k hk with hz | hz | hz
  · -- no inputs
    rw [hz, if_pos (by decide)]
    have h1 := f_nn61 (n := n) (p := p) (se := se) (us := fun _ => 0) hk hE h hP hF hG
    rw [hin3 _ 0 (by omega), hin3 _ 1 (by omega), hin3 _ 2 (by omega), hz] at h1
    have h2 : fb_X6_newNode_20 se (some 149) (nI k) (nI e) (nI 0) (-1005) (zC n m p) = fb_X6_newNode_61 se 10000 (some 149) (nI k) (nI 0) (-1005) (-1005) (-1005) 0 (zC n m p) := by
      unfold fb_X6_newNode_20 fb_X6_newNode_38
      rw [if_pos (by decide), if_pos (by decide)]
    rw [h2]
    exact zNres_mono h1 zFx_rf (by omega)
  · -- one
    rw [hz, if_neg (by decide), z_rsh, Option.bind_some]
    have h1 := hs P F W m hE h hP hF hG
    have hk1 := hpk P F W hP
    show zNres n p N m (31 + d) _ (match zxs T L e (zpx T L N d e) (0 + 1) 0 P F W (fun _ => 0) with
      | .inl f => .inl f.1
      | .inr r => zne T L N k r.1 r.2.1 r.2.2.1 r.2.2.2)
    rw [zxs_s, if_neg (fun q => absurd q.1 (by omega)), if_neg (show ¬ 0 < 0 by omega)]
    cases hr : zpx T L N d e P F W with
    | inl f =>
      rw [hr] at h1 hk1
      obtain ⟨v, m1, F1, e1, e2, e3, e4⟩ := h1
      have hf1 : f.1 ≤ L := hk1.1
      obtain ⟨v', m', g1, g2, g3⟩ := f_20F (n := n) (p := p) (x := v) hk hf (zEv_fx hE e4) e2 (by omega) (by omega) (nI 1)
      rw [e1, Option.bind_some]
      exact ⟨v', m', F1 + 1, g1, g2, by omega, zFx_tr e4 g3⟩
    | inr r =>
      rw [hr] at h1 hk1
      obtain ⟨m1, e1, e2, e3, e4⟩ := h1
      obtain ⟨a1, a2, a3, a4, -⟩ := hk1
      rw [e1, Option.bind_some]
      have h2 := f_nn61 (n := n) (p := p) (se := se) (us := va_up (fun _ => 0) 0 r.2.1) hk (zEv_fx hE e3) e2 a2 (by omega) e4
      rw [hin1 _ 0 (by omega), hin3 _ 1 (by omega), hin3 _ 2 (by omega), hz, va_up_self] at h2
      have h3 : ∀ v : Int32, fb_X6_newNode_20 se (some 149) (nI k) (nI e) (nI 1) v (zC n m1 p) = fb_X6_newNode_61 se 10000 (some 149) (nI k) (nI 1) v (-1005) (-1005) 0 (zC n m1 p) := by
        intro v
        unfold fb_X6_newNode_20 fb_X6_newNode_38
        rw [if_pos (by decide), if_pos (by decide)]
      dsimp only
      rw [h3]
      exact zNres_mono h2 e3 (by omega)
  · -- three
    rw [hz, if_neg (by decide), z_rsh, Option.bind_some]
    have h1 := hs P F W m hE h hP hF hG
    have hk1 := hpk P F W hP
    show zNres n p N m (31 + d) _ (match zxs T L e (zpx T L N d e) (2 + 1) 0 P F W (fun _ => 0) with
      | .inl f => .inl f.1
      | .inr r => zne T L N k r.1 r.2.1 r.2.2.1 r.2.2.2)
    rw [zxs_s, if_neg (fun q => absurd q.1 (by omega)), if_neg (show ¬ 0 < 0 by omega)]
    cases hr : zpx T L N d e P F W with
    | inl f =>
      rw [hr] at h1 hk1
      obtain ⟨v, m1, F1, e1, e2, e3, e4⟩ := h1
      have hf1 : f.1 ≤ L := hk1.1
      obtain ⟨v', m', g1, g2, g3⟩ := f_20F (n := n) (p := p) (x := v) hk hf (zEv_fx hE e4) e2 (by omega) (by omega) (nI 3)
      rw [e1, Option.bind_some]
      exact ⟨v', m', F1 + 1, g1, g2, by omega, zFx_tr e4 g3⟩
    | inr r =>
      rw [hr] at h1 hk1
      obtain ⟨m1, e1, e2, e3, e4⟩ := h1
      obtain ⟨a1, a2, a3, a4, -⟩ := hk1
      rw [e1, Option.bind_some]
      dsimp only
      unfold fb_X6_newNode_20
      rw [if_neg (by decide), z_rsh, Option.bind_some]
      have hE1 := zEv_fx hE e3
      show zNres n p N m (31 + d) _ (match zxs T L e (zpx T L N d e) (1 + 1) (0 + 1) r.1 r.2.2.1 r.2.2.2 (va_up (fun _ => 0) 0 r.2.1) with
        | .inl f => .inl f.1
        | .inr r => zne T L N k r.1 r.2.1 r.2.2.1 r.2.2.2)
      rw [zxs_s]
      by_cases hc : zch T L r.1 = 44
      · obtain ⟨c1, c2⟩ := zch_nat (a := 44) hc (by omega) hT
        rw [if_neg (fun q => q.2 hc), if_pos (show 0 < 0 + 1 by omega), f_next1 hE1 e2 (by omega) hc]
        have y1 : zFy m1 (ax_u2 m1 149 5 (nI (r.1 + 1))) := zFy_149
        have h2 := hs (r.1 + 1) r.2.2.1 r.2.2.2 (ax_u2 m1 149 5 (nI (r.1 + 1))) (zEv_fy hE1 y1) (zRd_5 e2) (by omega) (by omega) (zGN_congr e4 (fun i hi => ⟨y1 _ (by omega), y1 _ (by omega), y1 _ (by omega)⟩))
        have hk2 := hpk (r.1 + 1) r.2.2.1 r.2.2.2 (by omega)
        cases hr2 : zpx T L N d e (r.1 + 1) r.2.2.1 r.2.2.2 with
        | inl f =>
          rw [hr2] at h2 hk2
          obtain ⟨v, m2, F1, g1, g2, g3, g4⟩ := h2
          have hf1 : f.1 ≤ L := hk2.1
          have hx2 := zFx_tr e3 (zFx_tr (zFx_y y1) g4)
          obtain ⟨v', m', b1, b2, b3⟩ := f_38F (n := n) (p := p) (x := nI (zcv N r.2.1)) (y := v) hk hf (zEv_fx hE hx2) g2 (by omega) (by omega) (nI 3)
          rw [g1, Option.bind_some]
          exact ⟨v', m', F1 + 1, b1, b2, by omega, zFx_tr hx2 b3⟩
        | inr s =>
          rw [hr2] at h2 hk2
          obtain ⟨m2, g1, g2, g3, g4⟩ := h2
          obtain ⟨b1, b2, b3, b4, -⟩ := hk2
          rw [g1, Option.bind_some]
          dsimp only
          unfold fb_X6_newNode_38
          rw [if_neg (by decide), z_rsh, Option.bind_some]
          have hx2 := zFx_tr e3 (zFx_tr (zFx_y y1) g3)
          have hE2 := zEv_fx hE hx2
          show zNres n p N m (31 + d) _ (match zxs T L e (zpx T L N d e) (0 + 1) (0 + 1 + 1) s.1 s.2.2.1 s.2.2.2 (va_up (va_up (fun _ => 0) 0 r.2.1) (0 + 1) s.2.1) with
            | .inl f => .inl f.1
            | .inr r => zne T L N k r.1 r.2.1 r.2.2.1 r.2.2.2)
          rw [zxs_s]
          by_cases hc2 : zch T L s.1 = 44
          · obtain ⟨c3, c4⟩ := zch_nat (a := 44) hc2 (by omega) hT
            rw [if_neg (fun q => q.2 hc2), if_pos (show 0 < 0 + 1 + 1 by omega), f_next1 hE2 g2 (by omega) hc2]
            have y2 : zFy m2 (ax_u2 m2 149 5 (nI (s.1 + 1))) := zFy_149
            have h3 := hs (s.1 + 1) s.2.2.1 s.2.2.2 (ax_u2 m2 149 5 (nI (s.1 + 1))) (zEv_fy hE2 y2) (zRd_5 g2) (by omega) (by omega) (zGN_congr g4 (fun i hi => ⟨y2 _ (by omega), y2 _ (by omega), y2 _ (by omega)⟩))
            have hk3 := hpk (s.1 + 1) s.2.2.1 s.2.2.2 (by omega)
            cases hr3 : zpx T L N d e (s.1 + 1) s.2.2.1 s.2.2.2 with
            | inl f =>
              rw [hr3] at h3 hk3
              obtain ⟨v, m3, F1, q1, q2, q3, q4⟩ := h3
              have hf1 : f.1 ≤ L := hk3.1
              have hx3 := zFx_tr hx2 (zFx_tr (zFx_y y2) q4)
              obtain ⟨v', m', t1, t2, t3⟩ := f_61F0 (n := n) (p := p) (se := se) (x := nI (zcv N r.2.1)) (y := nI (zcv N s.2.1)) (z := v) hk (nI 3) (zEv_fx hE hx3) q2 (by omega)
              rw [q1, Option.bind_some]
              exact ⟨v', m', F1 + 1, t1, t2, by omega, zFx_tr hx3 t3⟩
            | inr t =>
              rw [hr3] at h3 hk3
              obtain ⟨m3, q1, q2, q3, q4⟩ := h3
              obtain ⟨u1, u2, u3, u4, -⟩ := hk3
              have hx3 := zFx_tr hx2 (zFx_tr (zFx_y y2) q3)
              rw [q1, Option.bind_some]
              have h4 := f_nn61 (n := n) (p := p) (se := se) (us := va_up (va_up (va_up (fun _ => 0) 0 r.2.1) 1 s.2.1) 2 t.2.1) hk (zEv_fx hE hx3) q2 u2 (by omega) q4
              rw [hin1 _ 0 (by omega), hin1 _ 1 (by omega), hin1 _ 2 (by omega), hz, va_up_self, va_up_ne (j := 1) _ _ (by omega), va_up_self, va_up_ne (j := 0) _ _ (by omega), va_up_ne (j := 0) _ _ (by omega), va_up_self] at h4
              exact zNres_mono h4 hx3 (by omega)
          · rw [if_pos ⟨by omega, hc2⟩]
            obtain ⟨m3, q1, q2, q3⟩ := f_next0 (n := n) (p := p) hf hE2 g2 b2 hc2
            obtain ⟨v', m', t1, t2, t3⟩ := f_61F0 (n := n) (p := p) (se := se) (x := nI (zcv N r.2.1)) (y := nI (zcv N s.2.1)) (z := -1005) hk (nI 3) (zEv_fy hE2 q3) q2 (by omega)
            rw [q1, Option.bind_some]
            exact ⟨v', m', _, t1, t2, by omega, zFx_tr hx2 (zFx_tr (zFx_y q3) t3)⟩
      · rw [if_pos ⟨by omega, hc⟩]
        obtain ⟨m2, g1, g2, g3⟩ := f_next0 (n := n) (p := p) hf hE1 e2 a2 hc
        obtain ⟨v', m', t1, t2, t3⟩ := f_38F (n := n) (p := p) (x := nI (zcv N r.2.1)) (y := -1005) hk hf (zEv_fy hE1 g3) g2 (by omega) (by omega) (nI 3)
        rw [g1, Option.bind_some]
        exact ⟨v', m', _, t1, t2, by omega, zFx_tr e3 (zFx_tr (zFx_y g3) t3)⟩
end RNEW
