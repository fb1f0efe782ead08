/-! ===== the text, apart from both programs ===== -/
def zch (T : Nat → Nat) (L P : Nat) : Int32 := if P < L then nI (T P) else -1
/-- the kind that a letter begins; 8: none -/
def zkh (c : Int32) : Nat := if c = 115 then 0 else if c = 103 then 1 else if c = 116 then 2 else if c = 105 then 3 else if c = 108 then 4 else if c = 107 then 5 else if c = 98 then 6 else if c = 110 then 7 else 8
def zdi (c : Int32) : Prop := 48 ≤ c ∧ c ≤ 57
/-- digits: their value, the place behind them -/
def zdg (T : Nat → Nat) (L P : Nat) : Nat × Nat :=
  if 48 ≤ zch T L P ∧ zch T L P ≤ 57 then
    (if T P - 48 = 0 then (0, P + 1)
    else if 48 ≤ zch T L (P + 1) ∧ zch T L (P + 1) ≤ 57 then
      (if 48 ≤ zch T L (P + 2) ∧ zch T L (P + 2) ≤ 57 then (((T P - 48) * 10 + (T (P + 1) - 48)) * 10 + (T (P + 2) - 48), P + 3) else ((T P - 48) * 10 + (T (P + 1) - 48), P + 2))
    else (T P - 48, P + 1))
  else (0, P)
/-- a number up to hi -/
def zrn (T : Nat → Nat) (L P : Nat) (hi : Int32) (neg : Bool) : Option (Nat × Nat) :=
  if (zdg T L P).2 = P then none else if hi < nI (zdg T L P).1 then none else if neg = true ∧ (zdg T L P).1 = 0 then none else some (zdg T L P)
/-- number i of a kind -/
def znu (T : Nat → Nat) (L k i P : Nat) : Nat ⊕ (Nat × Int32) :=
  if k = 2 ∧ zch T L P = 45 then
    (match zrn T L (P + 1) (zhi k i) true with
    | none => .inl (P + 1)
    | some q => .inr (q.2, -nI q.1))
  else
    (match zrn T L P (zhi k i) false with
    | none => .inl P
    | some q => .inr (q.2, nI q.1))
def zns (T : Nat → Nat) (L k : Nat) : Nat → Nat → Nat → (Nat → Int32) → Nat ⊕ (Nat × (Nat → Int32))
  | 0, _, P, ns => .inr (P, ns)
  | c + 1, i, P, ns =>
    if 0 < zin k + i ∧ zch T L P ≠ 44 then .inl P
    else match znu T L k i (if 0 < zin k + i then P + 1 else P) with
      | .inl p => .inl p
      | .inr q => zns T L k c (i + 1) q.1 (va_up ns i q.2)
/-- a fault: place and depth; or: place, value, how many nodes, the nodes -/
abbrev zRs : Type := (Nat × Nat) ⊕ (Nat × Nat × Nat × (Nat → Nat → Int32))
def zxs (T : Nat → Nat) (L e : Nat) (rec : Nat → Nat → (Nat → Nat → Int32) → zRs) : Nat → Nat → Nat → Nat → (Nat → Nat → Int32) → (Nat → Nat) → (Nat × Nat) ⊕ (Nat × Nat × (Nat → Nat → Int32) × (Nat → Nat))
  | 0, _, P, F, W, us => .inr (P, F, W, us)
  | c + 1, j, P, F, W, us =>
    if 0 < j ∧ zch T L P ≠ 44 then .inl (P, e)
    else match rec (if 0 < j then P + 1 else P) F W with
      | .inl f => .inl f
      | .inr r => zxs T L e rec c (j + 1) r.1 r.2.2.1 r.2.2.2 (va_up us j r.2.1)
/-- a value as the class has it -/
def zcv (N u : Nat) : Nat := if u < 100 then u else N + (u - 100)
def zrw (N k : Nat) (us : Nat → Nat) (ns : Nat → Int32) (w : Nat) : Int32 :=
  if w = 0 then nI k else if w = 1 then 0 else if w = 2 then 99 else if w < 6 then (if w - 3 < zin k then nI (zcv N (us (w - 3))) else -1005)
  else if w - 6 < zpn k then ns (if w - 6 < znn k then w - 6 else 0) else zaf k (w - 6)
def zput (W : Nat → Nat → Int32) (F : Nat) (r : Nat → Int32) : Nat → Nat → Int32 := fun i w => if i = F then r w else W i w
def zpx (T : Nat → Nat) (L N : Nat) : Nat → Nat → Nat → Nat → (Nat → Nat → Int32) → zRs
  | 0, e, P, _, _ => .inl (P, e)
  | d + 1, e, P, F, W =>
    if zkh (zch T L P) = 8 then .inl (P, e)
    else if zch T L (P + 1) = 40 then
      (if zkh (zch T L P) = 7 then
        (match zrn T L (P + 2) (nI N - 1) false with
        | none => .inl (P + 2, e + 1)
        | some q => if zch T L q.2 = 41 then .inr (q.2 + 1, q.1, F, W) else .inl (q.2, e + 1))
      else match zxs T L (e + 1) (zpx T L N d (e + 1)) (zin (zkh (zch T L P))) 0 (P + 2) F W (fun _ => 0) with
        | .inl f => .inl f
        | .inr r => match zns T L (zkh (zch T L P)) (znn (zkh (zch T L P))) 0 r.1 (fun _ => 0) with
          | .inl p => .inl (p, e + 1)
          | .inr q => if zch T L q.1 = 41 then .inr (q.1 + 1, 100 + r.2.1, r.2.1 + 1, zput r.2.2.1 r.2.1 (zrw N (zkh (zch T L P)) r.2.2.2 q.2)) else .inl (q.1, e + 1))
    else .inl (P + 1, e)
/-! the class reads: letters and numbers -/
def zEv (m : Nat → Nat → Int32) (L : Nat) (T : Nat → Nat) : Prop := zT m ∧ (∀ j, j < 8 → m 7 j = ax_chars.getD j 0) ∧ (m 150 1 = nI L ∧ ∀ j, j < L → m 151 j = nI (T j)) ∧ L ≤ 80 ∧ ∀ j, T j < 128
def zRd (m : Nat → Nat → Int32) (N P F : Nat) (fl : Int32) : Prop := m 149 3 = nI F ∧ m 149 4 = nI N ∧ m 149 5 = nI P ∧ m 149 6 = fl
/-- what the reader leaves alone -/
def zFx (m m' : Nat → Nat → Int32) : Prop := ∀ a, a < 149 ∨ (149 < a ∧ a < 152) ∨ a = 153 ∨ 190 ≤ a → m' a = m a
/-- .. but for its drafts and numbers -/
def zFy (m m' : Nat → Nat → Int32) : Prop := ∀ a, a ≠ 149 → m' a = m a
theorem zFx_tr {m1 m2 m3 : Nat → Nat → Int32} (h1 : zFx m1 m2) (h2 : zFx m2 m3) : zFx m1 m3 := fun a ha => (h2 a ha).trans (h1 a ha)
theorem zFy_tr {m1 m2 m3 : Nat → Nat → Int32} (h1 : zFy m1 m2) (h2 : zFy m2 m3) : zFy m1 m3 := fun a ha => (h2 a ha).trans (h1 a ha)
theorem zFy_rf {m : Nat → Nat → Int32} : zFy m m := fun _ _ => rfl
theorem zFx_rf {m : Nat → Nat → Int32} : zFx m m := fun _ _ => rfl
theorem zFx_y {m m' : Nat → Nat → Int32} (h : zFy m m') : zFx m m' := fun a ha => h a (by omega)
section READ
variable {n L N P F k i : Nat} {m m' : Nat → Nat → Int32} {p T : Nat → Nat} {c fl hi x : Int32}
theorem zEv_fx (h : zEv m L T) (hf : zFx m m') : zEv m' L T := by
  obtain ⟨h1, h2, ⟨h3, h4⟩, h5, h6⟩ := h
  exact ⟨fun a j ha => by rw [hf a (by omega)]; exact h1 a j ha, fun j hj => by rw [hf 7 (by omega)]; exact h2 j hj, ⟨by rw [hf 150 (by omega)]; exact h3, fun j hj => by rw [hf 151 (by omega)]; exact h4 j hj⟩, h5, h6⟩
theorem zEv_fy (h : zEv m L T) (hf : zFy m m') : zEv m' L T := zEv_fx h (zFx_y hf)
theorem zRd_5 {v : Nat} (h : zRd m N P F fl) : zRd (ax_u2 m 149 5 (nI v)) N v F fl := ⟨by rw [ax_u2_nk (by omega)]; exact h.1, by rw [ax_u2_nk (by omega)]; exact h.2.1, ax_u2_self, by rw [ax_u2_nk (by omega)]; exact h.2.2.2⟩
theorem zRd_6 {v : Int32} (h : zRd m N P F fl) : zRd (ax_u2 m 149 6 v) N P F v := ⟨by rw [ax_u2_nk (by omega)]; exact h.1, by rw [ax_u2_nk (by omega)]; exact h.2.1, by rw [ax_u2_nk (by omega)]; exact h.2.2.1, ax_u2_self⟩
theorem zFy_149 {k : Nat} : zFy m (ax_u2 m 149 k x) := fun a ha => zu2_row ha
theorem f_chr (hE : zEv m L T) (hP : P < 2 ^ 31) : fn_X8_at (some 150) (nI P) (zC n m p) = some (zch T L P, zC n m p) := by
  obtain ⟨h1, h2, ⟨h3, h4⟩, h5, h6⟩ := hE
  unfold fn_X8_at zch
  rw [z_t1, h3, Option.bind_some, f_isIn, Option.bind_some]
  dsimp only
  by_cases hl : P < L
  · rw [zB_t ⟨z_pos hP, z_le_pred (by omega) hl⟩, if_neg (by decide), z_t0, Option.bind_some, z_ta (by omega), h4 P hl, Option.bind_some, if_pos hl]
  · rw [zB_f (fun q => ?_), if_pos rfl, if_neg hl]
    obtain ⟨j, hj, e⟩ := z_inlt (by omega) q.1 q.2
    have := nI_inj hP (by omega) e
    omega
theorem zch_lt (h : 0 ≤ zch T L P) : P < L := by
  unfold zch at h
  by_cases hl : P < L
  · exact hl
  · rw [if_neg hl] at h
    exact absurd h (by decide)
theorem zch_di (h : 48 ≤ zch T L P ∧ zch T L P ≤ 57) (hT : ∀ j, T j < 128) : P < L ∧ 48 ≤ T P ∧ T P ≤ 57 ∧ zch T L P = nI (T P) := by
  have hl : P < L := zch_lt (Int32.le_trans (by decide) h.1)
  have e : zch T L P = nI (T P) := if_pos hl
  rw [e] at h
  have := hT P
  exact ⟨hl, (nI_leI (a := 48) (by omega) (by omega)).mp h.1, (nI_leI (b := 57) (by omega) (by omega)).mp h.2, e⟩
theorem zdg_le (hT : ∀ j, T j < 128) : P ≤ (zdg T L P).2 ∧ ((zdg T L P).2 = P ∨ (zdg T L P).2 ≤ L) ∧ (zdg T L P).1 < 1000 := by
  unfold zdg
  by_cases h1 : 48 ≤ zch T L P ∧ zch T L P ≤ 57
  · obtain ⟨a1, a2, a3, -⟩ := zch_di h1 hT
    rw [if_pos h1]
    by_cases h0 : T P - 48 = 0
    · rw [if_pos h0]; exact ⟨by show P ≤ P + 1; omega, Or.inr (by show P + 1 ≤ L; omega), by show 0 < 1000; omega⟩
    · rw [if_neg h0]
      by_cases h2 : 48 ≤ zch T L (P + 1) ∧ zch T L (P + 1) ≤ 57
      · obtain ⟨b1, b2, b3, -⟩ := zch_di h2 hT
        rw [if_pos h2]
        by_cases h3 : 48 ≤ zch T L (P + 2) ∧ zch T L (P + 2) ≤ 57
        · obtain ⟨c1, c2, c3, -⟩ := zch_di h3 hT
          rw [if_pos h3]; exact ⟨by show P ≤ P + 3; omega, Or.inr (by show P + 3 ≤ L; omega), by show ((T P - 48) * 10 + (T (P + 1) - 48)) * 10 + (T (P + 2) - 48) < 1000; omega⟩
        · rw [if_neg h3]; exact ⟨by show P ≤ P + 2; omega, Or.inr (by show P + 2 ≤ L; omega), by show (T P - 48) * 10 + (T (P + 1) - 48) < 1000; omega⟩
      · rw [if_neg h2]; exact ⟨by show P ≤ P + 1; omega, Or.inr (by show P + 1 ≤ L; omega), by show T P - 48 < 1000; omega⟩
  · rw [if_neg h1]; exact ⟨Nat.le_refl _, Or.inl rfl, by show 0 < 1000; omega⟩
theorem zkh_le (c : Int32) : zkh c ≤ 8 := by
  unfold zkh
  split
  · omega
  · split
    · omega
    · split
      · omega
      · split
        · omega
        · split
          · omega
          · split
            · omega
            · split
              · omega
              · split <;> omega
/-- the class looks a letter up -/
def zix (c : Int32) : Nat → Nat → Int32
  | 0, _ => -1
  | d + 1, j => if ax_chars.getD j 0 = c then nI j else zix c d (j + 1)
theorem f_index_lp (hS : ∀ j, j < 8 → m 7 j = ax_chars.getD j 0) : ∀ (d j f : Nat), j + d = 8 → d < f → fb_J1_indexOfChar_4cfef_7 f (some 7) 8 c (nI j) (zC n m p) = some (zix c d j, zC n m p) := by
  intro d
  induction d with
  | zero =>
    intro j f hj hf
    obtain ⟨f, rfl⟩ : ∃ k, f = k + 1 := ⟨f - 1, by omega⟩
    obtain rfl : j = 8 := by omega
    unfold fb_J1_indexOfChar_4cfef_7
    rw [if_pos (show (8 : Int32) ≤ nI 8 by decide)]
    rfl
  | succ d ih =>
    intro j f hj hf
    obtain ⟨f, rfl⟩ : ∃ k, f = k + 1 := ⟨f - 1, by omega⟩
    unfold fb_J1_indexOfChar_4cfef_7
    rw [if_neg (show ¬ (8 : Int32) ≤ nI j from nI_ge (b := 8) (by omega) (by omega)), z_al (a := 7) (t := 8) (by omega) rfl (by show j < 8; omega) (by omega), hS j (by omega), Option.bind_some, nI_1]
    unfold zix
    split
    · rfl
    · exact ih (j + 1) f (by omega) (by omega)
theorem zix_all : ∀ c : Nat, c < 128 → zix (nI c).toInt8.toInt32 8 0 = (if zkh (nI c) = 8 then -1 else nI (zkh (nI c))) ∧ ((nI c).toUInt32 % 65536).toInt32 = nI c ∧ ¬ nI c < 0 ∧ ¬ (255 : Int32) < nI c := by decide +kernel
theorem z_sh8 : (8 : Int32) >>> ((0 : Int32) &&& 31) = 8 := by decide +kernel
theorem z_if0 : (if (0 : Int32) < 0 then (0 : Int32) else 0) = 0 := by decide +kernel
theorem f_ix1 {c : Nat} (hS : ∀ j, j < 8 → m 7 j = ax_chars.getD j 0) : fb_J1_indexOfChar_4cfef_7 10000 (some 7) 8 (nI c).toInt8.toInt32 0 (zC n m p) = some (zix (nI c).toInt8.toInt32 8 0, zC n m p) := by
  have h := f_index_lp (n := n) (p := p) (c := (nI c).toInt8.toInt32) hS 8 0 10000 rfl (by omega)
  rw [nI_0] at h
  exact h
theorem f_ix2 {x : Int32} {v : Option (Int32 × ax_S)} {s : ax_S} (h : fb_J1_indexOfChar_4cfef_7 10000 (some 7) 8 x.toInt8.toInt32 0 s = v) : fn_J1_indexOfChar_4cfef (some 7) x 0 8 s = v := by
  unfold fn_J1_indexOfChar_4cfef ax_bd
  exact h
theorem f_ix3 {c : Nat} (hc : c < 128) : fn_J1_indexOf_4cfef (some 7) (nI c) 0 8 (zC n m p) = (fn_J1_indexOfChar_4cfef (some 7) (nI c) 0 8 (zC n m p)).bind fun q7 => some (q7.1, q7.2) := by
  obtain ⟨e1, e2, e3, e4⟩ := zix_all c hc
  unfold fn_J1_indexOf_4cfef fn_J1_canEncode_9a6ad fi_J1_canEncode_9a6ad
  rw [if_neg e3, if_neg e4, zbz1, Option.bind_some]
  dsimp only
  rw [if_neg (by decide)]
  unfold ax_bd
  dsimp only
  rw [z_ln (a := 7) (t := 8) (by omega) rfl, Option.bind_some, show nI (zs_sh n 7).2 = 8 from rfl, z_if0]
  rw [if_neg (show ¬ (8 : Int32) < 8 by decide), if_pos (show (0 : Int32) < 8 by decide)]
theorem f_ix4 {c : Nat} (hS : ∀ j, j < 8 → m 7 j = ax_chars.getD j 0) (hc : c < 128) : fn_J1_indexOf_4cfef (some 7) (nI c) 0 8 (zC n m p) = some (if zkh (nI c) = 8 then -1 else nI (zkh (nI c)), zC n m p) := by
  rw [f_ix3 hc, f_ix2 (f_ix1 hS), (zix_all c hc).1, Option.bind_some]
theorem f_index {c : Nat} (hS : ∀ j, j < 8 → m 7 j = ax_chars.getD j 0) (hc : c < 128) : fn_J0_indexOf_0f7a4 (nI c) (zC n m p) = some (if zkh (nI c) = 8 then -1 else nI (zkh (nI c)), zC n m p) := by
  unfold fn_J0_indexOf_0f7a4 fn_J0_indexOf_7cf53 fn_J0_isLatin1_aae02 fi_J0_isLatin1_aae02
  rw [if_neg (by decide), if_pos rfl, zbz1, Option.bind_some]
  dsimp only
  rw [if_neg (by decide)]
  unfold fn_J0_length_8abf5 fn_J0_coder_7d493 fi_J0_coder_7d493
  rw [z_ln (a := 7) (t := 8) (by omega) rfl, Option.bind_some, if_neg (by decide)]
  have hby : ax_by (some ((0 : Int32), zC n m p)) = some ((0 : Int32), zC n m p) := by simp [ax_by]
  rw [hby, Option.bind_some, Option.bind_some]
  dsimp only
  rw [show nI (zs_sh n 7).2 = 8 from rfl, z_sh8, f_ix4 hS hc, Option.bind_some, Option.bind_some]
theorem f_kind9 (hE : zEv m L T) (h : zRd m N P F fl) (hP : P < 2 ^ 31) : fn_X6_kindHere (some 149) (zC n m p) = some (if zkh (zch T L P) = 8 then -1005 else nI (zkh (zch T L P)), zC n m p) := by
  unfold fn_X6_kindHere fb_X6_kindHere_27
  rw [z_rr, show zR p 149 0 = some 150 from rfl, Option.bind_some, z_rd, h.2.2.1, Option.bind_some, z_tsh, Option.bind_some, f_chr hE hP, Option.bind_some]
  dsimp only
  by_cases h0 : 0 ≤ zch T L P
  · have hl := zch_lt h0
    have e : zch T L P = nI (T P) := if_pos hl
    have hTP := hE.2.2.2.2 P
    rw [if_pos h0, e, (zix_all _ hTP).2.1, f_index hE.2.1 hTP, Option.bind_some]
    dsimp only
    by_cases h8 : zkh (nI (T P)) = 8
    · rw [if_pos h8, if_pos h8, if_neg (by decide)]
    · have := zkh_le (nI (T P))
      rw [if_neg h8, if_neg h8, if_pos (z_pos (by omega))]
  · have hl : ¬ P < L := fun hl => h0 (by rw [show zch T L P = nI (T P) from if_pos hl]; exact z_pos (by have := hE.2.2.2.2 P; omega))
    have e : zch T L P = -1 := if_neg hl
    rw [if_neg h0, if_neg (by decide), e, if_pos (by decide)]
end READ
