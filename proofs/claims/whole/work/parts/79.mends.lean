/-! ===== the model reads: an expression begins, a node ends ===== -/
section MENDS
variable {n L N P F D k i e g : Nat} {m m' : Nat → Nat → Int32} {p T : Nat → Nat} {c hi x : Int32}
theorem z_m22 : ax_gr (zC n m p) 7 22 (some 275) = some (some 290) := z_gr (by omega) rfl
theorem z_m23 : ax_gr (zC n m p) 7 23 (some 275) = some (some 291) := z_gr (by omega) rfl
theorem z_m24 : ax_gr (zC n m p) 7 24 (some 275) = some (some 292) := z_gr (by omega) rfl
theorem z_m26 : ax_gr (zC n m p) 7 26 (some 275) = some (some 293) := z_gr (by omega) rfl
theorem z_o0 {j : Nat} (hj : j < 7) : ax_al (zC n m p) 9 (some 290) (nI j) = some (m 290 j) := z_al (by omega) rfl (by exact hj) (by omega)
theorem z_o0s {j : Nat} (hj : j < 7) : ax_as (zC n m p) 9 (some 290) (nI j) x = some (zC n (ax_u2 m 290 j x) p) := z_as (by omega) (by omega) rfl (by exact hj) (by omega)
theorem z_o1 {j : Nat} (hj : j < 7) : ax_al (zC n m p) 9 (some 291) (nI j) = some (m 291 j) := z_al (by omega) rfl (by exact hj) (by omega)
theorem z_o1s {j : Nat} (hj : j < 7) : ax_as (zC n m p) 9 (some 291) (nI j) x = some (zC n (ax_u2 m 291 j x) p) := z_as (by omega) (by omega) rfl (by exact hj) (by omega)
theorem z_o2 {j : Nat} (hj : j < 240) : ax_al (zC n m p) 9 (some 292) (nI j) = some (m 292 j) := z_al (by omega) rfl (by exact hj) (by omega)
theorem z_o2s {j : Nat} (hj : j < 240) : ax_as (zC n m p) 9 (some 292) (nI j) x = some (zC n (ax_u2 m 292 j x) p) := z_as (by omega) (by omega) rfl (by exact hj) (by omega)
theorem z_o3 {j : Nat} (hj : j < 40) : ax_al (zC n m p) 9 (some 293) (nI j) = some (m 293 j) := z_al (by omega) rfl (by exact hj) (by omega)
theorem z_o3s {j : Nat} (hj : j < 40) : ax_as (zC n m p) 9 (some 293) (nI j) x = some (zC n (ax_u2 m 293 j x) p) := z_as (by omega) (by omega) rfl (by exact hj) (by omega)
theorem m_beg0 (hE : zEm m L T N) (h : m 275 19 = nI P) (h20 : m 275 20 = nI e) (hP : P < 2 ^ 31) (hc : zkh (zch T L P) = 8 ∨ e = 6) : fn_X10_begins (some 275) (zC n m p) = some (0, zC n m p) := by
  unfold fn_X10_begins fi_X10_begins
  rw [z_mo 0, Option.bind_some, m_kind hE h hP, Option.bind_some]
  by_cases h8 : zkh (zch T L P) = 8
  · rw [if_pos h8]
    dsimp only
    rw [if_pos (by decide), zbz0]
  · have := zkh_le (zch T L P)
    have he : e = 6 := hc.elim (fun q => absurd q h8) (fun q => q)
    subst he
    rw [if_neg h8]
    dsimp only
    rw [if_neg (nI_pos (by omega)), z_m1, h20, Option.bind_some, if_pos (show nI 6 = (6 : Int32) by decide), zbz0]
theorem m_beg1 (hE : zEm m L T N) (h : m 275 19 = nI P) (h20 : m 275 20 = nI e) (hP : P + 1 < 2 ^ 31) (hc : ¬ zkh (zch T L P) = 8) (he : e < 6) (h40 : zch T L (P + 1) ≠ 40) : fn_X10_begins (some 275) (zC n m p) = some (0, zC n (ax_u2 m 275 19 (nI (P + 1))) p) := by
  have := zkh_le (zch T L P)
  unfold fn_X10_begins fi_X10_begins
  rw [z_mo 0, Option.bind_some, m_kind hE h (by omega), Option.bind_some, if_neg hc]
  dsimp only
  rw [if_neg (nI_pos (by omega)), z_m1, h20, Option.bind_some, if_neg (show ¬ nI e = (6 : Int32) from fun q => absurd (nI_inj (b := 6) (by omega) (by omega) q) (by omega)), z_m1, h, Option.bind_some, nI_1, z_m2, Option.bind_some, z_mo 0, Option.bind_some]
  rw [m_takes0 (zEm_fq hE (zFq_fl (zFl_1 (Or.inl rfl)))) ax_u2_self hP h40, Option.bind_some]
  dsimp only
  rw [if_pos rfl, zbz0]
theorem m_beg2 (hE : zEm m L T N) (h : m 275 19 = nI P) (h20 : m 275 20 = nI e) (hP : P + 2 < 2 ^ 31) (hc : ¬ zkh (zch T L P) = 8) (he : e < 6) (h40 : zch T L (P + 1) = 40) : ∃ m', fn_X10_begins (some 275) (zC n m p) = some (1, zC n m' p) ∧ m' 275 19 = nI (P + 2) ∧ m' 275 20 = nI (e + 1) ∧ m' 290 e = nI (zkh (zch T L P)) ∧ m' 291 e = 0 ∧ (∀ i, i ≠ e → m' 290 i = m 290 i ∧ m' 291 i = m 291 i) ∧ (∀ a, a ≠ 275 → a ≠ 290 → a ≠ 291 → m' a = m a) ∧ ∀ j, j ≠ 19 → j ≠ 20 → m' 275 j = m 275 j := by
  have := zkh_le (zch T L P)
  generalize hm1 : ax_u2 m 275 19 (nI (P + 1)) = m1
  generalize hm2 : ax_u2 m1 275 19 (nI (P + 2)) = m2
  generalize hm3 : ax_u2 m2 290 e (nI (zkh (zch T L P))) = m3
  generalize hm4 : ax_u2 m3 291 e 0 = m4
  generalize hm5 : ax_u2 m4 275 20 (nI (e + 1)) = m5
  have e12 : ∀ a, a ≠ 275 → m2 a = m a := fun a ha => by rw [← hm2, zu2_row ha, ← hm1, zu2_row ha]
  have e3 : ∀ a, a ≠ 290 → m3 a = m2 a := fun a ha => by rw [← hm3]; exact zu2_row ha
  have e4 : ∀ a, a ≠ 291 → m4 a = m3 a := fun a ha => by rw [← hm4]; exact zu2_row ha
  have e5 : ∀ a, a ≠ 275 → m5 a = m4 a := fun a ha => by rw [← hm5]; exact zu2_row ha
  have k2 : ∀ j, j ≠ 19 → m2 275 j = m 275 j := fun j hj => by rw [← hm2, ax_u2_nk hj, ← hm1, ax_u2_nk hj]
  refine ⟨m5, ?_, ?_, ?_, ?_, ?_, fun i hi => ⟨?_, ?_⟩, fun a h1 h2 h3 => by rw [e5 a h1, e4 a h3, e3 a h2, e12 a h1], fun j h1 h2 => ?_⟩
  · unfold fn_X10_begins fi_X10_begins
    rw [z_mo 0, Option.bind_some, m_kind hE h (by omega), Option.bind_some, if_neg hc]
    dsimp only
    rw [if_neg (nI_pos (by omega)), z_m1, h20, Option.bind_some, if_neg (show ¬ nI e = (6 : Int32) from fun q => absurd (nI_inj (b := 6) (by omega) (by omega) q) (by omega)), z_m1, h, Option.bind_some, nI_1, z_m2, hm1, Option.bind_some, z_mo 0, Option.bind_some]
    have h1 : m1 275 19 = nI (P + 1) := by rw [← hm1]; exact ax_u2_self
    have hE1 : zEm m1 L T N := by rw [← hm1]; exact zEm_fq hE (zFq_fl (zFl_1 (Or.inl rfl)))
    rw [m_takes1 hE1 h1 (by omega) h40, show P + 1 + 1 = P + 2 from rfl, hm2, Option.bind_some]
    dsimp only
    rw [if_neg (by decide), z_m22, Option.bind_some, z_m1, k2 20 (by omega), h20, Option.bind_some, z_o0s (by omega), hm3, Option.bind_some, z_m23, Option.bind_some, z_m1, e3 275 (by omega), k2 20 (by omega), h20, Option.bind_some, z_o1s (by omega), hm4, Option.bind_some, z_m1, e4 275 (by omega), e3 275 (by omega), k2 20 (by omega), h20, Option.bind_some, nI_1, z_m2, hm5, Option.bind_some, zbz1]
  · rw [← hm5, ax_u2_nk (by omega), e4 _ (by omega), e3 _ (by omega), ← hm2, ax_u2_self]
  · rw [← hm5, ax_u2_self]
  · rw [e5 _ (by omega), e4 _ (by omega), ← hm3, ax_u2_self]
  · rw [e5 _ (by omega), ← hm4, ax_u2_self]
  · rw [e5 _ (by omega), e4 _ (by omega), ← hm3, ax_u2_nk hi, e12 _ (by omega)]
  · rw [e5 _ (by omega), ← hm4, ax_u2_nk hi, e3 _ (by omega), e12 _ (by omega)]
  · rw [← hm5, ax_u2_nk h2, e4 _ (by omega), e3 _ (by omega), k2 j h1]
section K98
variable {k98 : Option Nat → Int32 → Int32 → Int32 → Int32 → Int32 → Int32 → Int32 → ax_S → Option (Int32 × ax_S)} {ns : Nat → Int32} {a1 a6 v : Int32} {s : ax_S}
theorem m_183 (hi : i < 4) : fb_X10_ends_183 k98 (some 275) a1 (ns 0) (ns 1) (ns 2) (ns 3) a6 (nI i) v s = k98 (some 275) a1 (va_up ns i v 0) (va_up ns i v 1) (va_up ns i v 2) (va_up ns i v 3) a6 (nI (i + 1)) s := by
  have hc : i = 0 ∨ i = 1 ∨ i = 2 ∨ i = 3 := by omega
  unfold fb_X10_ends_183 fb_X10_ends_196 fb_X10_ends_209 fb_X10_ends_223
  rw [nI_1]
  rcases hc with rfl | rfl | rfl | rfl
  · rw [if_pos (by decide), if_neg (by decide), if_neg (by decide), if_neg (by decide)]
    rfl
  · rw [if_neg (by decide), if_pos (by decide), if_neg (by decide), if_neg (by decide)]
    rfl
  · rw [if_neg (by decide), if_neg (by decide), if_pos (by decide), if_neg (by decide)]
    rfl
  · rw [if_neg (by decide), if_neg (by decide), if_neg (by decide), if_pos (by decide)]
    rfl
theorem m_152 {neg : Bool} (hE : zEm m L T N) (h : m 275 19 = nI P) (hP : P + 8 < 2 ^ 31) (hk : k < 7) (hi : i < znn k) : match zrn T L P (zhi k i) neg with
    | none => ∃ m', fb_X10_ends_139 k98 (some 275) (nI k) (ns 0) (ns 1) (ns 2) (ns 3) a6 (nI i) (zq neg) (zC n m p) = some (0, zC n m' p) ∧ m' 275 19 = nI P ∧ zFl m m'
    | some q => ∃ m', fb_X10_ends_139 k98 (some 275) (nI k) (ns 0) (ns 1) (ns 2) (ns 3) a6 (nI i) (zq neg) (zC n m p) = k98 (some 275) (nI k) (va_up ns i (if neg = true then -nI q.1 else nI q.1) 0) (va_up ns i (if neg = true then -nI q.1 else nI q.1) 1) (va_up ns i (if neg = true then -nI q.1 else nI q.1) 2) (va_up ns i (if neg = true then -nI q.1 else nI q.1) 3) a6 (nI (i + 1)) (zC n m' p) ∧ m' 275 19 = nI q.2 ∧ zFl m m' := by
  obtain ⟨h4, hp4, hsrc⟩ := znn_ok k hk
  have hzp : ∀ k, k < 7 → ∀ i, i < znn k → i < zpn k := by decide +kernel
  have hnum := m_number (n := n) (p := p) (hi := zhi k i) (neg := neg) hE h hP
  have hun : fb_X10_ends_139 k98 (some 275) (nI k) (ns 0) (ns 1) (ns 2) (ns 3) a6 (nI i) (zq neg) (zC n m p) = (fn_X10_number (some 275) (if neg = true then 1 else 0) (zhi k i) (zC n m p)).bind fun q30 => if q30.1 = 0 then some ((0), q30.2) else if zq neg = 0 then (ax_gi q30.2 7 21 (some 275)).bind fun x33 => fb_X10_ends_183 k98 (some 275) (nI k) (ns 0) (ns 1) (ns 2) (ns 3) a6 (nI i) x33 q30.2 else (ax_gi q30.2 7 21 (some 275)).bind fun x34 => fb_X10_ends_183 k98 (some 275) (nI k) (ns 0) (ns 1) (ns 2) (ns 3) a6 (nI i) (-x34) q30.2 := by
    unfold fb_X10_ends_139 fb_X10_ends_152
    rw [f_high hk (hzp k hk i hi), Option.bind_some]
    dsimp only
    rw [z_mo 0, Option.bind_some]
    cases neg
    · rw [if_pos (show zq false = 0 from rfl)]
      rfl
    · rw [if_neg (show ¬ zq true = 0 by decide)]
      rfl
  rw [hun]
  unfold zMN at hnum
  cases hz : zrn T L P (zhi k i) neg with
  | none =>
    rw [hz] at hnum
    obtain ⟨m', e1, e2, e3⟩ := hnum
    rw [e1, Option.bind_some]
    exact ⟨m', rfl, e2, e3⟩
  | some q =>
    rw [hz] at hnum
    obtain ⟨m', e1, e2, e3, e4⟩ := hnum
    rw [e1, Option.bind_some]
    dsimp only
    rw [if_neg (by decide), z_m1, e3, Option.bind_some, Option.bind_some, m_183 (by omega), m_183 (by omega)]
    refine ⟨m', ?_, e2, e4⟩
    cases neg
    · rw [if_pos (show zq false = 0 from rfl)]
      rfl
    · rw [if_neg (show ¬ zq true = 0 by decide)]
      rfl
theorem zkk2 : ∀ k, k < 7 → (nI k = (2 : Int32) ↔ k = 2) := by decide +kernel
theorem m_120 (hE : zEm m L T N) (h : m 275 19 = nI P) (hP : P + 9 < 2 ^ 31) (hk : k < 7) (hi : i < znn k) : match znu T L k i P with
    | .inl q => ∃ m', fb_X10_ends_120 k98 (some 275) (nI k) (ns 0) (ns 1) (ns 2) (ns 3) a6 (nI i) (zC n m p) = some (0, zC n m' p) ∧ m' 275 19 = nI q ∧ zFl m m'
    | .inr q => ∃ m', fb_X10_ends_120 k98 (some 275) (nI k) (ns 0) (ns 1) (ns 2) (ns 3) a6 (nI i) (zC n m p) = k98 (some 275) (nI k) (va_up ns i q.2 0) (va_up ns i q.2 1) (va_up ns i q.2 2) (va_up ns i q.2 3) a6 (nI (i + 1)) (zC n m' p) ∧ m' 275 19 = nI q.1 ∧ zFl m m' := by
  unfold znu
  by_cases hc : k = 2 ∧ zch T L P = 45
  · rw [if_pos hc]
    have f1 : zFl m (ax_u2 m 275 19 (nI (P + 1))) := zFl_1 (Or.inl rfl)
    have h1 := m_152 (n := n) (p := p) (k98 := k98) (ns := ns) (a6 := a6) (neg := true) (zEm_fq hE (zFq_fl f1)) (ax_u2_self (x := nI (P + 1))) (by omega) hk hi
    have hun : fb_X10_ends_120 k98 (some 275) (nI k) (ns 0) (ns 1) (ns 2) (ns 3) a6 (nI i) (zC n m p) = fb_X10_ends_139 k98 (some 275) (nI k) (ns 0) (ns 1) (ns 2) (ns 3) a6 (nI i) (zq true) (zC n (ax_u2 m 275 19 (nI (P + 1))) p) := by
      unfold fb_X10_ends_120
      rw [if_pos ((zkk2 k hk).mpr hc.1), z_mo 0, Option.bind_some, m_takes1 hE h (by omega) hc.2, Option.bind_some]
      dsimp only
      rw [if_neg (by decide)]
      rfl
    rw [hun]
    cases hz : zrn T L (P + 1) (zhi k i) true with
    | none =>
      rw [hz] at h1
      obtain ⟨m', e1, e2, e3⟩ := h1
      exact ⟨m', e1, e2, zFl_tr f1 e3⟩
    | some q =>
      rw [hz] at h1
      obtain ⟨m', e1, e2, e3⟩ := h1
      exact ⟨m', e1, e2, zFl_tr f1 e3⟩
  · rw [if_neg hc]
    have h1 := m_152 (n := n) (p := p) (k98 := k98) (ns := ns) (a6 := a6) (neg := false) hE h (by omega) hk hi
    have hun : fb_X10_ends_120 k98 (some 275) (nI k) (ns 0) (ns 1) (ns 2) (ns 3) a6 (nI i) (zC n m p) = fb_X10_ends_139 k98 (some 275) (nI k) (ns 0) (ns 1) (ns 2) (ns 3) a6 (nI i) (zq false) (zC n m p) := by
      unfold fb_X10_ends_120 fb_X10_ends_138
      by_cases h2 : k = 2
      · rw [if_pos ((zkk2 k hk).mpr h2), z_mo 0, Option.bind_some, m_takes0 hE h (by omega) (fun q => hc ⟨h2, q⟩), Option.bind_some]
        dsimp only
        rw [if_pos rfl]
        rfl
      · rw [if_neg (fun q => h2 ((zkk2 k hk).mp q))]
        rfl
    rw [hun]
    cases hz : zrn T L P (zhi k i) false with
    | none =>
      rw [hz] at h1
      exact h1
    | some q =>
      rw [hz] at h1
      exact h1
end K98
theorem zk_cm : ∀ k, k < 7 → ∀ i, i < znn k → (nI k = (0 : Int32) ↔ ¬ 0 < zin k + i) := by decide +kernel
theorem m_98 (hk : k < 7) : ∀ (c i P : Nat) (ns : Nat → Int32) (m : Nat → Nat → Int32), i + c = znn k → zEm m L T N → m 275 19 = nI P → P ≤ L → match zns T L k c i P ns with
    | .inl q => ∃ m', fb_X10_ends_98 (g + 1 + c) (some 275) (nI k) (ns 0) (ns 1) (ns 2) (ns 3) (nI (znn k)) (nI i) (zC n m p) = some (0, zC n m' p) ∧ m' 275 19 = nI q ∧ zFl m m'
    | .inr q => ∃ m', fb_X10_ends_98 (g + 1 + c) (some 275) (nI k) (ns 0) (ns 1) (ns 2) (ns 3) (nI (znn k)) (nI i) (zC n m p) = fb_X10_ends_98 (g + 1) (some 275) (nI k) (q.2 0) (q.2 1) (q.2 2) (q.2 3) (nI (znn k)) (nI (znn k)) (zC n m' p) ∧ m' 275 19 = nI q.1 ∧ zFl m m' := by
  have h4 := (znn_ok k hk).1
  intro c
  induction c with
  | zero =>
    intro i P ns m hi hE h hP
    obtain rfl : i = znn k := by omega
    exact ⟨m, rfl, h, zFl_rf⟩
  | succ c ih =>
    intro i P ns m hi hE h hP
    have hL := hE.2.2.2.1
    have hT := hE.2.2.2.2
    have hun : fb_X10_ends_98 (g + 1 + (c + 1)) (some 275) (nI k) (ns 0) (ns 1) (ns 2) (ns 3) (nI (znn k)) (nI i) (zC n m p) = if nI k = 0 then fb_X10_ends_120 (fb_X10_ends_98 (g + 1 + c)) (some 275) (nI k) (ns 0) (ns 1) (ns 2) (ns 3) (nI (znn k)) (nI i) (zC n m p) else (fn_X10_takes (some 275) 44 (zC n m p)).bind fun q52 => if q52.1 = 0 then some ((0), q52.2) else fb_X10_ends_120 (fb_X10_ends_98 (g + 1 + c)) (some 275) (nI k) (ns 0) (ns 1) (ns 2) (ns 3) (nI (znn k)) (nI i) q52.2 := by
      rw [show g + 1 + (c + 1) = (g + 1 + c) + 1 by omega]
      conv => lhs; unfold fb_X10_ends_98
      rw [if_neg (nI_ge (by omega) (by omega)), z_mo 0, Option.bind_some]
    have hgo : ∀ (P1 : Nat) (m1 : Nat → Nat → Int32), zEm m1 L T N → m1 275 19 = nI P1 → P1 ≤ L → zFl m m1 → fb_X10_ends_98 (g + 1 + (c + 1)) (some 275) (nI k) (ns 0) (ns 1) (ns 2) (ns 3) (nI (znn k)) (nI i) (zC n m p) = fb_X10_ends_120 (fb_X10_ends_98 (g + 1 + c)) (some 275) (nI k) (ns 0) (ns 1) (ns 2) (ns 3) (nI (znn k)) (nI i) (zC n m1 p) → match (match znu T L k i P1 with
          | .inl p => .inl p
          | .inr q => zns T L k c (i + 1) q.1 (va_up ns i q.2) : Nat ⊕ (Nat × (Nat → Int32))) with
        | .inl q => ∃ m', fb_X10_ends_98 (g + 1 + (c + 1)) (some 275) (nI k) (ns 0) (ns 1) (ns 2) (ns 3) (nI (znn k)) (nI i) (zC n m p) = some (0, zC n m' p) ∧ m' 275 19 = nI q ∧ zFl m m'
        | .inr q => ∃ m', fb_X10_ends_98 (g + 1 + (c + 1)) (some 275) (nI k) (ns 0) (ns 1) (ns 2) (ns 3) (nI (znn k)) (nI i) (zC n m p) = fb_X10_ends_98 (g + 1) (some 275) (nI k) (q.2 0) (q.2 1) (q.2 2) (q.2 3) (nI (znn k)) (nI (znn k)) (zC n m' p) ∧ m' 275 19 = nI q.1 ∧ zFl m m' := by
      intro P1 m1 hE1 h1 hP1 hf1 heq
      have h2 := m_120 (n := n) (p := p) (k98 := fb_X10_ends_98 (g + 1 + c)) (ns := ns) (a6 := nI (znn k)) hE1 h1 (by omega) hk (show i < znn k by omega)
      cases hz : znu T L k i P1 with
      | inl q =>
        rw [hz] at h2
        obtain ⟨m', e1, e2, e3⟩ := h2
        exact ⟨m', heq.trans e1, e2, zFl_tr hf1 e3⟩
      | inr q =>
        rw [hz] at h2
        obtain ⟨m2, e1, e2, e3⟩ := h2
        obtain ⟨a1, a2, -, -⟩ := znu_ok hT hk (show i < znn k by omega) hz
        have h3 := ih (i + 1) q.1 (va_up ns i q.2) m2 (by omega) (zEm_fq hE1 (zFq_fl e3)) e2 a2
        show match zns T L k c (i + 1) q.1 (va_up ns i q.2) with
          | .inl q => ∃ m', fb_X10_ends_98 (g + 1 + (c + 1)) (some 275) (nI k) (ns 0) (ns 1) (ns 2) (ns 3) (nI (znn k)) (nI i) (zC n m p) = some (0, zC n m' p) ∧ m' 275 19 = nI q ∧ zFl m m'
          | .inr q => ∃ m', fb_X10_ends_98 (g + 1 + (c + 1)) (some 275) (nI k) (ns 0) (ns 1) (ns 2) (ns 3) (nI (znn k)) (nI i) (zC n m p) = fb_X10_ends_98 (g + 1) (some 275) (nI k) (q.2 0) (q.2 1) (q.2 2) (q.2 3) (nI (znn k)) (nI (znn k)) (zC n m' p) ∧ m' 275 19 = nI q.1 ∧ zFl m m'
        cases hr : zns T L k c (i + 1) q.1 (va_up ns i q.2) with
        | inl r =>
          rw [hr] at h3
          obtain ⟨m', g1, g2, g3⟩ := h3
          exact ⟨m', heq.trans (e1.trans g1), g2, zFl_tr hf1 (zFl_tr e3 g3)⟩
        | inr r =>
          rw [hr] at h3
          obtain ⟨m', g1, g2, g3⟩ := h3
          exact ⟨m', heq.trans (e1.trans g1), g2, zFl_tr hf1 (zFl_tr e3 g3)⟩
    have hcm := zk_cm k hk i (by omega)
    unfold zns
    by_cases h0 : 0 < zin k + i
    · have hun' := hun.trans (if_neg (fun q => hcm.mp q h0))
      by_cases hc : zch T L P = 44
      · rw [if_neg (fun q => q.2 hc), if_pos h0]
        obtain ⟨c1, c2⟩ := zch_nat (a := 44) hc (by omega) hT
        have f1 : zFl m (ax_u2 m 275 19 (nI (P + 1))) := zFl_1 (Or.inl rfl)
        refine hgo (P + 1) (ax_u2 m 275 19 (nI (P + 1))) (zEm_fq hE (zFq_fl f1)) ax_u2_self (by omega) f1 ?_
        rw [hun', m_takes1 hE h (by omega) hc, Option.bind_some]
        dsimp only
        rw [if_neg (by decide)]
      · rw [if_pos ⟨h0, hc⟩]
        refine ⟨m, ?_, h, zFl_rf⟩
        rw [hun', m_takes0 hE h (by omega) hc, Option.bind_some]
        dsimp only
        rw [if_pos rfl]
    · rw [if_neg (fun q => h0 q.1), if_neg h0]
      exact hgo P m hE h hP zFl_rf (hun.trans (if_pos (hcm.mpr h0)))
end MENDS
