/-! ===== the model reads: letters, numbers ===== -/
def zEm (m : Nat → Nat → Int32) (L : Nat) (T : Nat → Nat) (N : Nat) : Prop := (m 275 12 = nI L ∧ ∀ j, j < L → m 284 j = nI (T j)) ∧ zMT m ∧ m 276 0 = nI N ∧ L ≤ 80 ∧ ∀ j, T j < 128
/-- place and number alone -/
def zFl (m m' : Nat → Nat → Int32) : Prop := (∀ a, a ≠ 275 → m' a = m a) ∧ ∀ k, k ≠ 19 → k ≠ 21 → m' 275 k = m 275 k
theorem zFl_rf {m : Nat → Nat → Int32} : zFl m m := ⟨fun _ _ => rfl, fun _ _ _ => rfl⟩
theorem zFl_tr {m1 m2 m3 : Nat → Nat → Int32} (h1 : zFl m1 m2) (h2 : zFl m2 m3) : zFl m1 m3 := ⟨fun a ha => (h2.1 a ha).trans (h1.1 a ha), fun k a b => (h2.2 k a b).trans (h1.2 k a b)⟩
theorem zFl_1 {m : Nat → Nat → Int32} {k : Nat} {x : Int32} (hk : k = 19 ∨ k = 21) : zFl m (ax_u2 m 275 k x) := ⟨fun a ha => zu2_row ha, fun j h1 h2 => ax_u2_nk (by omega)⟩
/-- what the parse leaves alone -/
def zFq (m m' : Nat → Nat → Int32) : Prop := (∀ a, a ≠ 275 → a < 290 ∨ 293 < a → m' a = m a) ∧ ∀ k, k < 19 → m' 275 k = m 275 k
theorem zFq_rf {m : Nat → Nat → Int32} : zFq m m := ⟨fun _ _ _ => rfl, fun _ _ => rfl⟩
theorem zFq_tr {m1 m2 m3 : Nat → Nat → Int32} (h1 : zFq m1 m2) (h2 : zFq m2 m3) : zFq m1 m3 := ⟨fun a ha hb => (h2.1 a ha hb).trans (h1.1 a ha hb), fun k a => (h2.2 k a).trans (h1.2 k a)⟩
theorem zFq_fl {m m' : Nat → Nat → Int32} (h : zFl m m') : zFq m m' := ⟨fun a ha _ => h.1 a ha, fun k hk => h.2 k (by omega) (by omega)⟩
theorem zEm_fq {m m' : Nat → Nat → Int32} {L N : Nat} {T : Nat → Nat} (h : zEm m L T N) (hf : zFq m m') : zEm m' L T N := by
  obtain ⟨⟨h1, h2⟩, h3, h4, h5, h6⟩ := h
  exact ⟨⟨by rw [hf.2 12 (by omega)]; exact h1, fun j hj => by rw [hf.1 284 (by omega) (by omega)]; exact h2 j hj⟩, fun k hk => by rw [hf.1 285 (by omega) (by omega), hf.1 286 (by omega) (by omega)]; exact h3 k hk, by rw [hf.1 276 (by omega) (by omega)]; exact h4, h5, h6⟩
section MLEAF
variable {n L N P k i : Nat} {m m' : Nat → Nat → Int32} {p T : Nat → Nat} {c hi x : Int32}
theorem zu2_same {a k : Nat} (h : m a k = x) : ax_u2 m a k x = m := by
  funext b j
  unfold ax_u2
  split
  · rename_i q
    rw [q.1, q.2, h]
  · rfl
theorem m_here (hE : zEm m L T N) (h : m 275 19 = nI P) (hP : P < 2 ^ 31) : fn_X10_here (some 275) (zC n m p) = some (zch T L P, zC n m p) := by
  obtain ⟨⟨h1, h2⟩, h3, h4, h5, h6⟩ := hE
  unfold fn_X10_here zch
  rw [z_m1, h, Option.bind_some, z_m1, h1, Option.bind_some]
  by_cases hl : P < L
  · rw [if_neg (nI_ge hl (by omega)), if_pos hl, z_m11, Option.bind_some, Option.bind_some, z_ma (by omega), h2 P hl, Option.bind_some]
  · rw [if_pos (nI_le (by omega) hP), if_neg hl]
theorem m_takes1 (hE : zEm m L T N) (h : m 275 19 = nI P) (hP : P < 2 ^ 31) (hc : zch T L P = c) : fn_X10_takes (some 275) c (zC n m p) = some (1, zC n (ax_u2 m 275 19 (nI (P + 1))) p) := by
  unfold fn_X10_takes fi_X10_takes fb_X10_takes_13
  rw [z_mo 0, Option.bind_some, m_here hE h hP, Option.bind_some]
  dsimp only
  rw [if_pos hc, z_m1, h, Option.bind_some, if_neg (by decide), nI_1, z_m2, Option.bind_some, zbz1]
theorem m_takes0 (hE : zEm m L T N) (h : m 275 19 = nI P) (hP : P < 2 ^ 31) (hc : zch T L P ≠ c) : fn_X10_takes (some 275) c (zC n m p) = some (0, zC n m p) := by
  unfold fn_X10_takes fi_X10_takes fb_X10_takes_13
  rw [z_mo 0, Option.bind_some, m_here hE h hP, Option.bind_some]
  dsimp only
  rw [if_neg hc, z_m1, h, Option.bind_some, if_pos rfl, Int32.add_zero, z_m2, Option.bind_some, zu2_same h, zbz0]
def zkm (c : Int32) : Int32 := if c = 98 then 6 else if c = 103 then 1 else if c = 105 then 3 else if c = 107 then 5 else if c = 108 then 4 else if c = 110 then 7 else if c = 115 then 0 else if c = 116 then 2 else -1
theorem zkm_all : ∀ c : Nat, c < 128 → zkm (nI c) = (if zkh (nI c) = 8 then -1 else nI (zkh (nI c))) := by decide +kernel
theorem zkm_m1 : zkm (-1) = -1 := by decide +kernel
theorem m_kind (hE : zEm m L T N) (h : m 275 19 = nI P) (hP : P < 2 ^ 31) : fn_X10_kindHere (some 275) (zC n m p) = some (if zkh (zch T L P) = 8 then -1 else nI (zkh (zch T L P)), zC n m p) := by
  have h1 : fn_X10_kindHere (some 275) (zC n m p) = some (zkm (zch T L P), zC n m p) := by
    unfold fn_X10_kindHere zkm
    rw [z_mo 0, Option.bind_some, m_here hE h hP, Option.bind_some]
    dsimp only
    split
    · rfl
    · split
      · rfl
      · split
        · rfl
        · split
          · rfl
          · split
            · rfl
            · split
              · rfl
              · split
                · rfl
                · split <;> rfl
  rw [h1]
  by_cases hl : P < L
  · rw [show zch T L P = nI (T P) from if_pos hl, zkm_all _ (hE.2.2.2.2 P)]
  · rw [show zch T L P = -1 from if_neg hl, zkm_m1, zkh_m1, if_pos rfl]
theorem m_digit (hE : zEm m L T N) (h : m 275 19 = nI P) (hP : P < 2 ^ 31) : fn_X10_isDigit (some 275) (zC n m p) = some (zB (48 ≤ zch T L P ∧ zch T L P ≤ 57), zC n m p) := by
  unfold fn_X10_isDigit fi_X10_isDigit
  rw [z_mo 0, Option.bind_some, m_here hE h hP, Option.bind_some]
  dsimp only
  rw [f_in, Option.bind_some]
  exact zB_bz
/-- the end of a number -/
theorem m_num103 {v Q : Nat} {lo : Int32} (h : m 275 19 = nI Q) (h21 : m 275 21 = nI v) : fb_X10_number_103 (some 275) lo hi (nI P) (zC n m p) = if lo ≤ nI v ∧ nI v ≤ hi then some (1, zC n m p) else some (0, zC n (ax_u2 m 275 19 (nI P)) p) := by
  unfold fb_X10_number_103
  rw [z_m1, h21, Option.bind_some, f_in, Option.bind_some]
  by_cases hr : lo ≤ nI v ∧ nI v ≤ hi
  · rw [if_pos hr, zB_t hr]
    dsimp only
    rw [if_neg (by decide), z_m1, h, Option.bind_some, z_m2, Option.bind_some, zu2_same h]
  · rw [if_neg hr, zB_f hr]
    dsimp only
    rw [if_pos rfl, z_m2, Option.bind_some]
/-- one more digit -/
theorem m_num49 {v Q f : Nat} {lo : Int32} (hE : zEm m L T N) (h : m 275 19 = nI Q) (h21 : m 275 21 = nI v) (hQ : Q + 5 < 2 ^ 31) (hP : P ≤ Q) : fb_X10_number_49 (f + 1) (some 275) lo hi (nI P) 0 (zC n m p) = if P + 3 ≤ Q ∨ ¬ (48 ≤ zch T L Q ∧ zch T L Q ≤ 57) then fb_X10_number_103 (some 275) lo hi (nI P) (zC n m p) else fb_X10_number_49 f (some 275) lo hi (nI P) 0 (zC n (ax_u2 (ax_u2 m 275 21 (nI (v * 10 + (T Q - 48)))) 275 19 (nI (Q + 1))) p) := by
  conv => lhs; unfold fb_X10_number_49
  rw [if_pos rfl, z_m1, h, Option.bind_some, show nI P + 3 = nI (P + 3) from nI_add P 3]
  by_cases h3 : P + 3 ≤ Q
  · rw [if_pos (nI_le h3 (by omega)), if_pos (Or.inl h3)]
  · rw [if_neg (nI_ge (by omega) (by omega)), z_mo 0, Option.bind_some, m_digit hE h (by omega), Option.bind_some]
    by_cases hd : 48 ≤ zch T L Q ∧ zch T L Q ≤ 57
    · obtain ⟨a1, a2, a3, a4⟩ := zch_di hd hE.2.2.2.2
      rw [if_neg (show ¬ (P + 3 ≤ Q ∨ ¬ (48 ≤ zch T L Q ∧ zch T L Q ≤ 57)) from fun q => q.elim h3 (fun w => w hd)), zB_t hd]
      dsimp only
      rw [if_neg (by decide), z_m1, h21, Option.bind_some, z_mo 0, Option.bind_some, m_here hE h (by omega), Option.bind_some]
      dsimp only
      rw [a4, Int32.mul_comm 10 (nI v), z_d10 a2, z_m2, Option.bind_some, z_m1, ax_u2_nk (show 19 ≠ 21 by omega), h, Option.bind_some, nI_1, z_m2, Option.bind_some]
    · rw [if_pos (Or.inr hd), zB_f hd]
      dsimp only
      rw [if_pos rfl]
/-- what reading a number does in the model -/
def zMN (n : Nat) (p T : Nat → Nat) (m : Nat → Nat → Int32) (L P : Nat) (hi : Int32) (neg : Bool) (o : Option (Int32 × ax_S)) : Prop :=
  match zrn T L P hi neg with
  | none => ∃ m', o = some (0, zC n m' p) ∧ m' 275 19 = nI P ∧ zFl m m'
  | some q => ∃ m', o = some (1, zC n m' p) ∧ m' 275 19 = nI q.2 ∧ m' 275 21 = nI q.1 ∧ zFl m m'
theorem m_numend {v Q : Nat} {neg : Bool} {m1 : Nat → Nat → Int32} (h : m1 275 19 = nI Q) (h21 : m1 275 21 = nI v) (hv : v < 1000) (hd : zdg T L P = (v, Q)) (hPQ : Q ≠ P) (hf : zFl m m1) : zMN n p T m L P hi neg (fb_X10_number_103 (some 275) (if neg = true then 1 else 0) hi (nI P) (zC n m1 p)) := by
  rw [m_num103 h h21]
  unfold zMN zrn
  rw [hd, if_neg hPQ]
  dsimp only
  have hno : ∃ m', (some ((0 : Int32), zC n (ax_u2 m1 275 19 (nI P)) p) : Option (Int32 × ax_S)) = some (0, zC n m' p) ∧ m' 275 19 = nI P ∧ zFl m m' := ⟨_, rfl, ax_u2_self, zFl_tr hf (zFl_1 (Or.inl rfl))⟩
  by_cases h1 : hi < nI v
  · rw [if_pos h1, if_neg (fun q => absurd q.2 (Int32.not_le.mpr h1))]
    exact hno
  · rw [if_neg h1]
    have h1' := Int32.not_lt.mp h1
    cases neg with
    | false =>
      rw [if_neg (fun q => absurd q.1 (by decide)), if_pos ⟨z_pos (by omega), h1'⟩]
      exact ⟨m1, rfl, h, h21, hf⟩
    | true =>
      by_cases h0 : v = 0
      · subst h0
        rw [if_pos ⟨rfl, rfl⟩, if_neg (fun q => absurd q.1 (by decide))]
        exact hno
      · rw [if_neg (fun q => h0 q.2), if_pos ⟨nI_le (a := 1) (by omega) (by omega), h1'⟩]
        exact ⟨m1, rfl, h, h21, hf⟩
theorem m_number {neg : Bool} (hE : zEm m L T N) (h : m 275 19 = nI P) (hP : P + 8 < 2 ^ 31) : zMN n p T m L P hi neg (fn_X10_number (some 275) (if neg = true then 1 else 0) hi (zC n m p)) := by
  have hT := hE.2.2.2.2
  have hbz : ∀ o : Option (Int32 × ax_S), zMN n p T m L P hi neg o → zMN n p T m L P hi neg (ax_bz o) := by
    intro o ho
    unfold zMN at ho ⊢
    cases hz : zrn T L P hi neg with
    | none =>
      rw [hz] at ho
      obtain ⟨m', e1, e2⟩ := ho
      exact ⟨m', by rw [e1, zbz0], e2⟩
    | some q =>
      rw [hz] at ho
      obtain ⟨m', e1, e2⟩ := ho
      exact ⟨m', by rw [e1, zbz1], e2⟩
  unfold fn_X10_number
  refine hbz _ ?_
  unfold fi_X10_number
  rw [z_m1, h, Option.bind_some, z_mo 0, Option.bind_some, m_digit hE h (by omega), Option.bind_some]
  by_cases hd : 48 ≤ zch T L P ∧ zch T L P ≤ 57
  · obtain ⟨a1, a2, a3, a4⟩ := zch_di hd hT
    rw [zB_t hd]
    dsimp only
    rw [if_neg (by decide), z_mo 0, Option.bind_some, m_here hE h (by omega), Option.bind_some]
    dsimp only
    have e48 : nI (T P) - 48 = nI (T P - 48) := nI_sub (b := 48) a2
    rw [a4, e48, z_m2, Option.bind_some, z_m1, ax_u2_nk (show 19 ≠ 21 by omega), h, Option.bind_some, nI_1, z_m2, Option.bind_some, z_m1, ax_u2_nk (show 21 ≠ 19 by omega), ax_u2_self, Option.bind_some]
    have f1 : zFl m (ax_u2 (ax_u2 m 275 21 (nI (T P - 48))) 275 19 (nI (P + 1))) := zFl_tr (zFl_1 (Or.inr rfl)) (zFl_1 (Or.inl rfl))
    have p1 : (ax_u2 (ax_u2 m 275 21 (nI (T P - 48))) 275 19 (nI (P + 1))) 275 19 = nI (P + 1) := ax_u2_self
    have v1 : (ax_u2 (ax_u2 m 275 21 (nI (T P - 48))) 275 19 (nI (P + 1))) 275 21 = nI (T P - 48) := by rw [ax_u2_nk (by omega), ax_u2_self]
    generalize ax_u2 (ax_u2 m 275 21 (nI (T P - 48))) 275 19 (nI (P + 1)) = m1 at f1 p1 v1 ⊢
    have hE1 := zEm_fq hE (zFq_fl f1)
    have hdg : zdg T L P = if T P - 48 = 0 then (0, P + 1) else if 48 ≤ zch T L (P + 1) ∧ zch T L (P + 1) ≤ 57 then (if 48 ≤ zch T L (P + 2) ∧ zch T L (P + 2) ≤ 57 then (((T P - 48) * 10 + (T (P + 1) - 48)) * 10 + (T (P + 2) - 48), P + 3) else ((T P - 48) * 10 + (T (P + 1) - 48), P + 2)) else (T P - 48, P + 1) := by
      unfold zdg
      rw [if_pos hd]
    by_cases h0 : T P - 48 = 0
    · rw [if_pos h0] at hdg
      rw [h0] at v1
      rw [h0, if_pos (by decide), show (10000 : Nat) = 9999 + 1 from rfl]
      have h49 : fb_X10_number_49 (9999 + 1) (some 275) (if neg = true then 1 else 0) hi (nI P) 1 (zC n m1 p) = fb_X10_number_103 (some 275) (if neg = true then 1 else 0) hi (nI P) (zC n m1 p) := by
        conv => lhs; unfold fb_X10_number_49
        rw [if_neg (by decide)]
      rw [h49]
      exact m_numend p1 v1 (by omega) hdg (by omega) f1
    · rw [if_neg h0] at hdg
      rw [if_neg (nI_ne0 (by omega) (by omega)), show (10000 : Nat) = 9999 + 1 from rfl, m_num49 hE1 p1 v1 (by omega) (by omega)]
      by_cases h2 : 48 ≤ zch T L (P + 1) ∧ zch T L (P + 1) ≤ 57
      · obtain ⟨b1, b2, b3, b4⟩ := zch_di h2 hT
        rw [if_pos h2] at hdg
        rw [if_neg (fun q => by rcases q with q | q; omega; exact q h2)]
        have f2 : zFl m (ax_u2 (ax_u2 m1 275 21 (nI ((T P - 48) * 10 + (T (P + 1) - 48)))) 275 19 (nI (P + 1 + 1))) := zFl_tr f1 (zFl_tr (zFl_1 (Or.inr rfl)) (zFl_1 (Or.inl rfl)))
        have p2 : (ax_u2 (ax_u2 m1 275 21 (nI ((T P - 48) * 10 + (T (P + 1) - 48)))) 275 19 (nI (P + 1 + 1))) 275 19 = nI (P + 2) := ax_u2_self
        have v2 : (ax_u2 (ax_u2 m1 275 21 (nI ((T P - 48) * 10 + (T (P + 1) - 48)))) 275 19 (nI (P + 1 + 1))) 275 21 = nI ((T P - 48) * 10 + (T (P + 1) - 48)) := by rw [ax_u2_nk (by omega), ax_u2_self]
        generalize ax_u2 (ax_u2 m1 275 21 (nI ((T P - 48) * 10 + (T (P + 1) - 48)))) 275 19 (nI (P + 1 + 1)) = m2 at f2 p2 v2 ⊢
        have hE2 := zEm_fq hE (zFq_fl f2)
        rw [show (9999 : Nat) = 9998 + 1 from rfl, m_num49 hE2 p2 v2 (by omega) (by omega)]
        by_cases h3 : 48 ≤ zch T L (P + 2) ∧ zch T L (P + 2) ≤ 57
        · obtain ⟨c1, c2, c3, c4⟩ := zch_di h3 hT
          rw [if_pos h3] at hdg
          rw [if_neg (fun q => by rcases q with q | q; omega; exact q h3)]
          have f3 : zFl m (ax_u2 (ax_u2 m2 275 21 (nI (((T P - 48) * 10 + (T (P + 1) - 48)) * 10 + (T (P + 2) - 48)))) 275 19 (nI (P + 2 + 1))) := zFl_tr f2 (zFl_tr (zFl_1 (Or.inr rfl)) (zFl_1 (Or.inl rfl)))
          have p3 : (ax_u2 (ax_u2 m2 275 21 (nI (((T P - 48) * 10 + (T (P + 1) - 48)) * 10 + (T (P + 2) - 48)))) 275 19 (nI (P + 2 + 1))) 275 19 = nI (P + 3) := ax_u2_self
          have v3 : (ax_u2 (ax_u2 m2 275 21 (nI (((T P - 48) * 10 + (T (P + 1) - 48)) * 10 + (T (P + 2) - 48)))) 275 19 (nI (P + 2 + 1))) 275 21 = nI (((T P - 48) * 10 + (T (P + 1) - 48)) * 10 + (T (P + 2) - 48)) := by rw [ax_u2_nk (by omega), ax_u2_self]
          generalize ax_u2 (ax_u2 m2 275 21 (nI (((T P - 48) * 10 + (T (P + 1) - 48)) * 10 + (T (P + 2) - 48)))) 275 19 (nI (P + 2 + 1)) = m3 at f3 p3 v3 ⊢
          rw [show (9998 : Nat) = 9997 + 1 from rfl, m_num49 (zEm_fq hE (zFq_fl f3)) p3 v3 (by omega) (by omega), if_pos (Or.inl (by omega))]
          exact m_numend p3 v3 (by omega) hdg (by omega) f3
        · rw [if_neg h3] at hdg
          rw [if_pos (Or.inr h3)]
          exact m_numend p2 v2 (by omega) hdg (by omega) f2
      · rw [if_neg h2] at hdg
        rw [if_pos (Or.inr h2)]
        exact m_numend p1 v1 (by omega) hdg (by omega) f1
  · rw [zB_f hd]
    dsimp only
    rw [if_pos rfl]
    unfold zMN zrn zdg
    rw [if_neg hd, if_pos rfl]
    exact ⟨m, rfl, h, zFl_rf⟩
end MLEAF
