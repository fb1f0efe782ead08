/-! ===== add, link, addAll, copyFrom ===== -/
def zGN (m : Nat → Nat → Int32) (g N : Nat) (V : Nat → Nat → Int32) : Prop := (∀ i w, i < N → w < 3 → m (g + 5 + 3 * i) w = V i w) ∧ (∀ i k, i < N → k < 3 → m (g + 5 + 3 * i + 1) k = V i (3 + k)) ∧ ∀ i p, i < N → p < 4 → m (g + 5 + 3 * i + 2) p = V i (6 + p)
/-- rows outside a graph's block -/
def zFg (g : Nat) (m m' : Nat → Nat → Int32) : Prop := ∀ a, a < g ∨ g + 41 ≤ a → m' a = m a
theorem zFg_rf {g : Nat} {m : Nat → Nat → Int32} : zFg g m m := fun _ _ => rfl
theorem zFg_tr {g : Nat} {m1 m2 m3 : Nat → Nat → Int32} (h1 : zFg g m1 m2) (h2 : zFg g m2 m3) : zFg g m1 m3 := fun a ha => (h2 a ha).trans (h1 a ha)
theorem zFg_fr {g : Nat} {m m' : Nat → Nat → Int32} (h : zFr g m m') : zFg g m m' := fun a ha => h a (by omega) (by omega) (by omega)
theorem zFg_fn {g i : Nat} {m m' : Nat → Nat → Int32} (hi : i < 12) (h : zFn (g + 5 + 3 * i) m m') : zFg g m m' := fun a ha => h a (by omega) (by omega) (by omega)
theorem zT_fg {g : Nat} {m m' : Nat → Nat → Int32} (h9 : 9 ≤ g) (h : zFg g m m') (hT : zT m) : zT m' := fun a j ha => by rw [h a (by omega)]; exact hT a j ha
def zNew (k w : Nat) : Int32 := if w = 0 then nI k else if w = 1 then 0 else if w = 2 then 99 else if w < 6 then -1005 else zaf k (w - 6)
def zVadd (N : Nat) (V : Nat → Nat → Int32) (k : Nat) : Nat → Nat → Int32 := fun i w => if i = N then zNew k w else V i w
def zVset (V : Nat → Nat → Int32) (i w : Nat) (x : Int32) : Nat → Nat → Int32 := ax_u2 V i w x
def zVapp (N : Nat) (V W : Nat → Nat → Int32) : Nat → Nat → Int32 := fun i w => if i < N then V i w else W (i - N) w
theorem zaf_in : ∀ k, k < 7 → ∀ p, p < zpn k → zlo k p ≤ zaf k p ∧ zaf k p ≤ zhi k p := by decide +kernel
theorem zOK_add {N k : Nat} {V : Nat → Nat → Int32} (h : zOK N V) (hN : N < 12) (hk : k < 7) : zOK (N + 1) (zVadd N V k) := by
  obtain ⟨h1, h2, rk, h3⟩ := h
  have e1 : ∀ i, i ≠ N → zI (zVadd N V k) i = zI V i := fun i hi => by funext c; exact if_neg hi
  have e2 : ∀ c, c < 3 → zI (zVadd N V k) N c = -1005 := fun c hc => by
    show (if N = N then zNew k (3 + c) else _) = _
    rw [if_pos rfl]
    unfold zNew
    rw [if_neg (by omega), if_neg (by omega), if_neg (by omega), if_pos (by omega)]
  refine ⟨by omega, fun i hi => ?_, rk, fun i j c hi hj hc e => ?_⟩
  · by_cases hiN : i = N
    · subst hiN
      refine ⟨⟨k, hk, if_pos rfl, fun j hj _ => e2 j hj, fun q hq => ?_⟩, ⟨0, 99, by omega, by omega, ?_, ?_⟩, fun c hc => Or.inl (e2 c hc)⟩
      · have e3 : zVadd i V k i (6 + q) = zaf k q := by
          show (if i = i then zNew k (6 + q) else _) = _
          rw [if_pos rfl]
          unfold zNew
          rw [if_neg (by omega), if_neg (by omega), if_neg (by omega), if_neg (by omega), show 6 + q - 6 = q by omega]
        rw [e3]
        exact zaf_in k hk q hq
      · show (if i = i then zNew k 1 else _) = _
        rw [if_pos rfl]
        rfl
      · show (if i = i then zNew k 2 else _) = _
        rw [if_pos rfl]
        rfl
    · have hv : ∀ w, zVadd N V k i w = V i w := fun w => if_neg hiN
      obtain ⟨a, b, c⟩ := h2 i (by omega)
      refine ⟨?_, ?_, fun q hq => ?_⟩
      · obtain ⟨k', k1, k2, k3, k4⟩ := a
        exact ⟨k', k1, by rw [hv]; exact k2, fun j hj hz => by rw [hv]; exact k3 j hj hz, fun q hq => by rw [hv]; exact k4 q hq⟩
      · obtain ⟨f, l, f1, f2, f3, f4⟩ := b
        exact ⟨f, l, f1, f2, by rw [hv]; exact f3, by rw [hv]; exact f4⟩
      · rw [e1 i hiN]
        rcases c q hq with c1 | ⟨j, c1, c2⟩
        · exact Or.inl c1
        · exact Or.inr ⟨j, by omega, c2⟩
  · by_cases hiN : i = N
    · subst hiN
      rw [e2 c hc] at e
      exact absurd e.symm (nI_ne_none (by omega))
    · rw [e1 i hiN] at e
      rcases (h2 i (by omega)).2.2 c hc with c1 | ⟨j', c1, c2⟩
      · rw [c1] at e
        exact absurd e.symm (nI_ne_none (by omega))
      · have : j' = j := nI_inj (by omega) (by omega) (c2.symm.trans e)
        subst this
        exact h3 i j' c (by omega) c1 hc e
/-- a value that isn't an input's -/
theorem zOK_set {N i w : Nat} {V : Nat → Nat → Int32} {x : Int32} (h : zOK N V) (hw : 6 ≤ w) (hx : ∀ k, k < 7 → V i 0 = nI k → w - 6 < zpn k → zlo k (w - 6) ≤ x ∧ x ≤ zhi k (w - 6)) : zOK N (zVset V i w x) := by
  obtain ⟨h1, h2, rk, h3⟩ := h
  have hv : ∀ a b, b ≠ w → zVset V i w x a b = V a b := fun a b hb => ax_u2_nk hb
  have e1 : ∀ a c, c < 3 → zI (zVset V i w x) a c = zI V a c := fun a c hc => hv a _ (by omega)
  refine ⟨h1, fun a ha => ?_, rk, fun a j c hi hj hc e => h3 a j c hi hj hc (by rw [← e1 a c hc]; exact e)⟩
  obtain ⟨⟨k', k1, k2, k3, k4⟩, ⟨f, l, f1, f2, f3, f4⟩, c⟩ := h2 a ha
  refine ⟨⟨k', k1, by rw [hv _ _ (by omega)]; exact k2, fun j hj hz => by rw [hv _ _ (by omega)]; exact k3 j hj hz, fun q hq => ?_⟩, ⟨f, l, f1, f2, by rw [hv _ _ (by omega)]; exact f3, by rw [hv _ _ (by omega)]; exact f4⟩, fun q hq => by rw [e1 a q hq]; exact c q hq⟩
  by_cases hq2 : 6 + q = w ∧ a = i
  · obtain ⟨rfl, rfl⟩ := hq2
    have e3 : zVset V a (6 + q) x a (6 + q) = x := ax_u2_self
    rw [e3]
    have := hx k' k1 k2 (by omega)
    rw [show 6 + q - 6 = q by omega] at this
    exact this
  · have e3 : zVset V i w x a (6 + q) = V a (6 + q) := if_neg (fun z => hq2 ⟨z.2, z.1⟩)
    rw [e3]
    exact k4 q hq
theorem zOK_link {N i c : Nat} {V : Nat → Nat → Int32} {x : Int32} (h : zOK N V) (hi : i < N) (hc : c < 3) (hk : ∀ k, k < 7 → V i 0 = nI k → c < zin k) (hx : x = -1005 ∨ ∃ j, j < N ∧ x = nI j ∧ ¬ zdep N V i j) : zOK N (zVset V i (3 + c) x) := by
  obtain ⟨h1, h2, rk, h3⟩ := h
  have hv : ∀ a b, b ≠ 3 + c → zVset V i (3 + c) x a b = V a b := fun a b hb => ax_u2_nk hb
  have hv2 : ∀ a b, a ≠ i → zVset V i (3 + c) x a b = V a b := fun a b hb => ax_u2_ne hb b
  have hself : zVset V i (3 + c) x i (3 + c) = x := ax_u2_self
  have hin : ∀ a d, ¬ (a = i ∧ d = c) → zI (zVset V i (3 + c) x) a d = zI V a d := fun a d hd => if_neg (fun z => hd ⟨z.1, by omega⟩)
  refine ⟨h1, fun a ha => ?_, ?_⟩
  · obtain ⟨⟨k', k1, k2, k3, k4⟩, ⟨f, l, f1, f2, f3, f4⟩, cc⟩ := h2 a ha
    refine ⟨⟨k', k1, by rw [hv _ _ (by omega)]; exact k2, fun j hj hz => ?_, fun q hq => by rw [hv _ _ (by omega)]; exact k4 q hq⟩, ⟨f, l, f1, f2, by rw [hv _ _ (by omega)]; exact f3, by rw [hv _ _ (by omega)]; exact f4⟩, fun q hq => ?_⟩
    · by_cases hjc : a = i ∧ j = c
      · obtain ⟨rfl, rfl⟩ := hjc
        have := hk k' k1 k2
        omega
      · exact (hin a j hjc).trans (k3 j hj hz)
    · by_cases hjc : a = i ∧ q = c
      · obtain ⟨rfl, rfl⟩ := hjc
        show zVset V a (3 + q) x a (3 + q) = _ ∨ _
        rw [hself]
        rcases hx with hx | ⟨j, j1, j2, j3⟩
        · exact Or.inl hx
        · exact Or.inr ⟨j, j1, hself.trans j2⟩
      · rw [hin a q hjc]
        exact cc q hq
  · rcases hx with hx | ⟨j0, j1, j2, j3⟩
    · refine ⟨rk, fun a j d ha hj hd e => ?_⟩
      by_cases hjc : a = i ∧ d = c
      · obtain ⟨rfl, rfl⟩ := hjc
        have e2 : zVset V a (3 + d) x a (3 + d) = nI j := e
        rw [hself, hx] at e2
        exact absurd e2.symm (nI_ne_none (by omega))
      · rw [hin a d hjc] at e
        exact h3 a j d ha hj hd e
    · have hdec : ∀ a, Decidable (zdep N V i a) := fun a => Classical.propDecidable _
      refine ⟨fun a => @ite _ (zdep N V i a) (hdec a) (rk a + (rk j0 + 1)) (rk a), fun a j d ha hj hd e => ?_⟩
      by_cases hjc : a = i ∧ d = c
      · obtain ⟨rfl, rfl⟩ := hjc
        have e2 : zVset V a (3 + d) x a (3 + d) = nI j := e
        rw [hself, j2] at e2
        have : j0 = j := nI_inj (by omega) (by omega) e2
        subst this
        simp only [j3, if_false, zdep_rf, if_true]
        omega
      · rw [hin a d hjc] at e
        have h5 := h3 a j d ha hj hd e
        by_cases hdj : zdep N V i j
        · have hda : zdep N V i a := zdep_step hj hd e hdj
          simp only [hdj, hda, if_true]
          omega
        · simp only [hdj, if_false]
          by_cases hda : zdep N V i a
          · simp only [hda, if_true]
            omega
          · simp only [hda, if_false]
            exact h5
section GOPS
variable {n g N i k : Nat} {m : Nat → Nat → Int32} {p : Nat → Nat} {V W : Nat → Nat → Int32} {x y P : Int32}
theorem zGC_gn : zGC m g N V ↔ m g 1 = nI N ∧ zGN m g N V := Iff.rfl
theorem zGN_congr {m' : Nat → Nat → Int32} {C : Nat} (h : zGN m g C V) (hf : ∀ i, i < C → m' (g + 5 + 3 * i) = m (g + 5 + 3 * i) ∧ m' (g + 5 + 3 * i + 1) = m (g + 5 + 3 * i + 1) ∧ m' (g + 5 + 3 * i + 2) = m (g + 5 + 3 * i + 2)) : zGN m' g C V :=
  ⟨fun i w hi hw => by rw [(hf i hi).1]; exact h.1 i w hi hw, fun i k hi hk => by rw [(hf i hi).2.1]; exact h.2.1 i k hi hk, fun i q hi hq => by rw [(hf i hi).2.2]; exact h.2.2 i q hi hq⟩
theorem f_add_full (hg : zGB g) (hG : m g 1 = nI 12) : fn_X1_add (some g) x (zC n m p) = some (-1004, zC n m p) := by
  obtain ⟨h9, h41, s0, s1, s2, s3, s4, r0, r2, r3, r4⟩ := zGB_ok (n := n) (p := p) hg
  unfold fn_X1_add
  rw [z_gi (by omega) (by rw [s0]), hG]
  simp only [Option.bind_some]
  rw [if_neg (by decide)]
theorem f_add (hg : zGB g) (hT : zT m) (hG : zGC m g N V) (h : zOK N V) (hN : N < 12) (hk : k < 7) : ∃ m', fn_X1_add (some g) (nI k) (zC n m p) = some (nI N, zC n m' p) ∧ zFg g m m' ∧ zGC m' g (N + 1) (zVadd N V k) ∧ zOC m' g (N + 1) (zVadd N V k) := by
  obtain ⟨h9, h41, s0, s1, s2, s3, s4, r0, r2, r3, r4⟩ := zGB_ok (n := n) (p := p) hg
  obtain ⟨hb, -⟩ := zGB_node (p := p) hg hN
  obtain ⟨b9, b1, t0, t1, t2, q3, q4⟩ := zNB_ok (n := n) (p := p) hb
  obtain ⟨m1, c1, c2, c3, c4, c5, c6, c7⟩ := f_reset (n := n) (p := p) hb hk hT
  have hg1 : m1 g 1 = nI N := by rw [c2 g (by omega) (by omega) (by omega)]; exact hG.1
  generalize hm2 : ax_u2 m1 g 1 (nI N + 1) = m2
  have e2 : ∀ a, a ≠ g → m2 a = m1 a := fun a ha => by rw [← hm2]; exact zu2_row ha
  have hv : ∀ i w, i ≠ N → zVadd N V k i w = V i w := fun i w hi => if_neg hi
  have hvN : ∀ w, zVadd N V k N w = zNew k w := fun w => if_pos rfl
  have hG2 : zGC m2 g (N + 1) (zVadd N V k) := by
    refine ⟨by rw [← hm2, ax_u2_self, nI_1], fun i w hi hw => ?_, fun i c hi hc => ?_, fun i q hi hq => ?_⟩
    · rw [e2 _ (by omega)]
      by_cases hiN : i = N
      · subst hiN
        rw [hvN]
        have : w = 0 ∨ w = 1 ∨ w = 2 := by omega
        rcases this with rfl | rfl | rfl
        · exact c3
        · exact c4
        · exact c5
      · rw [hv i w hiN, c2 _ (by omega) (by omega) (by omega)]
        exact hG.2.1 i w (by omega) hw
    · rw [e2 _ (by omega)]
      by_cases hiN : i = N
      · subst hiN
        rw [hvN, c6 c hc]
        unfold zNew
        rw [if_neg (by omega), if_neg (by omega), if_neg (by omega), if_pos (by omega)]
      · rw [hv i _ hiN, c2 _ (by omega) (by omega) (by omega)]
        exact hG.2.2.1 i c (by omega) hc
    · rw [e2 _ (by omega)]
      by_cases hiN : i = N
      · subst hiN
        rw [hvN, c7 q hq]
        unfold zNew
        rw [if_neg (by omega), if_neg (by omega), if_neg (by omega), if_neg (by omega), show 6 + q - 6 = q by omega]
      · rw [hv i _ hiN, c2 _ (by omega) (by omega) (by omega)]
        exact hG.2.2.2 i q (by omega) hq
  obtain ⟨m3, d1, d2, d3⟩ := f_arrange (n := n) (p := p) hg (zOK_add h hN hk) hG2
  have hFr : zFg g m m3 := fun a ha => by rw [zFg_fr d2 a ha, e2 a (by omega), c2 a (by omega) (by omega) (by omega)]
  refine ⟨m3, ?_, hFr, zGC_fr hG2 d2, d3⟩
  unfold fn_X1_add
  rw [z_gi (by omega) (by rw [s0]), hG.1]
  simp only [Option.bind_some]
  rw [if_pos (show nI N < (12 : Int32) from nI_lt (b := 12) hN (by omega)), z_gr (by omega) (by rw [s0]), r0]
  simp only [Option.bind_some]
  rw [z_nodes hg hN]
  simp only [Option.bind_some]
  rw [z_sh (by omega) (by rw [t0])]
  simp only [Option.bind_some]
  rw [c1]
  simp only [Option.bind_some]
  rw [z_gi (by omega) (by rw [s0]), hg1]
  simp only [Option.bind_some]
  rw [z_pi (by omega) (by rw [s0]), hm2]
  simp only [Option.bind_some]
  rw [z_sh (by omega) (by rw [s0])]
  simp only [Option.bind_some]
  rw [d1]
  rfl
theorem f_link {c : Nat} (hg : zGB g) (hT : zT m) (hG : zGC m g N V) (h : zOK N V) (hi : i < N) (hk : k < 7) (hV : V i 0 = nI k) (hc : c < zin k) (hc3 : c < 3) (hx : x = -1005 ∨ ∃ j, j < N ∧ x = nI j ∧ ¬ zdep N V i j) : ∃ m', fn_X1_link (some g) (nI i) (nI c) x (zC n m p) = some (zC n m' p) ∧ zFg g m m' ∧ zGC m' g N (zVset V i (3 + c) x) ∧ zOC m' g N (zVset V i (3 + c) x) := by
  obtain ⟨h9, h41, s0, s1, s2, s3, s4, r0, r2, r3, r4⟩ := zGB_ok (n := n) (p := p) hg
  have hN := h.1
  obtain ⟨hb, -⟩ := zGB_node (p := p) hg (show i < 12 by omega)
  obtain ⟨b9, b1, t0, t1, t2, q3, q4⟩ := zNB_ok (n := n) (p := p) hb
  generalize hm1 : ax_u2 m (g + 5 + 3 * i + 1) c x = m1
  have e1 : ∀ a, a ≠ g + 5 + 3 * i + 1 → m1 a = m a := fun a ha => by rw [← hm1]; exact zu2_row ha
  have hv : ∀ a b, b ≠ 3 + c → zVset V i (3 + c) x a b = V a b := fun a b hb => ax_u2_nk hb
  have hG1 : zGC m1 g N (zVset V i (3 + c) x) := by
    refine ⟨by rw [e1 _ (by omega)]; exact hG.1, fun j w hj hw => ?_, fun j d hj hd => ?_, fun j q hj hq => ?_⟩
    · rw [e1 _ (by omega), hv _ _ (by omega)]
      exact hG.2.1 j w hj hw
    · by_cases hji : j = i
      · subst hji
        by_cases hdc : d = c
        · subst hdc
          rw [← hm1, ax_u2_self]
          exact ax_u2_self.symm
        · rw [← hm1, ax_u2_nk hdc, hv _ _ (by omega)]
          exact hG.2.2.1 j d hj hd
      · rw [e1 _ (by omega)]
        have : zVset V i (3 + c) x j (3 + d) = V j (3 + d) := ax_u2_ne hji _
        rw [this]
        exact hG.2.2.1 j d hj hd
    · rw [e1 _ (by omega), hv _ _ (by omega)]
      exact hG.2.2.2 j q hj hq
  have hOK := zOK_link h hi hc3 (fun k' k1 k2 => by
    have : k' = k := nI_inj (by omega) (by omega) (k2.symm.trans hV)
    subst this
    exact hc) hx
  obtain ⟨m3, d1, d2, d3⟩ := f_arrange (n := n) (p := p) hg hOK hG1
  refine ⟨m3, ?_, fun a ha => by rw [zFg_fr d2 a ha, e1 a (by omega)], zGC_fr hG1 d2, d3⟩
  unfold fn_X1_link
  rw [z_sh (by omega) (by rw [s0])]
  simp only [Option.bind_some]
  have hz : zin k < 2 ^ 31 := by
    have : k = 0 ∨ k = 1 ∨ k = 2 ∨ k = 3 ∨ k = 4 ∨ k = 5 ∨ k = 6 := by omega
    rcases this with rfl | rfl | rfl | rfl | rfl | rfl | rfl <;> decide
  rw [f_hasInput hg hT hG hN hi hk hV, zB_t ⟨z_pos (by omega), z_le_pred hz hc⟩]
  simp only [Option.bind_some]
  rw [if_neg (by decide), z_gr (by omega) (by rw [s0]), r0]
  simp only [Option.bind_some]
  rw [z_nodes hg (by omega)]
  simp only [Option.bind_some]
  rw [z_gr (by omega) (by rw [t0]), q3]
  simp only [Option.bind_some]
  rw [z_as (by omega) (by omega) (by rw [t1]) (by rw [t1]; exact hc3) (by omega), hm1]
  simp only [Option.bind_some]
  rw [z_sh (by omega) (by rw [s0])]
  simp only [Option.bind_some]
  rw [d1]
  rfl
end GOPS
