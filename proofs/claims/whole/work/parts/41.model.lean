/-! ===== the model's graph ===== -/
def zGM (m : Nat → Nat → Int32) (N : Nat) (V : Nat → Nat → Int32) : Prop := m 276 0 = nI N ∧ (∀ i w, i < N → w < 6 → m 276 (1 + 10 * i + w) = V i w) ∧ ∀ i k q, i < N → k < 7 → V i 0 = nI k → q < zpn k → m 276 (1 + 10 * i + (6 + q)) = V i (6 + q)
/-- the model's two tables -/
def zMT (m : Nat → Nat → Int32) : Prop := ∀ k, k < 7 → m 285 k = nI (zin k) ∧ m 286 k = nI (zpn k)
theorem z_at (i w : Nat) : (1 : Int32) + 10 * nI i + nI w = nI (1 + 10 * i + w) := by
  rw [show (1 : Int32) = nI 1 from rfl, show (10 : Int32) = nI 10 from rfl, pk_mul, nI_add, nI_add]
def za29 (V : Nat → Nat → Int32) (i : Nat) : Nat → Nat → Int32 → Int32
  | 0, _, x => x
  | d + 1, c, x => za29 V i d (c + 1) (x ||| (if zI V i c < 0 then 0 else if (x >>> (zI V i c &&& 31)) &&& 1 = 1 then z1 i else 0))
def za15 (V : Nat → Nat → Int32) : Nat → Nat → Int32 → Int32
  | 0, _, x => x
  | d + 1, i, x => za15 V d (i + 1) (za29 V i 3 0 x)
def za6 (N : Nat) (V : Nat → Nat → Int32) : Nat → Int32 → Int32
  | 0, x => x
  | d + 1, x => za6 N V d (za15 V N 0 x)
section MODEL
variable {n N i k c : Nat} {m : Nat → Nat → Int32} {p : Nat → Nat} {V : Nat → Nat → Int32} {x y : Int32}
theorem f_in (a b c : Int32) (s : ax_S) : fn_X10_in a b c s = some (zB (b ≤ a ∧ a ≤ c), s) := f_isIn a b c s
theorem z_mo (t : Nat) : ax_sh (zC n m p) 7 (some 275) = some (275, 28) := z_sh (by omega) rfl
theorem z_mr : ax_gr (zC n m p) 7 k (some 275) = some (zR p 275 k) := z_gr (by omega) rfl
theorem z_v {j : Nat} (hj : j < 121) : ax_al (zC n m p) 9 (some 276) (nI j) = some (m 276 j) := z_al (by omega) rfl (by exact hj) (by omega)
theorem z_vs {j : Nat} (hj : j < 121) : ax_as (zC n m p) 9 (some 276) (nI j) x = some (zC n (ax_u2 m 276 j x) p) := z_as (by omega) (by omega) rfl (by exact hj) (by omega)
theorem f_mNode (h : m 276 0 = nI N) : fn_X10_isNode (some 275) x (zC n m p) = some (zB (0 ≤ x ∧ x ≤ nI N - 1), zC n m p) := by
  unfold fn_X10_isNode fi_X10_isNode
  rw [z_mr, show zR p 275 0 = some 276 from rfl]
  simp only [Option.bind_some]
  rw [show (0 : Int32) = nI 0 from rfl, z_v (by omega), h, nI_0]
  simp only [Option.bind_some]
  rw [f_in]
  simp only [Option.bind_some]
  exact zB_bz
theorem f_mkind (hi : i < 12) : fn_X10_kind (some 275) (nI i) (zC n m p) = some (m 276 (1 + 10 * i), zC n m p) := by
  unfold fn_X10_kind fn_X10_at
  rw [z_mr, show zR p 275 0 = some 276 from rfl]
  simp only [Option.bind_some]
  rw [show (0 : Int32) = nI 0 from rfl, z_at, z_v (by omega)]
  rfl
theorem f_mInput_no (h : m 276 0 = nI N) (hx : ¬ (0 ≤ x ∧ x ≤ nI N - 1)) : fn_X10_isInput (some 275) x y (zC n m p) = some (0, zC n m p) := by
  unfold fn_X10_isInput fi_X10_isInput
  rw [z_mo 0, f_mNode h, zB_f hx]
  simp only [Option.bind_some, if_true]
  exact zbz0
theorem f_mParameter_no (h : m 276 0 = nI N) (hx : ¬ (0 ≤ x ∧ x ≤ nI N - 1)) : fn_X10_isParameter (some 275) x y (zC n m p) = some (0, zC n m p) := by
  unfold fn_X10_isParameter fi_X10_isParameter
  rw [z_mo 0, f_mNode h, zB_f hx]
  simp only [Option.bind_some, if_true]
  exact zbz0
theorem f_mInput (hM : zMT m) (hG : zGM m N V) (hN : N ≤ 12) (hi : i < N) (hk : k < 7) (hV : V i 0 = nI k) : fn_X10_isInput (some 275) (nI i) y (zC n m p) = some (zB (0 ≤ y ∧ y ≤ nI (zin k) - 1), zC n m p) := by
  unfold fn_X10_isInput fi_X10_isInput
  rw [z_mo 0, f_mNode hG.1, zB_t ⟨z_pos (by omega), z_le_pred (by omega) hi⟩]
  simp only [Option.bind_some]
  rw [if_neg (by decide), z_mr, show zR p 275 13 = some 285 from rfl, z_mo 0]
  simp only [Option.bind_some]
  have e := hG.2.1 i 0 hi (by omega)
  rw [Nat.add_zero, hV] at e
  rw [f_mkind (by omega), e]
  simp only [Option.bind_some]
  rw [z_al (t := 9) (a := 285) (by omega) rfl (by exact hk) (by omega), (hM k hk).1]
  simp only [Option.bind_some]
  rw [f_in]
  simp only [Option.bind_some]
  by_cases hc : 0 ≤ y ∧ y ≤ nI (zin k) - 1
  · rw [zB_t hc, if_neg (by decide), zbz1]
  · rw [zB_f hc, if_pos rfl, zbz0]
theorem f_mParameter (hM : zMT m) (hG : zGM m N V) (hN : N ≤ 12) (hi : i < N) (hk : k < 7) (hV : V i 0 = nI k) : fn_X10_isParameter (some 275) (nI i) y (zC n m p) = some (zB (0 ≤ y ∧ y ≤ nI (zpn k) - 1), zC n m p) := by
  unfold fn_X10_isParameter fi_X10_isParameter
  rw [z_mo 0, f_mNode hG.1, zB_t ⟨z_pos (by omega), z_le_pred (by omega) hi⟩]
  simp only [Option.bind_some]
  rw [if_neg (by decide), z_mr, show zR p 275 14 = some 286 from rfl, z_mo 0]
  simp only [Option.bind_some]
  have e := hG.2.1 i 0 hi (by omega)
  rw [Nat.add_zero, hV] at e
  rw [f_mkind (by omega), e]
  simp only [Option.bind_some]
  rw [z_al (t := 9) (a := 286) (by omega) rfl (by exact hk) (by omega), (hM k hk).2]
  simp only [Option.bind_some]
  rw [f_in]
  simp only [Option.bind_some]
  by_cases hc : 0 ≤ y ∧ y ≤ nI (zpn k) - 1
  · rw [zB_t hc, if_neg (by decide), zbz1]
  · rw [zB_f hc, if_pos rfl, zbz0]
theorem z_vin (hG : zGM m N V) (hN : N ≤ 12) (hi : i < N) (hc : c < 3) : ax_al (zC n m p) 9 (some 276) (1 + 10 * nI i + (3 + nI c)) = some (zI V i c) := by
  rw [show (3 : Int32) = nI 3 from rfl, nI_add, z_at, z_v (by omega), hG.2.1 i (3 + c) hi (by omega)]
  rfl
theorem f_mdep29 (hG : zGM m N V) (hN : N ≤ 12) (hi : i < N) {k6 : Option Nat → Int32 → Int32 → ax_S → Option (Int32 × ax_S)} {k15 : Option Nat → Int32 → Int32 → Int32 → ax_S → Option (Int32 × ax_S)} {r : Int32} : ∀ (d c f : Nat) (x : Int32), c + d = 3 → d < f → fb_X10_dependents_29 k6 k15 f (some 275) x r (nI i) (nI c) (zC n m p) = k15 (some 275) (za29 V i d c x) r (nI (i + 1)) (zC n m p) := by
  intro d
  induction d with
  | zero =>
    intro c f x hc hf
    obtain ⟨f, rfl⟩ : ∃ k, f = k + 1 := ⟨f - 1, by omega⟩
    obtain rfl : c = 3 := by omega
    unfold fb_X10_dependents_29
    rw [if_pos (by decide), nI_1]
    rfl
  | succ d ih =>
    intro c f x hc hf
    obtain ⟨f, rfl⟩ : ∃ k, f = k + 1 := ⟨f - 1, by omega⟩
    unfold fb_X10_dependents_29
    rw [if_neg (show ¬ (3 : Int32) ≤ nI c from nI_ge (b := 3) (by omega) (by omega)), z_mr, show zR p 275 0 = some 276 from rfl]
    simp only [Option.bind_some, fn_X10_at]
    rw [z_vin hG hN hi (by omega)]
    simp only [Option.bind_some]
    unfold fb_X10_dependents_74 fb_X10_dependents_75 za29
    simp only [ax_bd]
    rw [show nI c + 1 = nI (c + 1) from nI_1 c]
    split
    · exact ih (c + 1) f _ (by omega) (by omega)
    · split
      · exact ih (c + 1) f _ (by omega) (by omega)
      · exact ih (c + 1) f _ (by omega) (by omega)
theorem f_mdep15 (hG : zGM m N V) (hN : N ≤ 12) {k6 : Option Nat → Int32 → Int32 → ax_S → Option (Int32 × ax_S)} {r : Nat} : ∀ (d i f : Nat) (x : Int32), i + d = N → d < f → fb_X10_dependents_15 k6 f (some 275) x (nI r) (nI i) (zC n m p) = k6 (some 275) (za15 V d i x) (nI (r + 1)) (zC n m p) := by
  intro d
  induction d with
  | zero =>
    intro i f x hi hf
    obtain ⟨f, rfl⟩ : ∃ k, f = k + 1 := ⟨f - 1, by omega⟩
    obtain rfl : i = N := by omega
    unfold fb_X10_dependents_15
    rw [z_mr, show zR p 275 0 = some 276 from rfl]
    simp only [Option.bind_some]
    rw [show (0 : Int32) = nI 0 from rfl, z_v (by omega), hG.1]
    simp only [Option.bind_some]
    rw [if_pos (nI_le (Nat.le_refl _) (by omega)), nI_1]
    rfl
  | succ d ih =>
    intro i f x hi hf
    obtain ⟨f, rfl⟩ : ∃ k, f = k + 1 := ⟨f - 1, by omega⟩
    unfold fb_X10_dependents_15
    rw [z_mr, show zR p 275 0 = some 276 from rfl]
    simp only [Option.bind_some]
    rw [show (0 : Int32) = nI 0 from rfl, z_v (by omega), hG.1]
    simp only [Option.bind_some]
    rw [if_neg (nI_ge (by omega) (by omega)), f_mdep29 hG hN (by omega) 3 0 10000 x rfl (by omega)]
    exact ih (i + 1) f _ (by omega) (by omega)
theorem f_mdep6 (hG : zGM m N V) (hN : N ≤ 12) : ∀ (d r f : Nat) (x : Int32), r + d = 12 → d < f → fb_X10_dependents_6 f (some 275) x (nI r) (zC n m p) = some (za6 N V d x, zC n m p) := by
  intro d
  induction d with
  | zero =>
    intro r f x hr hf
    obtain ⟨f, rfl⟩ : ∃ k, f = k + 1 := ⟨f - 1, by omega⟩
    obtain rfl : r = 12 := by omega
    unfold fb_X10_dependents_6
    rw [if_pos (by decide)]
    rfl
  | succ d ih =>
    intro r f x hr hf
    obtain ⟨f, rfl⟩ : ∃ k, f = k + 1 := ⟨f - 1, by omega⟩
    unfold fb_X10_dependents_6
    rw [if_neg (show ¬ (12 : Int32) ≤ nI r from nI_ge (b := 12) (by omega) (by omega)), show (0 : Int32) = nI 0 from rfl, f_mdep15 hG hN N 0 10000 x (by omega) (by omega)]
    exact ih (r + 1) f _ (by omega) (by omega)
theorem f_mdep_raw (hG : zGM m N V) (hN : N ≤ 12) (a : Nat) : fn_X10_dependents (some 275) (nI a) (zC n m p) = some (za6 N V 12 (z1 a), zC n m p) := by
  have h := f_mdep6 (n := n) (p := p) hG hN 12 0 10000 (z1 a) rfl (by omega)
  rw [nI_0] at h
  unfold fn_X10_dependents ax_bd
  exact h
end MODEL
/-! the set that the model finds -/
section MSET
variable {N a : Nat} {V : Nat → Nat → Int32}
theorem z_neg {x : Int32} (h : x = -1005) : x < 0 := by
  rw [h]
  decide
/-- one more is in the set than before, and all of it depends on a -/
def zup (N : Nat) (V : Nat → Nat → Int32) (a : Nat) (x y : Int32) : Prop := zsm y ∧ (∀ i, i < 12 → zb x i → zb y i) ∧ ∀ i, i < 12 → zb y i → i < N ∧ zdep N V a i
theorem za29_ok (h : zOK N V) {i : Nat} (hi : i < N) : ∀ (d c : Nat) (x : Int32), c + d = 3 → zup N V a x x → zup N V a x (za29 V i d c x) ∧ ∀ k j, c ≤ k → k < 3 → j < N → zI V i k = nI j → zb x j → zb (za29 V i d c x) i := by
  have hN := h.1
  intro d
  induction d with
  | zero =>
    intro c x hc hx
    exact ⟨hx, fun k j h1 h2 => by omega⟩
  | succ d ih =>
    intro c x hc hx
    obtain ⟨x1, x2, x3⟩ := id hx
    generalize hy : (x ||| (if zI V i c < 0 then 0 else if (x >>> (zI V i c &&& 31)) &&& 1 = 1 then z1 i else 0)) = y
    have hyo : zup N V a y y ∧ (∀ q, q < 12 → zb x q → zb y q) ∧ ∀ j, j < N → zI V i c = nI j → zb x j → zb y i := by
      rcases (h.2.1 i hi).2.2 c (by omega) with hn | ⟨j, hj, he⟩
      · rw [if_pos (z_neg hn)] at hy
        have hxy : ∀ q, q < 12 → (zb y q ↔ zb x q) := fun q hq => by
          rw [← hy, zor_b (by omega)]
          exact ⟨fun z => z.elim id (fun z => absurd z (z0_b (by omega))), Or.inl⟩
        refine ⟨⟨by rw [← hy]; exact zor_sm x1 z0_sm, fun _ _ z => z, fun q hq z => x3 q hq ((hxy q hq).mp z)⟩, fun q hq z => (hxy q hq).mpr z, fun j hj e => ?_⟩
        rw [hn] at e
        exact absurd e.symm (nI_ne_none (by omega))
      · rw [if_neg (by rw [he]; exact nI_pos (by omega)), he] at hy
        by_cases hb : (x >>> (nI j &&& 31)) &&& 1 = 1
        · rw [if_pos hb] at hy
          have hxy : ∀ q, q < 12 → (zb y q ↔ zb x q ∨ q = i) := fun q hq => by
            rw [← hy, zor_b (by omega), z1_b (by omega) (by omega)]
          refine ⟨⟨by rw [← hy]; exact zor_sm x1 (z1_sm (by omega)), fun _ _ z => z, fun q hq z => ?_⟩, fun q hq z => (hxy q hq).mpr (Or.inl z), fun j' hj' e z => (hxy i (by omega)).mpr (Or.inr rfl)⟩
          rcases (hxy q hq).mp z with z | rfl
          · exact x3 q hq z
          · exact ⟨hi, zdep_step hj (by omega) he (x3 j (by omega) hb).2⟩
        · rw [if_neg hb] at hy
          have hxy : ∀ q, q < 12 → (zb y q ↔ zb x q) := fun q hq => by
            rw [← hy, zor_b (by omega)]
            exact ⟨fun z => z.elim id (fun z => absurd z (z0_b (by omega))), Or.inl⟩
          refine ⟨⟨by rw [← hy]; exact zor_sm x1 z0_sm, fun _ _ z => z, fun q hq z => x3 q hq ((hxy q hq).mp z)⟩, fun q hq z => (hxy q hq).mpr z, fun j' hj' e z => ?_⟩
          have : j = j' := nI_inj (by omega) (by omega) (he.symm.trans e)
          subst this
          exact absurd z hb
    obtain ⟨y1, y2, y3⟩ := hyo
    obtain ⟨z1', z2⟩ := ih (c + 1) y (by omega) y1
    have e : za29 V i (d + 1) c x = za29 V i d (c + 1) y := by
      rw [← hy]
      rfl
    rw [e]
    refine ⟨⟨z1'.1, fun q hq z => z1'.2.1 q hq (y2 q hq z), z1'.2.2⟩, fun k j h1 h2 h3 h4 h5 => ?_⟩
    by_cases hk : k = c
    · subst hk
      exact z1'.2.1 i (by omega) (y3 j h3 h4 h5)
    · exact z2 k j (by omega) h2 h3 h4 (y2 j (by omega) h5)
theorem za15_ok (h : zOK N V) : ∀ (d i : Nat) (x : Int32), i + d = N → zup N V a x x → zup N V a x (za15 V d i x) ∧ ∀ b k j, i ≤ b → b < N → k < 3 → j < N → zI V b k = nI j → zb x j → zb (za15 V d i x) b := by
  have hN := h.1
  intro d
  induction d with
  | zero =>
    intro i x hi hx
    exact ⟨hx, fun b k j h1 h2 => by omega⟩
  | succ d ih =>
    intro i x hi hx
    obtain ⟨y1, y2⟩ := za29_ok h (i := i) (by omega) 3 0 x rfl hx
    obtain ⟨w1, w2⟩ := ih (i + 1) (za29 V i 3 0 x) (by omega) ⟨y1.1, fun _ _ z => z, y1.2.2⟩
    refine ⟨⟨w1.1, fun q hq z => w1.2.1 q hq (y1.2.1 q hq z), w1.2.2⟩, fun b k j h1 h2 h3 h4 h5 h6 => ?_⟩
    by_cases hb : b = i
    · subst hb
      exact w1.2.1 b (by omega) (y2 k j (by omega) h3 h4 h5 h6)
    · exact w2 b k j (by omega) h2 h3 h4 h5 (y1.2.1 j (by omega) h6)
theorem za6_ok (h : zOK N V) : ∀ (d : Nat) (x : Int32), zup N V a x x → (∀ b, b < N → a = b → zb x b) → zup N V a x (za6 N V d x) ∧ ∀ b, b < N → zdp N V d a b → zb (za6 N V d x) b := by
  have hN := h.1
  intro d
  induction d with
  | zero => intro x hx ha; exact ⟨hx, fun b hb hd => ha b hb hd⟩
  | succ d ih =>
    intro x hx ha
    obtain ⟨y1, y2⟩ := za15_ok h N 0 x (by omega) hx
    have key : ∀ (d : Nat) (x : Int32), za6 N V (d + 1) x = za15 V N 0 (za6 N V d x) := by
      intro d
      induction d with
      | zero => intro x; rfl
      | succ d ihd => intro x; exact ihd (za15 V N 0 x)
    obtain ⟨w1, w2⟩ := ih x hx ha
    obtain ⟨v1, v2⟩ := za15_ok h N 0 (za6 N V d x) (by omega) ⟨w1.1, fun _ _ z => z, w1.2.2⟩
    rw [key]
    refine ⟨⟨v1.1, fun q hq z => v1.2.1 q hq (w1.2.1 q hq z), v1.2.2⟩, fun b hb hd => ?_⟩
    rcases hd with rfl | ⟨j, k, c1, c2, c3, c4⟩
    · exact v1.2.1 a (by omega) (w1.2.1 a (by omega) (ha a hb rfl))
    · exact v2 b k j (by omega) hb c2 c1 c3 (w2 j c1 c4)
theorem zdp_mono {n b : Nat} : ∀ k, zdp N V n a b → zdp N V (n + k) a b := by
  have one : ∀ n b, zdp N V n a b → zdp N V (n + 1) a b := by
    intro n
    induction n with
    | zero => intro b h; exact Or.inl h
    | succ n ih =>
      intro b h
      rcases h with h | ⟨j, k, c1, c2, c3, c4⟩
      · exact Or.inl h
      · exact Or.inr ⟨j, k, c1, c2, c3, ih j c4⟩
  intro k
  induction k with
  | zero => exact id
  | succ k ih => exact fun h => one _ _ (ih h)
theorem zdep_12 (h : zOK N V) {b : Nat} (hb : b < N) (hd : zdep N V a b) : zdp N V 12 a b := by
  have hN := h.1
  obtain ⟨t, ht, rfl⟩ := zord_sur h hb
  have key : ∀ (B t : Nat), t ≤ B → t < N → zdep N V a (zord N V t) → zdp N V t a (zord N V t) := by
    intro B
    induction B with
    | zero =>
      intro t h1 h2 hd
      obtain rfl : t = 0 := by omega
      rcases zdep_cases hd with e | ⟨j, k, c1, c2, c3, c4⟩
      · exact e
      · obtain ⟨s, hs, -⟩ := zord_top h h2 c1 c2 c3
        omega
    | succ B ih =>
      intro t h1 h2 hd
      rcases zdep_cases hd with e | ⟨j, k, c1, c2, c3, c4⟩
      · cases t with
        | zero => exact e
        | succ t => exact Or.inl e
      · obtain ⟨s, hs, es⟩ := zord_top h h2 c1 c2 c3
        cases t with
        | zero => omega
        | succ t =>
          refine Or.inr ⟨j, k, c1, c2, c3, ?_⟩
          have h3 := ih s (by omega) (by omega) (by rw [es]; exact c4)
          rw [es] at h3
          have h4 := zdp_mono (t - s) h3
          rwa [show s + (t - s) = t by omega] at h4
  have h5 := zdp_mono (12 - t) (key t t (Nat.le_refl _) ht hd)
  rwa [show t + (12 - t) = 12 by omega] at h5
/-- both programs find the same set -/
theorem zsets (h : zOK N V) (ha : a < N) : za6 N V 12 (z1 a) = zfd N V a N := by
  have hN := h.1
  obtain ⟨f1, f2⟩ := zfd_dep h ha
  have h0 : zup N V a (z1 a) (z1 a) := ⟨z1_sm (by omega), fun _ _ z => z, fun i hi z => by
    rw [z1_b (by omega) (by omega)] at z
    subst z
    exact ⟨ha, zdep_rf _⟩⟩
  obtain ⟨g1, g2⟩ := za6_ok h 12 (z1 a) h0 (fun b hb e => by
    subst e
    exact (z1_b (by omega) (by omega)).mpr rfl)
  refine zext g1.1 f1 (fun i hi => ?_)
  rw [f2 i hi]
  constructor
  · exact g1.2.2 i hi
  · rintro ⟨hi2, hd⟩
    exact g2 i hi2 (zdep_12 h hi2 hd)
end MSET
theorem f_mdep {n N a : Nat} {m : Nat → Nat → Int32} {p : Nat → Nat} {V : Nat → Nat → Int32} (hG : zGM m N V) (h : zOK N V) (ha : a < N) : fn_X10_dependents (some 275) (nI a) (zC n m p) = some (zfd N V a N, zC n m p) := by
  rw [f_mdep_raw hG h.1 a, zsets h ha]
