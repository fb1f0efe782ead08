/-! ===== the law: whether a node depends on another one ===== -/
section DEPW
variable {N a b : Nat} {V : Nat → Nat → Int32}
theorem zdp_mono {n b : Nat} : ∀ k, zdp N V n a b → zdp N V (n + k) a b := by
  have one : ∀ n b, zdp N V n a b → zdp N V (n + 1) a b := by
    intro n
    induction n with
    | zero => intro b h; exact Or.inl h
    | succ n ih =>
      intro b h
      rcases h with h | ⟨j, k, c1, c2, c3, c4⟩
      · exact Or.inl h
      · exact Or.inr ⟨j, k, c1, c2, c3, ih j c4⟩
  intro k
  induction k with
  | zero => exact id
  | succ k ih => exact fun h => one _ _ (ih h)
theorem zdep_N (h : zOK N V) {b : Nat} (hb : b < N) (hd : zdep N V a b) : zdp N V N a b := by
  have hN := h.1
  obtain ⟨t, ht, rfl⟩ := zord_sur h hb
  have key : ∀ (B t : Nat), t ≤ B → t < N → zdep N V a (zord N V t) → zdp N V t a (zord N V t) := by
    intro B
    induction B with
    | zero =>
      intro t h1 h2 hd
      obtain rfl : t = 0 := by omega
      rcases zdep_cases hd with e | ⟨j, k, c1, c2, c3, c4⟩
      · exact e
      · obtain ⟨s, hs, -⟩ := zord_top h h2 c1 c2 c3
        omega
    | succ B ih =>
      intro t h1 h2 hd
      rcases zdep_cases hd with e | ⟨j, k, c1, c2, c3, c4⟩
      · cases t with
        | zero => exact e
        | succ t => exact Or.inl e
      · obtain ⟨s, hs, es⟩ := zord_top h h2 c1 c2 c3
        cases t with
        | zero => omega
        | succ t =>
          refine Or.inr ⟨j, k, c1, c2, c3, ?_⟩
          have h3 := ih s (by omega) (by omega) (by rw [es]; exact c4)
          rw [es] at h3
          have h4 := zdp_mono (t - s) h3
          rwa [show s + (t - s) = t by omega] at h4
  have h5 := zdp_mono (N - t) (key t t (Nat.le_refl _) ht hd)
  rwa [show t + (N - t) = N by omega] at h5
/-- the inputs of those in the set come in, one place of the row after the other -/
def lup (row : Nat → Int32) : Nat → Nat → Int32 → Int32
  | 0, _, x => x
  | d + 1, q, x => lup row d (q + 1) (if (x >>> (nI (q / 3) &&& 31)) &&& 1 = 1 then (if row q < 0 then x ||| 0 else x ||| 1 <<< (row q &&& 31)) else x ||| 0)
def lups (row : Nat → Int32) (M : Nat) : Nat → Int32 → Int32
  | 0, x => x
  | t + 1, x => lups row M t (lup row (3 * M) 0 x)
/-- all that is in the set stands above a -/
def zan (N : Nat) (V : Nat → Nat → Int32) (a : Nat) (x : Int32) : Prop := zsm x ∧ ∀ i, i < 12 → zb x i → i < N ∧ zdep N V i a
theorem lup_ok {row : Nat → Int32} (h : zOK N V) (hr : ∀ i k, i < N → k < 3 → row (3 * i + k) = V i (3 + k)) : ∀ (d q : Nat) (x : Int32), q + d = 3 * N → zan N V a x → zan N V a (lup row d q x) ∧ (∀ i, i < 12 → zb x i → zb (lup row d q x) i) ∧ ∀ i k j, q ≤ 3 * i + k → i < N → k < 3 → j < N → V i (3 + k) = nI j → zb x i → zb (lup row d q x) j := by
  have hN := h.1
  intro d
  induction d with
  | zero => intro q x hq hx; exact ⟨hx, fun _ _ z => z, fun i k j h1 h2 h3 => by omega⟩
  | succ d ih =>
    intro q x hq hx
    obtain ⟨x1, x2⟩ := id hx
    have hi : q / 3 < N := by omega
    have hk : q % 3 < 3 := by omega
    have hrow := hr (q / 3) (q % 3) hi hk
    rw [show 3 * (q / 3) + q % 3 = q by omega] at hrow
    generalize hy : (if (x >>> (nI (q / 3) &&& 31)) &&& 1 = 1 then (if row q < 0 then x ||| 0 else x ||| 1 <<< (row q &&& 31)) else x ||| 0) = y
    have h0 : ∀ i, i < 12 → (zb (x ||| 0) i ↔ zb x i) := fun i hi => by
      rw [zor_b (by omega)]
      exact ⟨fun z => z.elim id (fun z => absurd z (z0_b (by omega))), Or.inl⟩
    have hyo : zan N V a y ∧ (∀ i, i < 12 → zb x i → zb y i) ∧ ∀ j, j < N → V (q / 3) (3 + q % 3) = nI j → zb x (q / 3) → zb y j := by
      by_cases hb : (x >>> (nI (q / 3) &&& 31)) &&& 1 = 1
      · rw [if_pos hb] at hy
        rcases (h.2.1 _ hi).2.2 (q % 3) hk with hn | ⟨j, hj, he⟩
        · have hn' : row q = -1005 := hrow.trans hn
          rw [if_pos (show row q < 0 by rw [hn']; decide)] at hy
          refine ⟨⟨by rw [← hy]; exact zor_sm x1 z0_sm, fun i hi z => x2 i hi (by rw [← hy] at z; exact (h0 i hi).mp z)⟩, fun i hi z => by rw [← hy]; exact (h0 i hi).mpr z, fun j hj e => ?_⟩
          rw [show V (q / 3) (3 + q % 3) = -1005 from hn] at e
          exact absurd e.symm (nI_ne_none (by omega))
        · have he' : row q = nI j := hrow.trans he
          rw [he', if_neg (nI_pos (by omega))] at hy
          have hxy : ∀ i, i < 12 → (zb y i ↔ zb x i ∨ i = j) := fun i hi => by
            rw [← hy, zor_b (by omega)]
            show zb x i ∨ zb (z1 j) i ↔ _
            rw [z1_b (by omega) (by omega)]
          refine ⟨⟨by rw [← hy]; exact zor_sm x1 (z1_sm (by omega)), fun i hi z => ?_⟩, fun i hi z => (hxy i hi).mpr (Or.inl z), fun j' hj' e _ => (hxy j' (by omega)).mpr (Or.inr ?_)⟩
          · rcases (hxy i hi).mp z with z | rfl
            · exact x2 i hi z
            · exact ⟨hj, zdep_tr (zdep_step hj hk he (zdep_rf i)) (x2 _ (by omega) hb).2⟩
          · exact nI_inj (by omega) (by omega) (e.symm.trans he)
      · rw [if_neg hb] at hy
        exact ⟨⟨by rw [← hy]; exact zor_sm x1 z0_sm, fun i hi z => x2 i hi (by rw [← hy] at z; exact (h0 i hi).mp z)⟩, fun i hi z => by rw [← hy]; exact (h0 i hi).mpr z, fun j hj e z => absurd z hb⟩
    obtain ⟨y1, y2, y3⟩ := hyo
    obtain ⟨w1, w2, w3⟩ := ih (q + 1) y (by omega) y1
    have e : lup row (d + 1) q x = lup row d (q + 1) y := by
      rw [← hy]
      rfl
    rw [e]
    refine ⟨w1, fun i hi z => w2 i hi (y2 i hi z), fun i k j h1 h2 h3 h4 h5 h6 => ?_⟩
    by_cases hq2 : 3 * i + k = q
    · have hi2 : q / 3 = i := by omega
      have hk2 : q % 3 = k := by omega
      rw [hi2, hk2] at y3
      exact w2 j (by omega) (y3 j h4 h5 h6)
    · exact w3 i k j (by omega) h2 h3 h4 h5 (y2 i (by omega) h6)
theorem lups_ok {row : Nat → Int32} (h : zOK N V) (hr : ∀ i k, i < N → k < 3 → row (3 * i + k) = V i (3 + k)) : ∀ (t : Nat) (x : Int32), zan N V a x → zan N V a (lups row N t x) ∧ (∀ i, i < 12 → zb x i → zb (lups row N t x) i) ∧ ∀ c b, c < N → b < N → zb x c → zdp N V t b c → zb (lups row N t x) b := by
  have hN := h.1
  intro t
  induction t with
  | zero =>
    intro x hx
    refine ⟨hx, fun _ _ z => z, fun c b hc hb z hd => ?_⟩
    have e : b = c := hd
    rw [e]
    exact z
  | succ t ih =>
    intro x hx
    obtain ⟨y1, y2, y3⟩ := lup_ok h hr (3 * N) 0 x (by omega) hx
    obtain ⟨w1, w2, w3⟩ := ih (lup row (3 * N) 0 x) y1
    refine ⟨w1, fun i hi z => w2 i hi (y2 i hi z), fun c b hc hb z hd => ?_⟩
    rcases hd with e | ⟨j, k, hj, hk, e, hd⟩
    · rw [e]
      exact w2 c (by omega) (y2 c (by omega) z)
    · exact w3 j b hj hb (y3 c k j (by omega) hc hk hj e z) hd
theorem lups_dep {row : Nat → Int32} (h : zOK N V) (hr : ∀ i k, i < N → k < 3 → row (3 * i + k) = V i (3 + k)) (ha : a < N) (hb : b < N) : zb (lups row N N (z1 a)) b ↔ zdep N V b a := by
  have hN := h.1
  have hx : zan N V a (z1 a) := ⟨z1_sm (by omega), fun i hi z => by
    rw [z1_b (by omega) (by omega)] at z
    rw [z]
    exact ⟨ha, zdep_rf a⟩⟩
  obtain ⟨w1, w2, w3⟩ := lups_ok h hr N (z1 a) hx
  exact ⟨fun z => (w1.2 b (by omega) z).2, fun hd => w3 a b ha hb (by rw [z1_b (by omega) (by omega)]) (zdep_N h ha hd)⟩
end DEPW
section DEPL
variable {n N a b f : Nat} {m : Nat → Nat → Int32} {p : Nat → Nat} {V : Nat → Nat → Int32} {k8 : Option Nat → Int32 → Int32 → Int32 → Int32 → ax_S → Option (Int32 × ax_S)} {y : Int32}
theorem l_dep17 (hN : N ≤ 12) {r : Int32} : ∀ (d q f : Nat) (x : Int32), q + d = 3 * N → d < f → fb_L_depends_17 k8 f (some 276) (nI N) y x r (nI q) (zC n m p) = k8 (some 276) (nI N) y (lup (m 276) d q x) (r + 1) (zC n m p) := by
  intro d
  induction d with
  | zero =>
    intro q f x hq hf
    obtain ⟨f, rfl⟩ : ∃ k, f = k + 1 := ⟨f - 1, by omega⟩
    obtain rfl : q = 3 * N := by omega
    unfold fb_L_depends_17
    rw [z_t3, if_pos (nI_le (by omega) (by omega))]
    rfl
  | succ d ih =>
    intro q f x hq hf
    obtain ⟨f, rfl⟩ : ∃ k, f = k + 1 := ⟨f - 1, by omega⟩
    have e3 : nI q / 3 = nI (q / 3) := pk_div (a := q) (d := 3) (by omega) (by omega) (by omega)
    unfold fb_L_depends_17 fb_L_depends_56 fb_L_depends_57 lup ax_bd
    rw [z_t3, if_neg (nI_ge (by omega) (by omega)), e3, z_a276 (by omega), nI_1]
    simp only [Option.bind_some]
    by_cases hb : (x >>> (nI (q / 3) &&& 31)) &&& 1 = 1
    · rw [if_pos hb, if_pos hb]
      by_cases hn : m 276 q < 0
      · rw [if_pos hn, if_pos hn]
        exact ih (q + 1) f _ (by omega) (by omega)
      · rw [if_neg hn, if_neg hn]
        exact ih (q + 1) f _ (by omega) (by omega)
    · rw [if_neg hb, if_neg hb]
      exact ih (q + 1) f _ (by omega) (by omega)
theorem l_dep8 (hN : N ≤ 12) : ∀ (d t f : Nat) (x : Int32), t + d = N → d < f → fb_L_depends_8 f (some 276) (nI N) y x (nI t) (zC n m p) = if ((lups (m 276) N d x) >>> (y &&& 31)) &&& 1 = 1 then some (1, zC n m p) else some (0, zC n m p) := by
  intro d
  induction d with
  | zero =>
    intro t f x ht hf
    obtain ⟨f, rfl⟩ : ∃ k, f = k + 1 := ⟨f - 1, by omega⟩
    obtain rfl : t = N := by omega
    unfold fb_L_depends_8
    rw [if_pos (nI_le (by omega) (by omega))]
    rfl
  | succ d ih =>
    intro t f x ht hf
    obtain ⟨f, rfl⟩ : ∃ k, f = k + 1 := ⟨f - 1, by omega⟩
    have h17 := l_dep17 (n := n) (m := m) (p := p) (k8 := fb_L_depends_8 f) (y := y) (r := nI t) hN (3 * N) 0 10000 x (by omega) (by omega)
    rw [nI_0] at h17
    unfold fb_L_depends_8
    rw [if_neg (nI_ge (by omega) (by omega)), h17, nI_1, ih (t + 1) f _ (by omega) (by omega)]
    rfl
theorem l_depends (h : zOK N V) (hr : ∀ i k, i < N → k < 3 → m 276 (3 * i + k) = V i (3 + k)) (ha : a < N) (hb : b < N) : (zdep N V b a ∧ fn_L_depends (some 276) (nI N) (nI a) (nI b) (zC n m p) = some (1, zC n m p)) ∨ (¬ zdep N V b a ∧ fn_L_depends (some 276) (nI N) (nI a) (nI b) (zC n m p) = some (0, zC n m p)) := by
  have hN := h.1
  have h8 := l_dep8 (n := n) (m := m) (p := p) (y := nI b) hN N 0 10000 (z1 a) (by omega) (by omega)
  rw [nI_0] at h8
  have hd := lups_dep (row := m 276) h hr ha hb
  have hu : fn_L_depends (some 276) (nI N) (nI a) (nI b) (zC n m p) = ax_bz (fb_L_depends_8 10000 (some 276) (nI N) (nI b) (z1 a) 0 (zC n m p)) := by
    unfold fn_L_depends fi_L_depends
    rfl
  rw [hu, h8]
  by_cases hz : zb (lups (m 276) N N (z1 a)) b
  · left
    refine ⟨hd.mp hz, ?_⟩
    rw [if_pos (show (lups (m 276) N N (z1 a) >>> (nI b &&& 31)) &&& 1 = 1 from hz), zbz1]
  · right
    refine ⟨fun q => hz (hd.mpr q), ?_⟩
    rw [if_neg (show ¬ (lups (m 276) N N (z1 a) >>> (nI b &&& 31)) &&& 1 = 1 from hz), zbz0]
end DEPL
