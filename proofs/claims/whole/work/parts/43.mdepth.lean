/-! ===== the model: depths ===== -/
theorem zmx_ge {D : Nat → Nat} {v : Nat → Int32} : ∀ c k, k < c → v k ≠ -1005 → D (v k).toNatClampNeg + 1 ≤ zmx D v c := by
  intro c
  induction c with
  | zero => intro k hk; omega
  | succ c ih =>
    intro k hk hn
    unfold zmx
    by_cases e : k = c
    · subst e
      rw [if_neg hn]
      exact Nat.le_max_right _ _
    · split
      · exact ih k (by omega) hn
      · exact Nat.le_trans (ih k (by omega) hn) (Nat.le_max_left _ _)
theorem zmx_att {D : Nat → Nat} {v : Nat → Int32} : ∀ c, 0 < zmx D v c → ∃ k, k < c ∧ v k ≠ -1005 ∧ zmx D v c = D (v k).toNatClampNeg + 1 := by
  intro c
  induction c with
  | zero => intro h; exact absurd h (by unfold zmx; omega)
  | succ c ih =>
    intro h
    unfold zmx at h ⊢
    by_cases hc : v c = -1005
    · rw [if_pos hc] at h ⊢
      obtain ⟨k, a, b, d⟩ := ih h
      exact ⟨k, by omega, b, d⟩
    · rw [if_neg hc] at h ⊢
      by_cases hle : zmx D v c ≤ D (v c).toNatClampNeg + 1
      · rw [Nat.max_eq_right hle]
        exact ⟨c, by omega, hc, rfl⟩
      · rw [Nat.max_eq_left (by omega)]
        obtain ⟨k, a, b, d⟩ := ih (by omega)
        exact ⟨k, by omega, b, d⟩
section MDEP
variable {n N i k c : Nat} {m : Nat → Nat → Int32} {p : Nat → Nat} {V : Nat → Nat → Int32} {x y P : Int32}
/-- the row of depths holds e, at most D, at least what it was -/
def zdm (m m' : Nat → Nat → Int32) (N : Nat) (D e e' : Nat → Nat) : Prop := (∀ a, a ≠ 287 → m' a = m a) ∧ (∀ i, i < N → m' 287 i = nI (e' i)) ∧ (∀ i, i < N → e' i ≤ D i) ∧ ∀ i, i < N → e i ≤ e' i
theorem zGM_287 {m' : Nat → Nat → Int32} (h : zGM m N V) (hf : ∀ a, a ≠ 287 → m' a = m a) : zGM m' N V := ⟨by rw [hf 276 (by omega)]; exact h.1, fun i w hi hw => by rw [hf 276 (by omega)]; exact h.2.1 i w hi hw, fun i k q hi hk e hq => by rw [hf 276 (by omega)]; exact h.2.2 i k q hi hk e hq⟩
theorem z_d {j : Nat} (hj : j < 12) : ax_al (zC n m p) 9 (some 287) (nI j) = some (m 287 j) := z_al (by omega) rfl (by exact hj) (by omega)
theorem z_ds {j : Nat} (hj : j < 12) : ax_as (zC n m p) 9 (some 287) (nI j) x = some (zC n (ax_u2 m 287 j x) p) := z_as (by omega) (by omega) rfl (by exact hj) (by omega)
theorem f_mdepth48 (h : zOK N V) {D : Nat → Nat} (hD : zDok N V D) (hD12 : ∀ i, i < N → D i < 12) (hi : i < N) {a r : Int32} {k27 : Option Nat → Int32 → Int32 → ax_S → Option (Int32 × ax_S)} {k35 : Option Nat → Int32 → Int32 → Int32 → ax_S → Option (Int32 × ax_S)} :
    ∀ (d c f : Nat) (m : Nat → Nat → Int32) (e : Nat → Nat), c + d = 3 → d < f → zGM m N V → (∀ i, i < N → m 287 i = nI (e i)) → (∀ i, i < N → e i ≤ D i) →
    ∃ m' e', fb_X10_depthOf_48 k27 k35 f (some 275) a r (nI i) (nI c) (zC n m p) = k35 (some 275) a r (nI (i + 1)) (zC n m' p) ∧ zdm m m' N D e e' ∧ ∀ k j, c ≤ k → k < 3 → j < N → zI V i k = nI j → e j = D j → D i = D j + 1 → e' i = D i := by
  have hN := h.1
  intro d
  induction d with
  | zero =>
    intro c f m e hc hf hG he hle
    obtain ⟨f, rfl⟩ : ∃ k, f = k + 1 := ⟨f - 1, by omega⟩
    obtain rfl : c = 3 := by omega
    refine ⟨m, e, ?_, ⟨fun _ _ => rfl, he, hle, fun _ _ => Nat.le_refl _⟩, fun k j h1 h2 => by omega⟩
    unfold fb_X10_depthOf_48
    rw [if_pos (by decide), nI_1]
  | succ d ih =>
    intro c f m e hc hf hG he hle
    obtain ⟨f, rfl⟩ : ∃ k, f = k + 1 := ⟨f - 1, by omega⟩
    have hei := hle i hi
    have hDi := hD12 i hi
    -- what this step does
    obtain ⟨F, hF⟩ : ∃ F, F = fb_X10_depthOf_48 k27 k35 f := ⟨_, rfl⟩
    have step : ∃ m1 e1, fb_X10_depthOf_48 k27 k35 (f + 1) (some 275) a r (nI i) (nI c) (zC n m p) = F (some 275) a r (nI i) (nI (c + 1)) (zC n m1 p) ∧ zdm m m1 N D e e1 ∧ ∀ j, j < N → zI V i c = nI j → e j = D j → D i = D j + 1 → e1 i = D i := by
      have same : ∀ x : Int32, x = nI (e i) → zdm m (ax_u2 m 287 i x) N D e e := fun x hx => ⟨fun a ha => zu2_row ha, fun q hq => by
        by_cases hqi : q = i
        · subst hqi
          rw [ax_u2_self, hx]
        · rw [ax_u2_nk hqi]
          exact he q hq, hle, fun _ _ => Nat.le_refl _⟩
      unfold fb_X10_depthOf_48
      simp only [← hF]
      rw [if_neg (show ¬ (3 : Int32) ≤ nI c from nI_ge (b := 3) (by omega) (by omega)), z_mr, show zR p 275 0 = some 276 from rfl]
      simp only [Option.bind_some, fn_X10_at]
      rw [z_vin hG hN hi (by omega)]
      simp only [Option.bind_some]
      rw [z_mr, show zR p 275 15 = some 287 from rfl]
      simp only [Option.bind_some]
      have w107 : fb_X10_depthOf_107 k27 k35 F (some 275) a r (nI i) (nI c) (some 287) (nI i) (zC n m p) = F (some 275) a r (nI i) (nI (c + 1)) (zC n (ax_u2 m 287 i (m 287 i)) p) := by
        unfold fb_X10_depthOf_107
        rw [z_mr, show zR p 275 15 = some 287 from rfl]
        simp only [Option.bind_some]
        rw [z_d (by omega)]
        simp only [Option.bind_some]
        rw [z_ds (by omega)]
        simp only [Option.bind_some]
        rw [show nI c + 1 = nI (c + 1) from nI_1 c]
      rcases (h.2.1 i hi).2.2 c (by omega) with hn | ⟨j, hj, hej⟩
      · rw [if_pos (z_neg hn), w107]
        refine ⟨_, e, rfl, same _ (he i hi), fun j hj q => ?_⟩
        rw [hn] at q
        exact absurd q.symm (nI_ne_none (by omega))
      · have hDij : D j + 1 ≤ D i := by
          have h1 := zmx_ge (D := D) (v := zI V i) 3 c (by omega) (by rw [hej]; exact nI_ne_none (by omega))
          rw [hej, nI_clamp (by omega), ← hD i hi] at h1
          exact h1
        have hejD := hle j hj
        rw [if_neg (by rw [hej]; exact nI_pos (by omega)), hej, z_d (by omega), he j hj]
        simp only [Option.bind_some]
        rw [z_d (by omega), he i hi]
        simp only [Option.bind_some]
        by_cases hlt : e j < e i
        · rw [if_pos (nI_lt hlt (by omega)), w107]
          refine ⟨_, e, rfl, same _ (he i hi), fun j' hj' q q1 q2 => ?_⟩
          have : j = j' := nI_inj (by omega) (by omega) q
          subst this
          omega
        · rw [if_neg (nI_nlt (by omega) (by omega)), z_ds (by omega)]
          simp only [Option.bind_some]
          rw [show nI c + 1 = nI (c + 1) from nI_1 c]
          refine ⟨_, fun q => if q = i then e j + 1 else e q, rfl, ⟨fun a ha => zu2_row ha, fun q hq => ?_, fun q hq => ?_, fun q hq => ?_⟩, fun j' hj' q q1 q2 => ?_⟩
          · show ax_u2 m 287 i (nI (e j) + 1) 287 q = nI (if q = i then e j + 1 else e q)
            by_cases hqi : q = i
            · subst hqi
              rw [ax_u2_self, if_pos rfl, nI_1]
            · rw [ax_u2_nk hqi, if_neg hqi]
              exact he q hq
          · simp only []
            split
            · rename_i hqi
              rw [hqi]
              omega
            · exact hle q hq
          · simp only []
            split
            · rename_i hqi
              rw [hqi]
              omega
            · exact Nat.le_refl _
          · have : j = j' := nI_inj (by omega) (by omega) q
            subst this
            simp only [if_true]
            omega
    obtain ⟨m1, e1, s1, ⟨s2, s3, s4, s5⟩, s6⟩ := step
    obtain ⟨m', e', q1, ⟨q2, q3, q4, q5⟩, q6⟩ := ih (c + 1) f m1 e1 (by omega) (by omega) (zGM_287 hG s2) s3 s4
    rw [← hF] at q1
    refine ⟨m', e', s1.trans q1, ⟨fun a ha => by rw [q2 a ha, s2 a ha], q3, q4, fun i hi => Nat.le_trans (s5 i hi) (q5 i hi)⟩, fun k j h1 h2 h3 h4 h5 h6 => ?_⟩
    by_cases hk : k = c
    · subst hk
      have a1 := s6 j h3 h4 h5 h6
      have a2 := q5 i hi
      have a3 := q4 i hi
      omega
    · refine q6 k j (by omega) h2 h3 h4 ?_ h6
      have a1 := s5 j h3
      have a2 := s4 j h3
      omega
theorem f_mdepth35 (h : zOK N V) {D : Nat → Nat} (hD : zDok N V D) (hD12 : ∀ i, i < N → D i < 12) {a : Int32} {r : Nat} {k27 : Option Nat → Int32 → Int32 → ax_S → Option (Int32 × ax_S)} :
    ∀ (d i f : Nat) (m : Nat → Nat → Int32) (e : Nat → Nat), i + d = N → d < f → zGM m N V → (∀ i, i < N → m 287 i = nI (e i)) → (∀ i, i < N → e i ≤ D i) → (∀ b, b < N → D b ≤ r → e b = D b) →
    ∃ m' e', fb_X10_depthOf_35 k27 f (some 275) a (nI r) (nI i) (zC n m p) = k27 (some 275) a (nI (r + 1)) (zC n m' p) ∧ zdm m m' N D e e' ∧ ∀ b, i ≤ b → b < N → D b ≤ r + 1 → e' b = D b := by
  have hN := h.1
  intro d
  induction d with
  | zero =>
    intro i f m e hi hf hG he hle hr
    obtain ⟨f, rfl⟩ : ∃ k, f = k + 1 := ⟨f - 1, by omega⟩
    obtain rfl : i = N := by omega
    refine ⟨m, e, ?_, ⟨fun _ _ => rfl, he, hle, fun _ _ => Nat.le_refl _⟩, fun b h1 h2 => by omega⟩
    unfold fb_X10_depthOf_35
    rw [z_mr, show zR p 275 0 = some 276 from rfl]
    simp only [Option.bind_some]
    rw [show (0 : Int32) = nI 0 from rfl, z_v (by omega), hG.1]
    simp only [Option.bind_some]
    rw [if_pos (nI_le (Nat.le_refl _) (by omega)), nI_1]
  | succ d ih =>
    intro i f m e hi hf hG he hle hr
    obtain ⟨f, rfl⟩ : ∃ k, f = k + 1 := ⟨f - 1, by omega⟩
    obtain ⟨m1, e1, s1, ⟨s2, s3, s4, s5⟩, s6⟩ := f_mdepth48 (n := n) (p := p) (a := a) (r := nI r) (k27 := k27) (k35 := fb_X10_depthOf_35 k27 f) h hD hD12 (i := i) (by omega) 3 0 10000 m e rfl (by omega) hG he hle
    have hr1 : ∀ b, b < N → D b ≤ r → e1 b = D b := fun b hb hb2 => by
      have a1 := hr b hb hb2
      have a2 := s5 b hb
      have a3 := s4 b hb
      omega
    obtain ⟨m', e', q1, ⟨q2, q3, q4, q5⟩, q6⟩ := ih (i + 1) f m1 e1 (by omega) (by omega) (zGM_287 hG s2) s3 s4 hr1
    refine ⟨m', e', ?_, ⟨fun a ha => by rw [q2 a ha, s2 a ha], q3, q4, fun i hi => Nat.le_trans (s5 i hi) (q5 i hi)⟩, fun b h1 h2 h3 => ?_⟩
    · unfold fb_X10_depthOf_35
      rw [z_mr, show zR p 275 0 = some 276 from rfl]
      simp only [Option.bind_some]
      rw [show (0 : Int32) = nI 0 from rfl, z_v (by omega), hG.1]
      simp only [Option.bind_some]
      rw [if_neg (nI_ge (by omega) (by omega)), s1]
      exact q1
    · by_cases hb : b = i
      · subst hb
        have a2 := q5 b h2
        have a3 := q4 b h2
        have a4 : e1 b = D b := by
          by_cases h0 : 0 < D b
          · have hDb := hD b h2
            rw [hDb] at h0
            obtain ⟨k, k1, k2, k3⟩ := zmx_att 3 h0
            rcases (h.2.1 b h2).2.2 k k1 with hn | ⟨j, hj, hej⟩
            · exact absurd hn k2
            · rw [hej, nI_clamp (by omega), ← hDb] at k3
              exact s6 k j (by omega) k1 hj hej (hr j hj (by omega)) k3
          · have := s4 b h2
            omega
        omega
      · exact q6 b (by omega) h2 h3
theorem f_mdepth27 (h : zOK N V) {D : Nat → Nat} (hD : zDok N V D) (hD12 : ∀ i, i < N → D i < 12) {b : Nat} (hb : b < N) :
    ∀ (d r f : Nat) (m : Nat → Nat → Int32) (e : Nat → Nat), r + d = 12 → d < f → zGM m N V → (∀ i, i < N → m 287 i = nI (e i)) → (∀ i, i < N → e i ≤ D i) → (∀ b, b < N → D b ≤ r → e b = D b) →
    ∃ m', fb_X10_depthOf_27 f (some 275) (nI b) (nI r) (zC n m p) = some (nI (D b), zC n m' p) ∧ ∀ a, a ≠ 287 → m' a = m a := by
  have hN := h.1
  intro d
  induction d with
  | zero =>
    intro r f m e hr hf hG he hle hrd
    obtain ⟨f, rfl⟩ : ∃ k, f = k + 1 := ⟨f - 1, by omega⟩
    obtain rfl : r = 12 := by omega
    refine ⟨m, ?_, fun _ _ => rfl⟩
    have hDb := hD12 b hb
    unfold fb_X10_depthOf_27
    rw [if_pos (by decide), z_mr, show zR p 275 15 = some 287 from rfl]
    simp only [Option.bind_some]
    rw [z_d (by omega), he b hb, hrd b hb (by omega)]
    rfl
  | succ d ih =>
    intro r f m e hr hf hG he hle hrd
    obtain ⟨f, rfl⟩ : ∃ k, f = k + 1 := ⟨f - 1, by omega⟩
    obtain ⟨m1, e1, s1, ⟨s2, s3, s4, s5⟩, s6⟩ := f_mdepth35 (n := n) (p := p) (a := nI b) (r := r) (k27 := fb_X10_depthOf_27 f) h hD hD12 N 0 10000 m e (by omega) (by omega) hG he hle hrd
    obtain ⟨m', q1, q2⟩ := ih (r + 1) f m1 e1 (by omega) (by omega) (zGM_287 hG s2) s3 s4 (fun b hb hb2 => s6 b (by omega) hb hb2)
    refine ⟨m', ?_, fun a ha => by rw [q2 a ha, s2 a ha]⟩
    unfold fb_X10_depthOf_27
    rw [if_neg (show ¬ (12 : Int32) ≤ nI r from nI_ge (b := 12) (by omega) (by omega)), show (0 : Int32) = nI 0 from rfl, s1]
    exact q1
theorem f_mdepth2 (h : zOK N V) {D : Nat → Nat} (hD : zDok N V D) (hD12 : ∀ i, i < N → D i < 12) {b : Nat} (hb : b < N) :
    ∀ (d i f : Nat) (m : Nat → Nat → Int32), i + d = N → d < f → zGM m N V → (∀ j, j < i → m 287 j = 0) →
    ∃ m', fb_X10_depthOf_2 f (some 275) (nI b) (nI i) (zC n m p) = some (nI (D b), zC n m' p) ∧ ∀ a, a ≠ 287 → m' a = m a := by
  have hN := h.1
  intro d
  induction d with
  | zero =>
    intro i f m hi hf hG h0
    obtain ⟨f, rfl⟩ : ∃ k, f = k + 1 := ⟨f - 1, by omega⟩
    obtain rfl : i = N := by omega
    obtain ⟨m', q1, q2⟩ := f_mdepth27 (n := n) (p := p) h hD hD12 hb 12 0 10000 m (fun _ => 0) rfl (by omega) hG (fun j hj => h0 j hj) (fun _ _ => Nat.zero_le _) (fun b hb h0 => by omega)
    refine ⟨m', ?_, q2⟩
    unfold fb_X10_depthOf_2
    rw [z_mr, show zR p 275 0 = some 276 from rfl]
    simp only [Option.bind_some]
    rw [show (0 : Int32) = nI 0 from rfl, z_v (by omega), hG.1]
    simp only [Option.bind_some]
    rw [if_pos (nI_le (Nat.le_refl _) (by omega))]
    exact q1
  | succ d ih =>
    intro i f m hi hf hG h0
    obtain ⟨f, rfl⟩ : ∃ k, f = k + 1 := ⟨f - 1, by omega⟩
    have hf2 : ∀ a, a ≠ 287 → ax_u2 m 287 i 0 a = m a := fun a ha => zu2_row ha
    obtain ⟨m', q1, q2⟩ := ih (i + 1) f (ax_u2 m 287 i 0) (by omega) (by omega) (zGM_287 hG hf2) (fun j hj => by
      by_cases e : j = i
      · subst e
        exact ax_u2_self
      · rw [ax_u2_nk e]
        exact h0 j (by omega))
    refine ⟨m', ?_, fun a ha => by rw [q2 a ha, hf2 a ha]⟩
    unfold fb_X10_depthOf_2
    rw [z_mr, show zR p 275 0 = some 276 from rfl]
    simp only [Option.bind_some]
    rw [show ax_al (zC n m p) 9 (some 276) 0 = some (nI N) from by rw [show (0 : Int32) = nI 0 from rfl, z_v (by omega), hG.1]]
    simp only [Option.bind_some]
    rw [if_neg (nI_ge (by omega) (by omega)), z_mr, show zR p 275 15 = some 287 from rfl]
    simp only [Option.bind_some]
    rw [z_ds (by omega)]
    simp only [Option.bind_some]
    rw [show nI i + 1 = nI (i + 1) from nI_1 i]
    exact q1
theorem f_mdepth (hG : zGM m N V) (h : zOK N V) {D : Nat → Nat} (hD : zDok N V D) (hD12 : ∀ i, i < N → D i < 12) {b : Nat} (hb : b < N) : ∃ m', fn_X10_depthOf (some 275) (nI b) (zC n m p) = some (nI (D b), zC n m' p) ∧ ∀ a, a ≠ 287 → m' a = m a := by
  have hN := h.1
  obtain ⟨m', q1, q2⟩ := f_mdepth2 (n := n) (p := p) h hD hD12 hb N 0 10000 m (by omega) (by omega) hG (fun j hj => by omega)
  rw [nI_0] at q1
  refine ⟨m', ?_, q2⟩
  unfold fn_X10_depthOf
  exact q1
end MDEP
