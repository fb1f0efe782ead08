/-! ===== what is kept is what a picture is; counts ===== -/
/-- kept pictures are right; size, dropped and voided are misses; misses are uses -/
def zQV (P : Nat → Nat → Nat → Int32) (C : zSt) : Prop := (∀ y g, C.2.1 y g ≠ 0 → C.2.2 y g = P y g) ∧ C.1 2 + C.1 6 + C.1 7 ≤ C.1 5 ∧ C.1 5 ≤ C.1 1
section QV
variable {N f U0 x i : Nat} {C : zSt} {V : Nat → Nat → Int32} {P : Nat → Nat → Nat → Int32}
theorem zI5_T1 (h : zI5 N f U0 C) : zI5 N f U0 (zT1 C) := by
  obtain ⟨c1, c2, c3, -⟩ := zT1_c C
  obtain ⟨⟨h1, h2⟩, h3, h4, h5, h6, h7, h8⟩ := h
  exact ⟨⟨by rw [c1]; exact h1, by rw [c1]; exact h2⟩, h3, h4, by rw [c2]; exact h5, by rw [c2, c3]; exact h6, by rw [c3]; exact h7, by rw [c3]; exact h8⟩
theorem zQV_T1 (h : zQV P C) : zQV P (zT1 C) := by
  refine ⟨h.1, ?_⟩
  have e : ∀ k, k ≠ 8 → (zT1 C).1 k = C.1 k := fun k hk => va_up_ne _ _ hk
  rw [e 2 (by omega), e 6 (by omega), e 7 (by omega), e 5 (by omega), e 1 (by omega)]
  exact h.2
theorem zhit_cs : (zhit C x f).1 1 = C.1 1 + 1 ∧ (zhit C x f).1 2 = C.1 2 ∧ (zhit C x f).1 3 = C.1 3 ∧ (zhit C x f).1 5 = C.1 5 ∧ (zhit C x f).1 6 = C.1 6 ∧ (zhit C x f).1 7 = C.1 7 := by simp [zhit, zhtC, va_up]
theorem zQV_hit (h : zQV P C) (hk : C.2.1 x f ≠ 0) : zQV P (zhit C x f) := by
  obtain ⟨c1, c2, -, c5, c6, c7⟩ := zhit_cs (C := C) (x := x) (f := f)
  have h2 := h.2.1
  have h3 := h.2.2
  refine ⟨fun y g hy => ?_, by omega, by omega⟩
  show C.2.2 y g = P y g
  refine h.1 y g (fun q => ?_)
  have e : ax_u2 C.2.1 x f (C.1 1 + 1) y g ≠ 0 := hy
  by_cases hq : y = x ∧ g = f
  · obtain ⟨rfl, rfl⟩ := hq
    exact hk q
  · exact e ((if_neg hq).trans q)
theorem zroC_c (c : Nat → Nat) (h12 : 12 ≤ c 3) : zroC c 5 = c 5 ∧ zroC c 7 = c 7 ∧ zroC c 2 + zroC c 6 = c 2 + c 6 := by
  unfold zroC
  by_cases h : c 3 ≤ c 2
  · rw [if_pos h]
    unfold zdrC
    simp [va_up]
    omega
  · rw [if_neg h]
    exact ⟨rfl, rfl, rfl⟩
theorem zadm_cs (u : Nat → Int32) : (zadm C x f u).1 5 = zroC C.1 5 + 1 ∧ (zadm C x f u).1 6 = zroC C.1 6 ∧ (zadm C x f u).1 7 = zroC C.1 7 ∧ (zadm C x f u).1 2 = zroC C.1 2 + 1 ∧ (zadm C x f u).1 1 = zroC C.1 1 + 1 := by
  simp [zadm, zadC, va_up]
theorem zQV_adm {u : Nat → Int32} (h : zQV P C) (h12 : 12 ≤ C.1 3) (hu : u = P x f) : zQV P (zadm C x f u) := by
  obtain ⟨a5, a6, a7, a2, a1⟩ := zadm_cs (C := C) (x := x) (f := f) u
  obtain ⟨b5, b7, b26⟩ := zroC_c C.1 h12
  have b1 := (zroC_1 C.1).1
  obtain ⟨h1, h2, h3⟩ := h
  refine ⟨fun y g hy => ?_, by omega, by omega⟩
  show ax_u2 C.2.2 x f u y g = P y g
  by_cases hq : y = x ∧ g = f
  · obtain ⟨rfl, rfl⟩ := hq
    rw [ax_u2_self, hu]
  · have e1 : ax_u2 (zroK C.1 C.2.1) x f (C.1 1 + 1) y g = zroK C.1 C.2.1 y g := if_neg hq
    have e2 : ax_u2 C.2.2 x f u y g = C.2.2 y g := if_neg hq
    have hy' : ax_u2 (zroK C.1 C.2.1) x f (C.1 1 + 1) y g ≠ 0 := hy
    rw [e1] at hy'
    rw [e2]
    exact h1 y g (by rw [← zroK_ne hy']; exact hy')
theorem zQV_in3 {rk : Nat → Nat} {rec : Nat → zSt → zSt} (hOK : zOK N V) (hrk : zrkOK N V rk) (hx : x < N) (hrec : ∀ y C, y < N → rk y < rk x → zI5 N f U0 C → zR5 N f U0 rk y C (rec y C)) (hval : ∀ y C, y < N → rk y < rk x → zI5 N f U0 C → zQV P C → zQV P (rec y C)) (h : zI5 N f U0 C) (hQ : zQV P C) : ∀ t, t ≤ 3 → zQV P (zin3 V f rec x C t) := by
  intro t
  induction t with
  | zero => intro _; exact hQ
  | succ t ih =>
    intro ht
    have q := ih (by omega)
    obtain ⟨b, -, hz, -⟩ := zin3_ok hOK hrk hx hrec h t (by omega)
    rw [zin3_s]
    by_cases hm : t < zmany V x f
    · rw [if_pos hm]
      unfold zinp
      rcases (hOK.2.1 x hx).2.2 t (by omega) with e | ⟨j, hj, e⟩
      · have e' : V x (3 + t) = -1005 := e
        rw [if_pos e']
        exact zQV_T1 q
      · have e' : V x (3 + t) = nI j := e
        have hN := hOK.1
        rw [e', if_neg (nI_ne_none (by omega)), nI_clamp (by omega)]
        exact hval j _ hj (hrk.2 x j t hx hj (by omega) e) (zI5_T1 hz.1) (zQV_T1 q)
    · rw [if_neg hm]
      exact q
/-- asking keeps what is right right -/
theorem zQV_ask {rk : Nat → Nat} (hOK : zOK N V) (hrk : zrkOK N V rk) (hf : f < 100) : ∀ d x C, x < N → rk x < d → zI5 N f U0 C → zQV (zPix V) C → zQV (zPix V) (zask V f d x C) := by
  intro d
  induction d with
  | zero => intro x C _ h; omega
  | succ d ih =>
    intro x C hx hr h hQ
    have hN := hOK.1
    unfold zask
    by_cases hk : C.2.1 x f ≠ 0
    · rw [if_pos hk]
      exact zQV_hit hQ hk
    · rw [if_neg hk]
      have hrec : ∀ y C, y < N → rk y < rk x → zI5 N f U0 C → zR5 N f U0 rk y C (zask V f d y C) := fun y C hy hyx hC => zask_ok hOK hrk hf d y C hy (by omega) hC
      have hQ3 := zQV_in3 (P := zPix V) hOK hrk hx hrec (fun y C hy hyx hC hq => ih y C hy (by omega) hC hq) h hQ 3 (Nat.le_refl _)
      obtain ⟨b, hb, q1, q2⟩ := zin3_ok hOK hrk hx hrec h 3 (Nat.le_refl _)
      generalize hC3 : zin3 V f (zask V f d) x C 3 = C3 at q1 q2 hQ3
      refine zQV_adm hQ3 q1.1.2.2.2.2.2.1 ?_
      rw [zPic_eq hOK hx f]
      have key : ∀ i, i < 3 → (i = 0 ∨ zir V x (nI f)) → zw V C3 x f i = zwP V (zPix V) x f i := by
        intro i hi hir
        unfold zw zwP
        rcases (hOK.2.1 x hx).2.2 i hi with e | ⟨j, hj, e⟩
        · have e' : V x (3 + i) = -1005 := e
          rw [if_pos e', if_pos e']
        · have e' : V x (3 + i) = nI j := e
          have hm : i < zmany V x f := by
            by_cases hm : i < zmany V x f
            · exact hm
            · have := zmany_no hOK hx hi hm hir
              rw [e'] at this
              exact absurd this (nI_ne_none (by omega))
          rw [e', if_neg (nI_ne_none (by omega)), if_neg (nI_ne_none (by omega)), nI_clamp (by omega)]
          refine hQ3.1 j f ?_
          have := q2 i hi hm j hj e'
          omega
      exact zpc_cg (key 0 (by omega) (Or.inl rfl)) (fun hir => ⟨key 1 (by omega) (Or.inr hir), key 2 (by omega) (Or.inr hir)⟩)
/-- asking, between calls -/
theorem zQV_ask12 (hOK : zOK N V) (hx : x < N) (hf : f < 100) (h : zI5 N f U0 C) (hQ : zQV (zPix V) C) : zQV (zPix V) (zask V f 12 x C) := by
  obtain ⟨rk, hrk⟩ := zrk_ex hOK
  have := hrk.1 x hx
  have := hOK.1
  exact zQV_ask hOK hrk hf 12 x C hx (by omega) h hQ
/-- what is kept is asked for again: a hit -/
theorem zask_again (hk : C.2.1 x f ≠ 0) : zask V f 12 x C = zhit C x f := by
  show (if C.2.1 x f ≠ 0 then zhit C x f else _) = _
  rw [if_pos hk]
theorem zask_pic (hOK : zOK N V) (hx : x < N) (hf : f < 100) (h : zI5 N f U0 C) (hQ : zQV (zPix V) C) : (zask V f 12 x C).2.2 x f = zPix V x f := by
  obtain ⟨-, -, b3, -⟩ := zask_b hOK hx hf h
  exact (zQV_ask12 hOK hx hf h hQ).1 x f (by omega)
theorem zQV_cl (h : zQV P C) {P' : Nat → Nat → Nat → Int32} : zQV P' (zcl C) := by
  have e : ∀ k, k ≠ 2 → (zcl C).1 k = C.1 k := fun k hk => va_up_ne C.1 0 hk
  have e2 : (zcl C).1 2 = 0 := va_up_self C.1 2 0
  obtain ⟨h1, h2, h3⟩ := h
  refine ⟨fun y g hy => absurd rfl hy, ?_, ?_⟩
  · rw [e2, e 6 (by omega), e 7 (by omega), e 5 (by omega)]
    omega
  · rw [e 5 (by omega), e 1 (by omega)]
    exact h3
theorem zrm_cs : ∀ (d : Nat) (c : Nat → Nat), d ≤ c 2 → zrmC d c 5 = c 5 ∧ zrmC d c 7 = c 7 ∧ zrmC d c 2 + zrmC d c 6 = c 2 + c 6 ∧ zrmC d c 1 = c 1 := by
  intro d
  induction d with
  | zero => intro c _; exact ⟨rfl, rfl, rfl, rfl⟩
  | succ d ih =>
    intro c hd
    have e2 : zdrC c 2 = c 2 - 1 := (zdrC_1 c).2.1
    have e1 : zdrC c 1 = c 1 := (zdrC_1 c).1
    have e5 : zdrC c 5 = c 5 := by simp [zdrC, va_up]
    have e6 : zdrC c 6 = c 6 + 1 := by simp [zdrC, va_up]
    have e7 : zdrC c 7 = c 7 := by simp [zdrC, va_up]
    obtain ⟨a1, a2, a3, a4⟩ := ih (zdrC c) (by omega)
    refine ⟨a1.trans e5, a2.trans e7, ?_, a4.trans e1⟩
    show zrmC d (zdrC c) 2 + zrmC d (zdrC c) 6 = _
    omega
theorem zrmK_ne : ∀ (d : Nat) (K : Nat → Nat → Nat) (y g : Nat), zrmK d K y g ≠ 0 → K y g ≠ 0 := by
  intro d
  induction d with
  | zero => intro K y g h; exact h
  | succ d ih =>
    intro K y g h
    have h1 := ih (zdrK K) y g h
    rw [zdrK_ne h1] at h1
    exact h1
theorem zQV_rom {r : Nat} (h : zQV P C) : zQV P (zrom C r) := by
  have u2 : va_up C.1 3 r 2 = C.1 2 := va_up_ne _ _ (by omega)
  obtain ⟨a5, a7, a26, a1⟩ := zrm_cs (C.1 2 - r) (va_up C.1 3 r) (by omega)
  rw [va_up_ne (j := 5) _ _ (by omega)] at a5
  rw [va_up_ne (j := 7) _ _ (by omega)] at a7
  rw [u2, va_up_ne (j := 6) _ _ (by omega)] at a26
  rw [va_up_ne (j := 1) _ _ (by omega)] at a1
  obtain ⟨h1, h2, h3⟩ := h
  refine ⟨fun y g hy => h1 y g (zrmK_ne _ _ y g hy), ?_, ?_⟩
  · show zrmC (C.1 2 - r) (va_up C.1 3 r) 2 + zrmC (C.1 2 - r) (va_up C.1 3 r) 6 + zrmC (C.1 2 - r) (va_up C.1 3 r) 7 ≤ zrmC (C.1 2 - r) (va_up C.1 3 r) 5
    omega
  · show zrmC (C.1 2 - r) (va_up C.1 3 r) 5 ≤ zrmC (C.1 2 - r) (va_up C.1 3 r) 1
    omega
/-- pictures are void: what is kept must be what it would be now -/
theorem zQV_void {P' : Nat → Nat → Nat → Int32} {b : Nat → Nat → Bool} {k : Nat} (h : zQV P C) (hk : k ≤ C.1 2) (hb : ∀ y g, C.2.1 y g ≠ 0 → b y g = false → P y g = P' y g) : zQV P' (zvoid C b k) := by
  obtain ⟨h1, h2, h3⟩ := h
  refine ⟨fun y g hy => ?_, ?_, ?_⟩
  · have hy' : (if b y g = true then 0 else C.2.1 y g) ≠ 0 := hy
    by_cases hq : b y g = true
    · rw [if_pos hq] at hy'
      exact absurd rfl hy'
    · rw [if_neg hq] at hy'
      exact (h1 y g hy').trans (hb y g hy' (by simpa using hq))
  · simp only [zvoid, va_up]
    simp
    omega
  · simp only [zvoid, va_up]
    simp
    omega
end QV
