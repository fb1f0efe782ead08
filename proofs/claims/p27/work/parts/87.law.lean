/-! ===== the law: a step, branch by branch ===== -/

def lb0 (K : Option Nat → Option Nat → Option Nat → Option Nat → Int32 → Int32 → Int32 → ax_S → Option (Int32 × ax_S)) (a0 a1 a2 a3 : Option Nat) (a6 a8 q v : Int32) (s : ax_S) : Option (Int32 × ax_S) :=
          (if a6 = 0 then none else some ()).bind fun u64 =>
          ax_bd (((q >>> ((7 : Int32) &&& 31)) - (q >>> ((7 : Int32) &&& 31)) / a6 * a6)) fun v65 =>
          (if (3 : Int32) = 0 then none else some ()).bind fun u66 =>
          (ax_al s 9 a2 ((3 : Int32) * v)).bind fun x67 =>
          (fn_L_inputs x67 s).bind fun q68 =>
          if q68.1 ≤ ((q >>> ((11 : Int32) &&& 31)) - (q >>> ((11 : Int32) &&& 31)) / (3 : Int32) * (3 : Int32)) then
            fb_L_law_266 K a0 a1 a2 a3 a6 a8 q v v65 q68.2
          else
            (fn_L_depends a3 a6 v65 v q68.2).bind fun q70 =>
            if q70.1 = 0 then
              fb_L_law_267 K a0 a1 a2 a3 a6 a8 q v v65 (1 : Int32) q70.2
            else
              fb_L_law_266 K a0 a1 a2 a3 a6 a8 q v v65 q70.2

def lb3 (K : Option Nat → Option Nat → Option Nat → Option Nat → Int32 → Int32 → Int32 → ax_S → Option (Int32 × ax_S)) (a0 a1 a2 a3 : Option Nat) (a6 a8 q v : Int32) (s : ax_S) : Option (Int32 × ax_S) :=
          (if (4 : Int32) = 0 then none else some ()).bind fun u91 =>
          (if (100 : Int32) = 0 then none else some ()).bind fun u92 =>
          (ax_sh s 6 a1).bind fun w93 =>
          (fn_X9_set a1 v ((q >>> ((7 : Int32) &&& 31)) - (q >>> ((7 : Int32) &&& 31)) / (4 : Int32) * (4 : Int32)) ((q >>> ((9 : Int32) &&& 31)) - (q >>> ((9 : Int32) &&& 31)) / (100 : Int32) * (100 : Int32)) s).bind fun q94 =>
          (if (4 : Int32) = 0 then none else some ()).bind fun u95 =>
          (ax_al q94.2 9 a2 ((3 : Int32) * v)).bind fun x96 =>
          (fn_L_parameters x96 q94.2).bind fun q97 =>
          if q97.1 ≤ ((q >>> ((7 : Int32) &&& 31)) - (q >>> ((7 : Int32) &&& 31)) / (4 : Int32) * (4 : Int32)) then
            if q94.1 = (-1001 : Int32) then
              fb_L_law_427 K a0 a1 a2 a3 a6 a8 q (1 : Int32) q97.2
            else
              fb_L_law_427 K a0 a1 a2 a3 a6 a8 q (0 : Int32) q97.2
          else
            if 0 ≤ q94.1 then
              fb_L_law_406 K a0 a1 a2 a3 a6 a8 q q97.2
            else
              if q94.1 = (-1002 : Int32) then
                fb_L_law_406 K a0 a1 a2 a3 a6 a8 q q97.2
              else
                fb_L_law_427 K a0 a1 a2 a3 a6 a8 q (0 : Int32) q97.2

def lb5 (K : Option Nat → Option Nat → Option Nat → Option Nat → Int32 → Int32 → Int32 → ax_S → Option (Int32 × ax_S)) (a0 a1 a2 a3 : Option Nat) (a6 a8 q v : Int32) (s : ax_S) : Option (Int32 × ax_S) :=
          (if (9 : Int32) = 0 then none else some ()).bind fun u115 =>
          (if (9 : Int32) = 0 then none else some ()).bind fun u116 =>
          (if (20 : Int32) = 0 then none else some ()).bind fun u117 =>
          (ax_sh s 6 a1).bind fun w118 =>
          (fn_X9_setRange a1 v ((q >>> ((7 : Int32) &&& 31)) - (q >>> ((7 : Int32) &&& 31)) / (9 : Int32) * (9 : Int32)) (((q >>> ((7 : Int32) &&& 31)) - (q >>> ((7 : Int32) &&& 31)) / (9 : Int32) * (9 : Int32)) + ((q >>> ((11 : Int32) &&& 31)) - (q >>> ((11 : Int32) &&& 31)) / (20 : Int32) * (20 : Int32))) s).bind fun q119 =>
          if q119.1 < 0 then
            fb_L_law_475 K a0 a1 a2 a3 a6 a8 q (0 : Int32) q119.2
          else
            fb_L_law_475 K a0 a1 a2 a3 a6 a8 q (1 : Int32) q119.2

def lb6 (K : Option Nat → Option Nat → Option Nat → Option Nat → Int32 → Int32 → Int32 → ax_S → Option (Int32 × ax_S)) (a0 a1 a2 a3 : Option Nat) (a6 a8 q v : Int32) (s : ax_S) : Option (Int32 × ax_S) :=
          (if (37 : Int32) = 0 then none else some ()).bind fun u122 =>
          (ax_sh s 6 a1).bind fun w123 =>
          (fn_X9_setRoom a1 ((12 : Int32) + ((q >>> ((7 : Int32) &&& 31)) - (q >>> ((7 : Int32) &&& 31)) / (37 : Int32) * (37 : Int32))) s).bind fun q124 =>
          if q124.1 < (12 : Int32) then
            fb_L_law_515 K a0 a1 a2 a3 a6 a8 q q124.2
          else
            if (48 : Int32) < q124.1 then
              fb_L_law_515 K a0 a1 a2 a3 a6 a8 q q124.2
            else
              fb_L_law_516 K a0 a1 a2 a3 a6 a8 q (1 : Int32) q124.2

def lb7 (K : Option Nat → Option Nat → Option Nat → Option Nat → Int32 → Int32 → Int32 → ax_S → Option (Int32 × ax_S)) (a0 a1 a2 a3 : Option Nat) (a6 a8 q v : Int32) (s : ax_S) : Option (Int32 × ax_S) :=
        (if a6 = 0 then none else some ()).bind fun u127 =>
        (if (14 : Int32) = 0 then none else some ()).bind fun u128 =>
        (ax_sh s 6 a1).bind fun w129 =>
        (fn_X9_compare a1 v ((q >>> ((7 : Int32) &&& 31)) - (q >>> ((7 : Int32) &&& 31)) / a6 * a6) ((q >>> ((11 : Int32) &&& 31)) - (q >>> ((11 : Int32) &&& 31)) / (14 : Int32) * (14 : Int32)) s).bind fun q130 =>
        if q130.1 < 0 then
          fb_L_law_562 K a0 a1 a2 a3 a6 a8 q q130.2
        else
          if (256 : Int32) ≤ q130.1 then
            fb_L_law_562 K a0 a1 a2 a3 a6 a8 q q130.2
          else
            fb_L_law_563 K a0 a1 a2 a3 a6 a8 q (1 : Int32) q130.2

section STEP
variable {n N B i f t z : Nat} {m : Nat → Nat → Int32} {p : Nat → Nat} {V V1 : Nat → Nat → Int32} {C C' : zSt} {LT : Nat × (Nat → Nat)} {S S' : Nat → Option (Nat × (Nat → Nat → Int32))} {K : Option Nat → Option Nat → Option Nat → Option Nat → Int32 → Int32 → Int32 → ax_S → Option (Int32 × ax_S)}
/-- a step has been made -/
def zStp (n : Nat) (K : Option Nat → Option Nat → Option Nat → Option Nat → Int32 → Int32 → Int32 → ax_S → Option (Int32 × ax_S)) (N t B : Nat) (LT : Nat × (Nat → Nat)) (o : Option (Int32 × ax_S)) : Prop := ∃ m' p' V' C' S', o = K (some 6) (some 9) (some 275) (some 276) (nI N) 1 (nI (t + 1)) (zC n m' p') ∧ zLw m' p' (B + 8100) N V' C' LT S'
theorem zStp_565 (h : zLw m p (B + 100) N V C LT S) (hN : 1 ≤ N) (hN9 : N < 10) (ht : t < 22) (hz : z < 2 ^ 31) (hB : B + 8100 < 2 ^ 30) : zStp n K N t B LT (fb_L_law_565 K (some 6) (some 9) (some 275) (some 276) (nI N) 1 (nI t) (nI z) (zC n m p)) := by
  obtain ⟨m', p', C', S', e1, e2⟩ := l_565 (n := n) (K := K) h hN hN9 ht hz (by omega)
  exact ⟨m', p', V, C', S', e1, by rw [show B + 8100 = B + 100 + 8000 by omega]; exact e2⟩
theorem zLw_mono {B' : Nat} (h : zLw m p B N V C LT S) (hB : B ≤ B') : zLw m p B' N V C LT S := ⟨h.1, zAbs_mono h.2.1 hB, h.2.2⟩
theorem z_noy {y k : Nat} (h : k ≤ y) (hk : k < 100) (hy : y < 2 ^ 30) : ¬ ((0 : Int32) ≤ nI y ∧ nI y ≤ nI k - 1) := fun q => by
  obtain ⟨j, hj, e⟩ := z_inlt (N := k) (by omega) q.1 q.2
  have := nI_inj (by omega) (by omega) e
  omega
theorem l_b0 (h : zLw m p B N V C LT S) (hN : 1 ≤ N) (hN9 : N < 10) (ht : t < 22) (hz : z < 2 ^ 31) (hi : i < N) (hB : B + 8100 < 2 ^ 30) : zStp n K N t B LT (lb0 K (some 6) (some 9) (some 275) (some 276) (nI N) (nI t) (nI z) (nI i) (zC n m p)) := by
  obtain ⟨L, T⟩ := LT
  have hOK := h.2.1.1
  obtain ⟨k, hk, hv⟩ := z_kind hOK hi
  have hk3 := (zin_lt k hk).1
  have e7 := l_rem (z := z) (s := (7 : Int32) &&& 31) (d := N) hz s7 (by omega) (by omega)
  have e11 := l_rem (z := z) (s := (11 : Int32) &&& 31) (d := 3) hz s11 (by omega) (by omega)
  rw [show nI 3 = (3 : Int32) from rfl] at e11
  have hj : z / 2 ^ 7 % N < N := Nat.mod_lt _ (by omega)
  have hd3 : z / 2 ^ 11 % 3 < 3 := Nat.mod_lt _ (by omega)
  generalize z / 2 ^ 7 % N = j at e7 hj
  generalize z / 2 ^ 11 % 3 = d at e11 hd3
  have hmk : m 275 (3 * i) = nI k := (h.2.2.2.1 i hi).trans hv
  have h346 : ∀ m' p' V' C' S', zLw m' p' (B + 100) N V' C' (L, T) S' → zStp n K N t B (L, T) (fb_L_law_346 K (some 6) (some 9) (some 275) (some 276) (nI N) (nI t) (nI z) 1 (zC n m' p')) := fun m' p' V' C' S' h' => by
    unfold fb_L_law_346
    exact zStp_565 h' hN hN9 ht hz hB
  unfold lb0 ax_bd
  rw [if_neg (nI_ne0 (by omega) (by omega)), Option.bind_some]
  dsimp only
  rw [e7, if_neg (show ¬ (3 : Int32) = 0 by decide), Option.bind_some, z_t3, z_a275 (by omega), hmk, Option.bind_some, l_inputs hk, Option.bind_some]
  dsimp only
  rw [e11]
  by_cases hd : zin k ≤ d
  · rw [if_pos (nI_le hd (by omega))]
    unfold fb_L_law_266 fb_L_law_267
    rw [if_neg (show ¬ (3 : Int32) = 0 by decide), Option.bind_some, z_gi9, Option.bind_some, e11, k_connect_no2 h.1 h.2.1 hi hk hv (z_noy hd (by omega) (by omega)), Option.bind_some]
    dsimp only
    rw [if_pos rfl]
    unfold fb_L_law_307
    rw [if_pos rfl, if_pos rfl]
    unfold fb_L_law_341
    exact h346 _ _ _ _ _ (zLw_mono h (by omega))
  · rw [if_neg (nI_ge (by omega) (by omega))]
    have hcon := k_connect (n := n) h.1 h.2.1 hi hk hv (d := d) (j := j) (by omega) hj
    rcases l_depends (n := n) (m := m) (p := p) hOK h.2.2.2.2 hj hi with ⟨hdep, hl⟩ | ⟨hdep, hl⟩
    · rcases hcon with ⟨-, hc⟩ | ⟨hc, -⟩
      · rw [hl, Option.bind_some]
        dsimp only
        rw [if_neg (by decide)]
        unfold fb_L_law_266 fb_L_law_267
        rw [if_neg (show ¬ (3 : Int32) = 0 by decide), Option.bind_some, z_gi9, Option.bind_some, e11, hc, Option.bind_some]
        dsimp only
        rw [if_pos rfl]
        unfold fb_L_law_307
        rw [if_pos rfl, if_neg (by decide), if_pos rfl]
        unfold fb_L_law_341
        exact h346 _ _ _ _ _ (zLw_mono h (by omega))
      · exact absurd hdep hc
    · rcases hcon with ⟨hc, -⟩ | ⟨-, hg⟩
      · exact absurd hc hdep
      · have hx : nI j = -1005 ∨ ∃ j', j' < N ∧ nI j = nI j' ∧ ¬ zdep N V i j' := Or.inr ⟨j, hj, rfl, hdep⟩
        have hOK1 := zOK_link hOK hi (show d < 3 by omega) (fun k' hk' e => by
          have : k' = k := nI_inj (by omega) (by omega) (e.symm.trans hv)
          subst this
          omega) hx
        have hK : ∀ y g, C.2.1 y g ≠ 0 → y < N ∧ g < 100 := fun y g hy => ⟨(h.2.1.2.1.2.1 y g hy).1, (h.2.1.2.1.2.1 y g hy).2.1⟩
        obtain ⟨e, m1, p1, C1, he, a1, a2, a3, a4, a5, a6⟩ := zLw_gv h hg (fun kk hkk => zQV_link hOK hOK1 hi hK h.2.2.1 hkk)
        have hnew : zLw (ax_u2 m1 276 (3 * i + d) (nI j)) p1 (B + 100) N (zVset V i (3 + d) (nI j)) C1 (L, T) S := by
          refine ⟨zCls_fr a2 (fun a ha => zu2_row (by omega)), a3, a4, fun b hb => ?_, fun b c hb hc => ?_⟩
          · rw [zu2_row (by omega), a5, h.2.2.2.1 b hb]
            exact (ax_u2_nk (by omega)).symm
          · by_cases hq : b = i ∧ c = d
            · obtain ⟨rfl, rfl⟩ := hq
              rw [ax_u2_self]
              exact ax_u2_self.symm
            · rw [ax_u2_nk (by omega), a6, h.2.2.2.2 b c hb hc]
              exact (if_neg (by omega)).symm
        rw [hl, Option.bind_some]
        dsimp only
        rw [if_pos rfl]
        unfold fb_L_law_267
        rw [if_neg (show ¬ (3 : Int32) = 0 by decide), Option.bind_some, z_gi9, Option.bind_some, e11, a1, Option.bind_some]
        dsimp only
        rw [if_neg (by decide), Option.bind_some, z_t3, nI_add, z_s276 (by omega), Option.bind_some]
        unfold fb_L_law_307
        rw [if_neg (by decide), if_neg (nI_pos (by omega))]
        exact h346 _ _ _ _ _ hnew
theorem l_b3 (h : zLw m p B N V C LT S) (hN : 1 ≤ N) (hN9 : N < 10) (ht : t < 22) (hz : z < 2 ^ 31) (hi : i < N) (hB : B + 8100 < 2 ^ 30) : zStp n K N t B LT (lb3 K (some 6) (some 9) (some 275) (some 276) (nI N) (nI t) (nI z) (nI i) (zC n m p)) := by
  obtain ⟨L, T⟩ := LT
  have hOK := h.2.1.1
  obtain ⟨k, hk, hv⟩ := z_kind hOK hi
  have hk4 := (zin_lt k hk).2
  have e7 := l_rem (z := z) (s := (7 : Int32) &&& 31) (d := 4) hz s7 (by omega) (by omega)
  rw [show nI 4 = (4 : Int32) from rfl] at e7
  have hq4 : z / 2 ^ 7 % 4 < 4 := Nat.mod_lt _ (by omega)
  generalize z / 2 ^ 7 % 4 = q at e7 hq4
  have hmk : m 275 (3 * i) = nI k := (h.2.2.2.1 i hi).trans hv
  have h427 : ∀ m' p' V' C' S', zLw m' p' (B + 100) N V' C' (L, T) S' → zStp n K N t B (L, T) (fb_L_law_427 K (some 6) (some 9) (some 275) (some 276) (nI N) (nI t) (nI z) 1 (zC n m' p')) := fun m' p' V' C' S' h' => by
    unfold fb_L_law_427
    exact zStp_565 h' hN hN9 ht hz hB
  unfold lb3
  generalize (nI z >>> ((9 : Int32) &&& 31)) - (nI z >>> ((9 : Int32) &&& 31)) / (100 : Int32) * (100 : Int32) = v
  rw [if_neg (show ¬ (4 : Int32) = 0 by decide), Option.bind_some, if_neg (show ¬ (100 : Int32) = 0 by decide), Option.bind_some, z_gi9, Option.bind_some, e7]
  by_cases hq : zpn k ≤ q
  · rw [k_set_no2 h.1 h.2.1 hi hk hv (z_noy hq (by omega) (by omega)), Option.bind_some]
    dsimp only
    rw [Option.bind_some, z_t3, z_a275 (by omega), hmk, Option.bind_some, l_parameters hk, Option.bind_some]
    dsimp only
    rw [if_pos (nI_le hq (by omega)), if_pos rfl]
    exact h427 _ _ _ _ _ (zLw_mono h (by omega))
  · rcases k_set (n := n) (z := v) h.1 h.2.1 hi hk hv (q := q) (by omega) with hc | ⟨hlim, hg⟩
    · rw [hc, Option.bind_some]
      dsimp only
      rw [Option.bind_some, z_t3, z_a275 (by omega), hmk, Option.bind_some, l_parameters hk, Option.bind_some]
      dsimp only
      rw [if_neg (nI_ge (by omega) (by omega)), if_neg (by decide), if_pos rfl]
      unfold fb_L_law_406
      exact h427 _ _ _ _ _ (zLw_mono h (by omega))
    · have hOK1 : zOK N (zVset V i (6 + q) v) := zOK_set (i := i) (w := 6 + q) (x := v) hOK (by omega) (fun k' hk' e _ => by
        have : k' = k := nI_inj (by omega) (by omega) (e.symm.trans hv)
        subst this
        rw [show 6 + q - 6 = q by omega]
        exact hlim)
      have hK : ∀ y g, C.2.1 y g ≠ 0 → y < N ∧ g < 100 := fun y g hy => ⟨(h.2.1.2.1.2.1 y g hy).1, (h.2.1.2.1.2.1 y g hy).2.1⟩
      obtain ⟨e, m1, p1, C1, he, a1, a2, a3, a4, a5, a6⟩ := zLw_gv h hg (fun kk hkk => zQV_set hOK hOK1 hi hK h.2.2.1 hkk)
      have hnew : zLw m1 p1 (B + 100) N (zVset V i (6 + q) v) C1 (L, T) S := by
        refine ⟨a2, a3, a4, fun b hb => ?_, fun b c hb hc => ?_⟩
        · rw [a5, h.2.2.2.1 b hb]
          exact (ax_u2_nk (by omega)).symm
        · rw [a6, h.2.2.2.2 b c hb hc]
          exact (ax_u2_nk (by omega)).symm
      rw [a1, Option.bind_some]
      dsimp only
      rw [Option.bind_some, z_t3, z_a275 (by omega), a5, hmk, Option.bind_some, l_parameters hk, Option.bind_some]
      dsimp only
      rw [if_neg (nI_ge (by omega) (by omega)), if_pos (z_pos (by omega))]
      unfold fb_L_law_406
      exact h427 _ _ _ _ _ hnew
theorem l_b5 (h : zLw m p B N V C LT S) (hN : 1 ≤ N) (hN9 : N < 10) (ht : t < 22) (hz : z < 2 ^ 31) (hi : i < N) (hB : B + 8100 < 2 ^ 30) : zStp n K N t B LT (lb5 K (some 6) (some 9) (some 275) (some 276) (nI N) (nI t) (nI z) (nI i) (zC n m p)) := by
  obtain ⟨L, T⟩ := LT
  have hOK := h.2.1.1
  have e7 := l_rem (z := z) (s := (7 : Int32) &&& 31) (d := 9) hz s7 (by omega) (by omega)
  have e11 := l_rem (z := z) (s := (11 : Int32) &&& 31) (d := 20) hz s11 (by omega) (by omega)
  rw [show nI 9 = (9 : Int32) from rfl] at e7
  rw [show nI 20 = (20 : Int32) from rfl] at e11
  have h9 : z / 2 ^ 7 % 9 < 9 := Nat.mod_lt _ (by omega)
  have h20 : z / 2 ^ 11 % 20 < 20 := Nat.mod_lt _ (by omega)
  generalize z / 2 ^ 7 % 9 = a at e7 h9
  generalize z / 2 ^ 11 % 20 = l at e11 h20
  have hg := k_setRange (n := n) h.1 h.2.1 hi (f := a) (l := a + l) (by omega) (by omega)
  have hK : ∀ y g, C.2.1 y g ≠ 0 → y < N ∧ g < 100 := fun y g hy => ⟨(h.2.1.2.1.2.1 y g hy).1, (h.2.1.2.1.2.1 y g hy).2.1⟩
  obtain ⟨e, m1, p1, C1, he, a1, a2, a3, a4, a5, a6⟩ := zLw_gv h hg (fun kk hkk => zQV_rng hOK (by omega) (by omega) hi hK h.2.2.1 hkk)
  have hnew : zLw m1 p1 (B + 100) N (zVset (zVset V i 1 (nI a)) i 2 (nI (a + l))) C1 (L, T) S := by
    refine ⟨a2, a3, a4, fun b hb => ?_, fun b c hb hc => ?_⟩
    · rw [a5, h.2.2.2.1 b hb]
      exact ((ax_u2_nk (by omega)).trans (ax_u2_nk (by omega))).symm
    · rw [a6, h.2.2.2.2 b c hb hc]
      exact ((ax_u2_nk (by omega)).trans (ax_u2_nk (by omega))).symm
  unfold lb5
  rw [if_neg (show ¬ (9 : Int32) = 0 by decide), Option.bind_some, Option.bind_some, if_neg (show ¬ (20 : Int32) = 0 by decide), Option.bind_some, z_gi9, Option.bind_some, e7, e11, nI_add, a1, Option.bind_some]
  dsimp only
  rw [if_neg (nI_pos (by omega))]
  unfold fb_L_law_475
  exact zStp_565 hnew hN hN9 ht hz hB
theorem l_b6 (h : zLw m p B N V C LT S) (hN : 1 ≤ N) (hN9 : N < 10) (ht : t < 22) (hz : z < 2 ^ 31) (hi : i < N) (hB : B + 8100 < 2 ^ 30) : zStp n K N t B LT (lb6 K (some 6) (some 9) (some 275) (some 276) (nI N) (nI t) (nI z) (nI i) (zC n m p)) := by
  obtain ⟨L, T⟩ := LT
  have e7 := l_rem (z := z) (s := (7 : Int32) &&& 31) (d := 37) hz s7 (by omega) (by omega)
  rw [show nI 37 = (37 : Int32) from rfl] at e7
  have h37 : z / 2 ^ 7 % 37 < 37 := Nat.mod_lt _ (by omega)
  generalize z / 2 ^ 7 % 37 = a at e7 h37
  have hg := k_setRoom (n := n) h.1 h.2.1 (by omega) (r := 12 + a) (by omega) (by omega)
  obtain ⟨m1, p1, a1, hnew⟩ := zLw_go h hg (zQV_rom h.2.2.1)
  have c1 := h.2.1.2.1.2.2.2.2.2.1
  have c2 := h.2.1.2.1.2.2.2.2.2.2
  unfold lb6
  rw [if_neg (show ¬ (37 : Int32) = 0 by decide), Option.bind_some, z_gi9, Option.bind_some, e7, show (12 : Int32) + nI a = nI (12 + a) from nI_add 12 a, a1, Option.bind_some]
  dsimp only
  rw [if_neg (show ¬ nI (C.1 3) < (12 : Int32) from Int32.not_lt.mpr (nI_le (a := 12) c1 (by omega))), if_neg (show ¬ (48 : Int32) < nI (C.1 3) from Int32.not_lt.mpr (nI_le (b := 48) c2 (by omega)))]
  unfold fb_L_law_516
  exact zStp_565 hnew hN hN9 ht hz hB
theorem l_b7 (h : zLw m p B N V C LT S) (hN : 1 ≤ N) (hN9 : N < 10) (ht : t < 22) (hz : z < 2 ^ 31) (hi : i < N) (hB : B + 8100 < 2 ^ 30) : zStp n K N t B LT (lb7 K (some 6) (some 9) (some 275) (some 276) (nI N) (nI t) (nI z) (nI i) (zC n m p)) := by
  have e7 := l_rem (z := z) (s := (7 : Int32) &&& 31) (d := N) hz s7 (by omega) (by omega)
  have e11 := l_rem (z := z) (s := (11 : Int32) &&& 31) (d := 14) hz s11 (by omega) (by omega)
  rw [show nI 14 = (14 : Int32) from rfl] at e11
  have hj : z / 2 ^ 7 % N < N := Nat.mod_lt _ (by omega)
  have h14 : z / 2 ^ 11 % 14 < 14 := Nat.mod_lt _ (by omega)
  generalize z / 2 ^ 7 % N = j at e7 hj
  generalize z / 2 ^ 11 % 14 = f at e11 h14
  obtain ⟨m1, p1, a1, hnew⟩ := w_compare (n := n) h (by omega) hi hj (show f < 100 by omega)
  obtain ⟨e, he, ee⟩ := zgd_b 96 0 0 (by omega) (zPix_b h.2.1 h.2.2.1 hi (show f < 100 by omega)) (zPix_b h.2.1 h.2.2.1 hj (show f < 100 by omega)) (by omega)
  rw [nI_0] at ee
  rw [ee] at a1
  unfold lb7
  rw [if_neg (nI_ne0 (by omega) (by omega)), Option.bind_some, if_neg (show ¬ (14 : Int32) = 0 by decide), Option.bind_some, z_gi9, Option.bind_some, e7, e11, a1, Option.bind_some]
  dsimp only
  rw [if_neg (nI_pos (by omega)), if_neg (z_256 he)]
  unfold fb_L_law_563
  exact zStp_565 hnew hN hN9 ht hz hB
theorem l_139 (hn : n < 2 ^ 31) (hN : 1 ≤ N) (hN9 : N < 10) : ∀ (d t fu : Nat) (m : Nat → Nat → Int32) (p : Nat → Nat) (B : Nat) (V : Nat → Nat → Int32) (C : zSt) (S : Nat → Option (Nat × (Nat → Nat → Int32))), t + d = 22 → d < fu → zLw m p B N V C LT S → B + 8100 * d < 2 ^ 30 → ∃ m' p', fb_L_law_139 fu (some 6) (some 9) (some 275) (some 276) (nI N) 1 (nI t) (zC n m p) = some (1, zC n m' p') := by
  intro d
  induction d with
  | zero =>
    intro t fu m p B V C S ht hf h hB
    obtain ⟨fu, rfl⟩ : ∃ k, fu = k + 1 := ⟨fu - 1, by omega⟩
    obtain rfl : t = 22 := by omega
    obtain ⟨L, T⟩ := LT
    obtain ⟨m', p', e⟩ := l_637 (n := n) h.1 h.2.1
    refine ⟨m', p', ?_⟩
    unfold fb_L_law_139
    rw [if_pos (by decide)]
    exact e
  | succ d ih =>
    intro t fu m p B V C S ht hf h hB
    obtain ⟨fu, rfl⟩ : ∃ k, fu = k + 1 := ⟨fu - 1, by omega⟩
    have ht22 : t < 22 := by omega
    have hB2 : B + 8100 + 8100 * d < 2 ^ 30 := by rw [Nat.mul_succ] at hB; omega
    have hB1 : B + 8100 < 2 ^ 30 := Nat.lt_of_le_of_lt (Nat.le_add_right _ _) hB2
    clear hB
    obtain ⟨z, hz, hc⟩ := l_cell (n := n) (m := m) (p := p) (j := 11 + t) hn (by omega)
    have e3 := l_rem (z := z) (s := (3 : Int32) &&& 31) (d := N) hz s3 (by omega) (by omega)
    have hi : z / 2 ^ 3 % N < N := Nat.mod_lt _ (by omega)
    generalize z / 2 ^ 3 % N = i at e3 hi
    have e8 : nI z &&& (7 : Int32) = nI (z % 8) := pk_andN (n := z) (by omega) (m := 7) 3 (by decide)
    have h8 : z % 8 < 8 := Nat.mod_lt _ (by omega)
    generalize z % 8 = w at e8 h8
    have key : zStp n (fb_L_law_139 fu) N t B LT (fb_L_law_139 (fu + 1) (some 6) (some 9) (some 275) (some 276) (nI N) 1 (nI t) (zC n m p)) := by
      conv => arg 7; unfold fb_L_law_139
      unfold ax_bd
      rw [if_neg (show ¬ (22 : Int32) ≤ nI t from nI_ge (b := 22) (by omega) (by omega)), if_neg (by decide), show (11 : Int32) + nI t = nI (11 + t) from nI_add 11 t, hc, Option.bind_some]
      dsimp only
      rw [if_neg (nI_ne0 (by omega) (by omega)), Option.bind_some, e3, e8]
      have hw : w = 0 ∨ w = 1 ∨ w = 2 ∨ w = 3 ∨ w = 4 ∨ w = 5 ∨ w = 6 ∨ w = 7 := by omega
      rcases hw with rfl | rfl | rfl | rfl | rfl | rfl | rfl | rfl
      · rw [if_pos (show nI 0 = 0 by decide)]
        have hx := l_b0 (n := n) (K := fb_L_law_139 fu) h hN hN9 ht22 hz hi hB1
        unfold lb0 ax_bd at hx
        rw [if_neg (nI_ne0 (by omega) (by omega))] at hx
        exact hx
      · rw [if_neg (show ¬ nI 1 = 0 by decide), if_pos (show nI 1 = 1 by decide)]
        have hx := l_b0 (n := n) (K := fb_L_law_139 fu) h hN hN9 ht22 hz hi hB1
        unfold lb0 ax_bd at hx
        rw [if_neg (nI_ne0 (by omega) (by omega))] at hx
        exact hx
      · rw [if_neg (show ¬ nI 2 = 0 by decide), if_neg (show ¬ nI 2 = 1 by decide), if_pos (show nI 2 = 2 by decide)]
        have hx := l_b0 (n := n) (K := fb_L_law_139 fu) h hN hN9 ht22 hz hi hB1
        unfold lb0 ax_bd at hx
        rw [if_neg (nI_ne0 (by omega) (by omega))] at hx
        exact hx
      · rw [if_neg (show ¬ nI 3 = 0 by decide), if_neg (show ¬ nI 3 = 1 by decide), if_neg (show ¬ nI 3 = 2 by decide), if_pos (show nI 3 = 3 by decide)]
        exact l_b3 (n := n) (K := fb_L_law_139 fu) h hN hN9 ht22 hz hi hB1
      · rw [if_neg (show ¬ nI 4 = 0 by decide), if_neg (show ¬ nI 4 = 1 by decide), if_neg (show ¬ nI 4 = 2 by decide), if_neg (show ¬ nI 4 = 3 by decide), if_pos (show nI 4 = 4 by decide)]
        exact l_b3 (n := n) (K := fb_L_law_139 fu) h hN hN9 ht22 hz hi hB1
      · rw [if_neg (show ¬ nI 5 = 0 by decide), if_neg (show ¬ nI 5 = 1 by decide), if_neg (show ¬ nI 5 = 2 by decide), if_neg (show ¬ nI 5 = 3 by decide), if_neg (show ¬ nI 5 = 4 by decide), if_pos (show nI 5 = 5 by decide)]
        exact l_b5 (n := n) (K := fb_L_law_139 fu) h hN hN9 ht22 hz hi hB1
      · rw [if_neg (show ¬ nI 6 = 0 by decide), if_neg (show ¬ nI 6 = 1 by decide), if_neg (show ¬ nI 6 = 2 by decide), if_neg (show ¬ nI 6 = 3 by decide), if_neg (show ¬ nI 6 = 4 by decide), if_neg (show ¬ nI 6 = 5 by decide), if_pos (show nI 6 = 6 by decide)]
        exact l_b6 (n := n) (K := fb_L_law_139 fu) h hN hN9 ht22 hz hi hB1
      · rw [if_neg (show ¬ nI 7 = 0 by decide), if_neg (show ¬ nI 7 = 1 by decide), if_neg (show ¬ nI 7 = 2 by decide), if_neg (show ¬ nI 7 = 3 by decide), if_neg (show ¬ nI 7 = 4 by decide), if_neg (show ¬ nI 7 = 5 by decide), if_neg (show ¬ nI 7 = 6 by decide)]
        have hx := l_b7 (n := n) (K := fb_L_law_139 fu) h hN hN9 ht22 hz hi hB1
        unfold lb7 at hx
        rw [if_neg (nI_ne0 (by omega) (by omega))] at hx
        exact hx
    obtain ⟨m1, p1, V1, C1, S1, k1, k2⟩ := key
    obtain ⟨m', p', e⟩ := ih (t + 1) fu m1 p1 _ _ _ _ (by omega) (by omega) k2 hB2
    exact ⟨m', p', k1.trans e⟩
end STEP
