/-! ===== a change of a node voids enough ===== -/
section CH
variable {N i k d j q : Nat} {C : zSt} {V : Nat → Nat → Int32} {z : Int32}
theorem zvb_no {s a0 a1 b0 b1 : Int32} {y g : Nat} (h : zvb s a0 a1 b0 b1 y g = false) : ¬ zb s y ∨ ((a0 ≤ nI g ∧ nI g ≤ a1) ↔ (b0 ≤ nI g ∧ nI g ≤ b1)) := by
  unfold zvb at h
  by_cases h1 : (s >>> (nI y &&& 31)) &&& 1 = 1
  · right
    rw [decide_eq_true h1, Bool.true_and] at h
    by_cases h2 : a0 ≤ nI g ∧ nI g ≤ a1
    · by_cases h3 : b0 ≤ nI g ∧ nI g ≤ b1
      · exact ⟨fun _ => h3, fun _ => h2⟩
      · rw [decide_eq_true h2, decide_eq_false h3] at h
        cases h
    · by_cases h3 : b0 ≤ nI g ∧ nI g ≤ b1
      · rw [decide_eq_false h2, decide_eq_true h3] at h
        cases h
      · exact ⟨fun q => absurd q h2, fun q => absurd q h3⟩
  · left
    exact h1
theorem zvb_no1 {s a0 a1 : Int32} {y g : Nat} (h : zvb s a0 a1 1 0 y g = false) : ¬ zb s y ∨ ¬ (a0 ≤ nI g ∧ nI g ≤ a1) := (zvb_no h).imp id (fun q r => zv_10 g (q.mp r))
/-- nodes that don't depend on the changed one -/
theorem zPix_nodep {V' : Nat → Nat → Int32} (h : zOK N V) (h' : zOK N V') (hrow : ∀ x, x ≠ i → V' x = V x) {g y : Nat} (hy : y < N) (hnd : ¬ zdep N V i y) : zPix V y g = zPix V' y g := by
  refine zPic_cmp h h' (fun x => ¬ zdep N V i x) g (fun x hx hq => ⟨hx, fun P P' hP => ?_⟩) y hy hnd
  have hxi : x ≠ i := fun e => hq (by rw [e]; exact zdep_rf i)
  have hr := hrow x hxi
  refine zpc_row hr (fun c hc => zw_row (Q := fun x => ¬ zdep N V i x) h hx (fun k _ => by rw [hr]) (fun j k hj hk e hd => hq (zdep_step hj hk e hd)) hP hc)
theorem zPix_nodep' {V' : Nat → Nat → Int32} (h : zOK N V) (h' : zOK N V') (hrow : ∀ x, x ≠ i → V' x = V x) {g y : Nat} (hy : y < N) (hnd : ¬ zdep N V' i y) : zPix V y g = zPix V' y g := (zPix_nodep h' h (fun x hx => (hrow x hx).symm) hy hnd).symm
/-- the changed node is, in this frame, what its inputs make of it as before -/
theorem zPix_like {V' : Nat → Nat → Int32} (h : zOK N V) (h' : zOK N V') (hrow : ∀ x, x ≠ i → V' x = V x) {g y : Nat} (hy : y < N) (hi : i < N)
    (hc : (¬ zir V i (nI g) ∧ ¬ zir V' i (nI g) ∧ V' i 3 = V i 3) ∨ ((zir V i (nI g) ↔ zir V' i (nI g)) ∧ (∀ k, k < 3 → V' i (3 + k) = V i (3 + k)) ∧ V' i 0 = V i 0 ∧ ∀ q, V' i (6 + q) = V i (6 + q))) : zPix V y g = zPix V' y g := by
  refine zPic_cmp h h' (fun _ => True) g (fun x hx _ => ⟨hx, fun P P' hP => ?_⟩) y hy trivial
  by_cases hxi : x = i
  · subst hxi
    rcases hc with ⟨c1, c2, c3⟩ | ⟨c1, c2, c3, c4⟩
    · rw [zpc_out c1, zpc_out c2]
      unfold zwP
      show (if V x 3 = -1005 then _ else _) = (if V' x 3 = -1005 then _ else _)
      rw [c3]
      rcases (h.2.1 x hx).2.2 0 (by omega) with e | ⟨j, hj, e⟩
      · have e' : V x 3 = -1005 := e
        rw [if_pos e', if_pos e']
      · have e' : V x 3 = nI j := e
        have hN := h.1
        rw [e', if_neg (nI_ne_none (by omega)), if_neg (nI_ne_none (by omega)), nI_clamp (by omega)]
        exact hP j 0 hj (by omega) e' trivial
    · have hw : ∀ c, c < 3 → zwP V P x g c = zwP V' P' x g c := fun c hc => zw_row (Q := fun _ => True) h hx c2 (fun _ _ _ _ _ => trivial) hP hc
      have e1 : zpc V' x (nI g) (zwP V' P' x g) = zpc V x (nI g) (zwP V' P' x g) := by
        by_cases hr : zir V x (nI g)
        · rw [zpc_in hr, zpc_in (c1.mp hr), zpt_row c3 c4]
        · rw [zpc_out hr, zpc_out (fun q => hr (c1.mpr q))]
      rw [e1]
      exact zpc_cg (hw 0 (by omega)) (fun _ => ⟨hw 1 (by omega), hw 2 (by omega)⟩)
  · have hr := hrow x hxi
    exact zpc_row hr (fun c hc => zw_row (Q := fun _ => True) h hx (fun k _ => by rw [hr]) (fun _ _ _ _ _ => trivial) hP hc)
theorem zVset_row {V : Nat → Nat → Int32} {w : Nat} {z : Int32} : ∀ x, x ≠ i → zVset V i w z x = V x := fun x hx => by funext b; exact ax_u2_ne hx b
theorem zQV_set {kk : Nat} (h : zOK N V) (h1 : zOK N (zVset V i (6 + q) z)) (hi : i < N) (hK : ∀ y g, C.2.1 y g ≠ 0 → y < N ∧ g < 100) (hQ : zQV (zPix V) C) (hk : kk ≤ C.1 2) : zQV (zPix (zVset V i (6 + q) z)) (zvoid C (zvb (zfd N (zVset V i (6 + q) z) i N) (V i 1) (V i 2) 1 0) kk) := by
  have hN := h.1
  refine zQV_void hQ hk (fun y g hy hb => ?_)
  have hyN := (hK y g hy).1
  rcases zvb_no1 hb with h2 | h2
  · exact zPix_nodep' h h1 zVset_row hyN (fun hd => h2 (((zfd_dep h1 hi).2 y (by omega)).mpr ⟨hyN, hd⟩))
  · refine zPix_like h h1 zVset_row hyN hi (Or.inl ⟨h2, ?_, ax_u2_nk (by omega)⟩)
    unfold zir
    rw [show zVset V i (6 + q) z i 1 = V i 1 from ax_u2_nk (by omega), show zVset V i (6 + q) z i 2 = V i 2 from ax_u2_nk (by omega)]
    exact h2
theorem zQV_rng {kk f l : Nat} (h : zOK N V) (hfl : f ≤ l) (hl : l ≤ 99) (hi : i < N) (hK : ∀ y g, C.2.1 y g ≠ 0 → y < N ∧ g < 100) (hQ : zQV (zPix V) C) (hk : kk ≤ C.1 2) : zQV (zPix (zVset (zVset V i 1 (nI f)) i 2 (nI l))) (zvoid C (zvb (zfd N (zVset (zVset V i 1 (nI f)) i 2 (nI l)) i N) (V i 1) (V i 2) (nI f) (nI l)) kk) := by
  have hN := h.1
  have h1 := zOK_rng (i := i) h hfl hl
  have hv : ∀ a b, b ≠ 1 → b ≠ 2 → zVset (zVset V i 1 (nI f)) i 2 (nI l) a b = V a b := fun a b p q => (ax_u2_nk q).trans (ax_u2_nk p)
  have hv1 : zVset (zVset V i 1 (nI f)) i 2 (nI l) i 1 = nI f := (ax_u2_nk (by omega)).trans ax_u2_self
  have hv2 : zVset (zVset V i 1 (nI f)) i 2 (nI l) i 2 = nI l := ax_u2_self
  have hrow : ∀ x, x ≠ i → zVset (zVset V i 1 (nI f)) i 2 (nI l) x = V x := fun x hx => (zVset_row x hx).trans (zVset_row x hx)
  generalize hV1 : zVset (zVset V i 1 (nI f)) i 2 (nI l) = V1 at h1 hv hv1 hv2 hrow ⊢
  refine zQV_void hQ hk (fun y g hy hb => ?_)
  have hyN := (hK y g hy).1
  rcases zvb_no hb with h2 | h2
  · exact zPix_nodep' h h1 hrow hyN (fun hd => h2 (((zfd_dep h1 hi).2 y (by omega)).mpr ⟨hyN, hd⟩))
  · refine zPix_like h h1 hrow hyN hi (Or.inr ⟨?_, fun k _ => hv _ _ (by omega) (by omega), hv _ _ (by omega) (by omega), fun q => hv _ _ (by omega) (by omega)⟩)
    unfold zir
    rw [hv1, hv2]
    exact h2
theorem zQV_link {kk : Nat} (h : zOK N V) (h1 : zOK N (zVset V i (3 + d) z)) (hi : i < N) (hK : ∀ y g, C.2.1 y g ≠ 0 → y < N ∧ g < 100) (hQ : zQV (zPix V) C) (hk : kk ≤ C.1 2) : zQV (zPix (zVset V i (3 + d) z)) (zvoid C (zbc9 N V i d) kk) := by
  have hN := h.1
  refine zQV_void hQ hk (fun y g hy hb => ?_)
  have hyN := (hK y g hy).1
  have hg := (hK y g hy).2
  rcases zvb_no1 hb with h2 | h2
  · exact zPix_nodep h h1 zVset_row hyN (fun hd => h2 (((zfd_dep h hi).2 y (by omega)).mpr ⟨hyN, hd⟩))
  · unfold zr0 zr1 at h2
    by_cases hd : d = 0
    · subst hd
      rw [if_pos rfl, if_pos rfl] at h2
      exact absurd ⟨z_pos (by omega), nI_le (b := 99) (by omega) (by omega)⟩ h2
    · rw [if_neg hd, if_neg hd] at h2
      refine zPix_like h h1 zVset_row hyN hi (Or.inl ⟨h2, ?_, ax_u2_nk (by omega)⟩)
      unfold zir
      rw [show zVset V i (3 + d) z i 1 = V i 1 from ax_u2_nk (by omega), show zVset V i (3 + d) z i 2 = V i 2 from ax_u2_nk (by omega)]
      exact h2
theorem zQV_add (h : zOK N V) (hN : N < 12) (hk : k < 7) (hK : ∀ y g, C.2.1 y g ≠ 0 → y < N ∧ g < 100) (hQ : zQV (zPix V) C) : zQV (zPix (zVadd N V k)) C := by
  have h1 := zOK_add h hN hk
  refine ⟨fun y g hy => ?_, hQ.2⟩
  rw [hQ.1 y g hy]
  refine zPic_cmp h h1 (fun _ => True) g (fun x hx _ => ⟨by omega, fun P P' hP => ?_⟩) y (hK y g hy).1 trivial
  have hr : zVadd N V k x = V x := by
    funext w
    exact if_neg (by omega)
  exact zpc_row hr (fun c hc => zw_row (Q := fun _ => True) h hx (fun k _ => by rw [hr]) (fun _ _ _ _ _ => trivial) hP hc)
end CH
