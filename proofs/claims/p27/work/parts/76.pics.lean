/-! ===== what a picture is: apart from any cache ===== -/
def zwP (V : Nat → Nat → Int32) (P : Nat → Nat → Nat → Int32) (x f : Nat) : Nat → Nat → Int32 := fun i => if V x (3 + i) = -1005 then (fun _ => 0) else P (V x (3 + i)).toNatClampNeg f
noncomputable def zPicF (V : Nat → Nat → Int32) (f : Nat) : Nat → Nat → Nat → Int32
  | 0, _ => fun _ => 0
  | d + 1, x => zpc V x (nI f) (fun i => if V x (3 + i) = -1005 then (fun _ => 0) else zPicF V f d (V x (3 + i)).toNatClampNeg)
noncomputable def zPix (V : Nat → Nat → Int32) (x f : Nat) : Nat → Int32 := zPicF V f 13 x
section PICS
variable {N N' i x : Nat} {V V' : Nat → Nat → Int32} {f : Int32} {w w' : Nat → Nat → Int32}
theorem zpt_cg (h0 : w 0 = w' 0) (h1 : w 1 = w' 1) (h2 : w 2 = w' 2) : zpt V x f w = zpt V x f w' := by
  funext k
  unfold zpt
  rw [h0, h1, h2]
theorem zpc_in (h : zir V x f) : zpc V x f w = zpt V x f w := by
  funext k
  unfold zpc
  rw [if_pos h]
theorem zpc_out (h : ¬ zir V x f) : zpc V x f w = w 0 := by
  funext k
  unfold zpc
  rw [if_neg h]
theorem zpc_cg (h0 : w 0 = w' 0) (h12 : zir V x f → w 1 = w' 1 ∧ w 2 = w' 2) : zpc V x f w = zpc V x f w' := by
  by_cases h : zir V x f
  · rw [zpc_in h, zpc_in h, zpt_cg h0 (h12 h).1 (h12 h).2]
  · rw [zpc_out h, zpc_out h, h0]
/-- two nodes of like kind and parameters -/
theorem zpt_row (h0 : V' x 0 = V x 0) (hp : ∀ q, V' x (6 + q) = V x (6 + q)) : zpt V' x f w = zpt V x f w := by
  funext k
  unfold zpt
  have e0 : V' x 6 = V x 6 := hp 0
  have e1 : V' x 7 = V x 7 := hp 1
  have e2 : V' x 8 = V x 8 := hp 2
  have e3 : V' x 9 = V x 9 := hp 3
  rw [h0, e0, e1, e2, e3, hp (k / 32)]
theorem zPicF_st {rk : Nat → Nat} (h : zOK N V) (hrk : zrkOK N V rk) {g : Nat} : ∀ (d e x : Nat), x < N → rk x < d → rk x < e → zPicF V g d x = zPicF V g e x := by
  have hN := h.1
  intro d
  induction d with
  | zero => intro e x _ hr; omega
  | succ d ih =>
    intro e x hx hd he
    obtain ⟨e, rfl⟩ : ∃ k, e = k + 1 := ⟨e - 1, by omega⟩
    unfold zPicF
    have key : ∀ i, i < 3 → (if V x (3 + i) = -1005 then (fun _ => 0) else zPicF V g d (V x (3 + i)).toNatClampNeg) = (if V x (3 + i) = -1005 then (fun _ => 0) else zPicF V g e (V x (3 + i)).toNatClampNeg) := by
      intro i hi
      rcases (h.2.1 x hx).2.2 i hi with q | ⟨j, hj, q⟩
      · have q' : V x (3 + i) = -1005 := q
        rw [if_pos q', if_pos q']
      · have q' : V x (3 + i) = nI j := q
        rw [q', if_neg (nI_ne_none (by omega)), if_neg (nI_ne_none (by omega)), nI_clamp (by omega)]
        have := hrk.2 x j i hx hj hi q
        exact ih e j hj (by omega) (by omega)
    exact zpc_cg (key 0 (by omega)) (fun _ => ⟨key 1 (by omega), key 2 (by omega)⟩)
theorem zPic_eq (h : zOK N V) (hx : x < N) (g : Nat) : zPix V x g = zpc V x (nI g) (zwP V (zPix V) x g) := by
  obtain ⟨rk, hrk⟩ := zrk_ex h
  have hN := h.1
  have key : ∀ i, i < 3 → (if V x (3 + i) = -1005 then (fun _ => 0) else zPicF V g 12 (V x (3 + i)).toNatClampNeg) = zwP V (zPix V) x g i := by
    intro i hi
    unfold zwP zPix
    rcases (h.2.1 x hx).2.2 i hi with q | ⟨j, hj, q⟩
    · have q' : V x (3 + i) = -1005 := q
      rw [if_pos q', if_pos q']
    · have q' : V x (3 + i) = nI j := q
      rw [q', if_neg (nI_ne_none (by omega)), if_neg (nI_ne_none (by omega)), nI_clamp (by omega)]
      have := hrk.1 j hj
      exact zPicF_st h hrk 12 13 j hj (by omega) (by omega)
  show zpc V x (nI g) (fun i => if V x (3 + i) = -1005 then (fun _ => 0) else zPicF V g 12 (V x (3 + i)).toNatClampNeg) = _
  exact zpc_cg (w := fun i => if V x (3 + i) = -1005 then (fun _ => 0) else zPicF V g 12 (V x (3 + i)).toNatClampNeg) (w' := zwP V (zPix V) x g) (key 0 (by omega)) (fun _ => ⟨key 1 (by omega), key 2 (by omega)⟩)
/-- two graphs: pictures are alike on a set of nodes that is closed under the inputs -/
theorem zPic_cmp (h : zOK N V) (h' : zOK N' V') (Q : Nat → Prop) (g : Nat)
    (hstep : ∀ x, x < N → Q x → x < N' ∧ ∀ P P' : Nat → Nat → Nat → Int32, (∀ j k, j < N → k < 3 → V x (3 + k) = nI j → Q j → P j g = P' j g) → zpc V x (nI g) (zwP V P x g) = zpc V' x (nI g) (zwP V' P' x g)) :
    ∀ x, x < N → Q x → zPix V x g = zPix V' x g := by
  obtain ⟨rk, hrk⟩ := zrk_ex h
  have key : ∀ r x, rk x < r → x < N → Q x → zPix V x g = zPix V' x g := by
    intro r
    induction r with
    | zero => intro x hr; omega
    | succ r ih =>
      intro x hr hx hq
      obtain ⟨hx', hs⟩ := hstep x hx hq
      rw [zPic_eq h hx g, zPic_eq h' hx' g]
      exact hs (zPix V) (zPix V') (fun j k hj hk e hqj => ih j (by have := hrk.2 x j k hx hj hk e; omega) hj hqj)
  exact fun x hx hq => key (rk x + 1) x (by omega) hx hq
/-- the same row -/
theorem zw_row (h : zOK N V) (hx : x < N) {Q : Nat → Prop} {g : Nat} {P P' : Nat → Nat → Nat → Int32} (hrow : ∀ k, k < 3 → V' x (3 + k) = V x (3 + k)) (hcl : ∀ j k, j < N → k < 3 → V x (3 + k) = nI j → Q j) (hP : ∀ j k, j < N → k < 3 → V x (3 + k) = nI j → Q j → P j g = P' j g) {i : Nat} (hi : i < 3) : zwP V P x g i = zwP V' P' x g i := by
  have hN := h.1
  unfold zwP
  rw [hrow i hi]
  rcases (h.2.1 x hx).2.2 i hi with q | ⟨j, hj, q⟩
  · have q' : V x (3 + i) = -1005 := q
    rw [if_pos q', if_pos q']
  · have q' : V x (3 + i) = nI j := q
    rw [q', if_neg (nI_ne_none (by omega)), if_neg (nI_ne_none (by omega)), nI_clamp (by omega)]
    exact hP j i hj hi q' (hcl j i hj hi q')
theorem zpc_row {P P' : Nat → Nat → Nat → Int32} {g : Nat} (hrow : V' x = V x) (hw : ∀ i, i < 3 → zwP V P x g i = zwP V' P' x g i) : zpc V x (nI g) (zwP V P x g) = zpc V' x (nI g) (zwP V' P' x g) := by
  have e : zpc V' x (nI g) (zwP V' P' x g) = zpc V x (nI g) (zwP V' P' x g) := by
    by_cases hr : zir V x (nI g)
    · have hr' : zir V' x (nI g) := by unfold zir; rw [hrow]; exact hr
      rw [zpc_in hr, zpc_in hr']
      funext k
      unfold zpt
      rw [hrow]
    · have hr' : ¬ zir V' x (nI g) := by unfold zir; rw [hrow]; exact hr
      rw [zpc_out hr, zpc_out hr']
  rw [e]
  exact zpc_cg (hw 0 (by omega)) (fun _ => ⟨hw 1 (by omega), hw 2 (by omega)⟩)
end PICS
