/-! ===== arrays, new cells ===== -/
section AXA
variable {M : ax_M} {d bc bs pc : Nat} {L : List (Option ax_V)} {st : List ax_V} {σ σ1 : ax_S} {z : Option ax_V × ax_S}
theorem ax_iald {r : Option Nat} {i x : Int32} (hd : decode M.2.1 pc = .ok (.iaload, 1)) (h : ax_al σ 9 r i = some x) (kk : AW M d bc bs (pc + 1) L (av_i x :: st) σ z) : AW M d bc bs pc L (av_i i :: av_r r :: st) σ z := by
  intro X p l e R s m args below meth c H locs cells slots Q ls C hcs hs hH hS hL hE
  obtain ⟨hx, hb, hml, hown, hts, hret, hlk, hin, hdf, hdl, hok, hK, hG⟩ := id C
  obtain ⟨⟨a, j⟩, h1, h2⟩ := Option.map_eq_some_iff.mp h
  subst h2
  obtain ⟨n, rfl, hsh, hix, hj⟩ := ax_ix_of h1
  simp only at hsh hj ⊢
  subst hj
  obtain ⟨cell, g1, g2, g3, g4, g5, -⟩ := ax_at_arr hK (hH.2.2 _ _ n hsh) (by omega) (by omega)
  have hlt : i.toNatClampNeg < n := Nat.not_le.mp fun q => hix (Or.inr q)
  exact W.iald hx hb g1 g2 g3 (fun q => hix (q.imp id (fun z => Nat.le_trans g4.1 z))) (g5 _ hlt) rfl rfl hd (kk X p l e R s m args below meth c H locs cells slots Q ls C hcs hs hH hS hL hE)
theorem ax_bald {r : Option Nat} {i x : Int32} (hd : decode M.2.1 pc = .ok (.baload, 1)) (h : ax_al σ 8 r i = some x) (kk : AW M d bc bs (pc + 1) L (av_i x :: st) σ z) : AW M d bc bs pc L (av_i i :: av_r r :: st) σ z := by
  intro X p l e R s m args below meth c H locs cells slots Q ls C hcs hs hH hS hL hE
  obtain ⟨hx, hb, hml, hown, hts, hret, hlk, hin, hdf, hdl, hok, hK, hG⟩ := id C
  obtain ⟨⟨a, j⟩, h1, h2⟩ := Option.map_eq_some_iff.mp h
  subst h2
  obtain ⟨n, rfl, hsh, hix, hj⟩ := ax_ix_of h1
  simp only at hsh hj ⊢
  subst hj
  obtain ⟨cell, g1, g2, g3, g4, g5, -⟩ := ax_at_arr hK (hH.2.2 _ _ n hsh) (by omega) (by omega)
  have hlt : i.toNatClampNeg < n := Nat.not_le.mp fun q => hix (Or.inr q)
  exact W.bald hx hb g1 g2 g3 (fun q => hix (q.imp id (fun z => Nat.le_trans g4.1 z))) (g5 _ hlt) rfl rfl hd (kk X p l e R s m args below meth c H locs cells slots Q ls C hcs hs hH hS hL hE)
theorem ax_zald {r : Option Nat} {i x : Int32} (hd : decode M.2.1 pc = .ok (.baload, 1)) (h : ax_al σ 10 r i = some x) (kk : AW M d bc bs (pc + 1) L (av_i x :: st) σ z) : AW M d bc bs pc L (av_i i :: av_r r :: st) σ z := by
  intro X p l e R s m args below meth c H locs cells slots Q ls C hcs hs hH hS hL hE
  obtain ⟨hx, hb, hml, hown, hts, hret, hlk, hin, hdf, hdl, hok, hK, hG⟩ := id C
  obtain ⟨⟨a, j⟩, h1, h2⟩ := Option.map_eq_some_iff.mp h
  subst h2
  obtain ⟨n, rfl, hsh, hix, hj⟩ := ax_ix_of h1
  simp only at hsh hj ⊢
  subst hj
  obtain ⟨cell, g1, g2, g3, g4, g5, -⟩ := ax_at_arr hK (hH.2.2 _ _ n hsh) (by omega) (by omega)
  have hlt : i.toNatClampNeg < n := Nat.not_le.mp fun q => hix (Or.inr q)
  exact W.zald hx hb g1 g2 g3 (fun q => hix (q.imp id (fun z => Nat.le_trans g4.1 z))) (g5 _ hlt) rfl rfl hd (kk X p l e R s m args below meth c H locs cells slots Q ls C hcs hs hH hS hL hE)
theorem ax_aald {t : Nat} {r x : Option Nat} {i : Int32} (ht : 11 ≤ t ∧ t < 14) (hd : decode M.2.1 pc = .ok (.aaload, 1)) (h : ax_ar σ t r i = some x) (kk : AW M d bc bs (pc + 1) L (av_r x :: st) σ z) : AW M d bc bs pc L (av_i i :: av_r r :: st) σ z := by
  intro X p l e R s m args below meth c H locs cells slots Q ls C hcs hs hH hS hL hE
  obtain ⟨hx, hb, hml, hown, hts, hret, hlk, hin, hdf, hdl, hok, hK, hG⟩ := id C
  obtain ⟨⟨a, j⟩, h1, h2⟩ := Option.map_eq_some_iff.mp h
  subst h2
  obtain ⟨n, rfl, hsh, hix, hj⟩ := ax_ix_of h1
  simp only at hsh hj ⊢
  subst hj
  obtain ⟨cell, g1, g2, g3, g4, g5, -⟩ := ax_at_arr hK (hH.2.2 _ _ n hsh) (by omega) (by omega)
  have hlt : i.toNatClampNeg < n := Nat.not_le.mp fun q => hix (Or.inr q)
  have hI : ax_isI t i.toNatClampNeg = false ∧ (ax_ty t 0).isReference = true := by
    have : t = 11 ∨ t = 12 ∨ t = 13 := by omega
    rcases this with rfl | rfl | rfl <;> exact ⟨rfl, rfl⟩
  have g6 := g5 _ hlt
  simp only [ax_sv, hI.1] at g6
  exact W.aald hx hb g1 g2 hI.2 g3 (fun q => hix (q.imp id (fun z => Nat.le_trans g4.1 z))) g6 rfl rfl hd (kk X p l e R s m args below meth c H locs cells slots Q ls C hcs hs hH hS hL hE)
/-- the array's cell behind a write -/
theorem ax_at_ast {X : ax_X} {σ σ' : ax_S} {H' : Heap} {a t n j : Nat} {v : ax_V} (h8 : 9 ≤ a) (ht : 8 ≤ t) (h14 : t < 14) (e1 : H'[ax_ρ X a]? = some ((arrV (X.2.1 t) n (fun j => ax_cv (ax_ρ X) (ax_sv σ t a j))).setSlot j (ax_cv (ax_ρ X) v))) (hv : ∀ i, ax_sv σ' t a i = if i = j then v else ax_sv σ t a i) : ax_at X σ' H' a t n := by
  unfold ax_at
  rw [if_neg (by omega), if_neg (by omega), if_neg (by omega)]
  refine ⟨h14, e1.trans ?_⟩
  rw [arrV_store]
  congr 2
  funext i
  rw [hv i]
  unfold updV
  split <;> rfl
theorem ax_as_of {t : Nat} {r : Option Nat} {i x : Int32} (h : ax_as σ t r i x = some σ1) : ∃ a n, r = some a ∧ 9 ≤ a ∧ σ.1[a]? = some (t, n) ∧ ¬ (i < 0 ∨ n ≤ i.toNatClampNeg) ∧ σ1 = (σ.1, ax_u2 σ.2.1 a i.toNatClampNeg x, σ.2.2) := by
  obtain ⟨⟨a, j⟩, h1, h2⟩ := Option.bind_eq_some_iff.mp h
  obtain ⟨n, g1, g2, g3, g4⟩ := ax_ix_of h1
  simp only at g1 g2 g4 h2
  split at h2
  · cases h2
  · rename_i hn
    subst g4
    cases h2
    exact ⟨a, n, g1, by omega, g2, g3, rfl⟩
theorem ax_iast {r : Option Nat} {i x : Int32} (hd : decode M.2.1 pc = .ok (.iastore, 1)) (h : ax_as σ 9 r i x = some σ1) (kk : AW M d bc bs (pc + 1) L st σ1 z) : AW M d bc bs pc L (av_i x :: av_i i :: av_r r :: st) σ z := by
  intro X p l e R s m args below meth c H locs cells slots Q ls C hcs hs hH hS hL hE
  obtain ⟨hx, hb, hml, hown, hts, hret, hlk, hin, hdf, hdl, hok, hK, hG⟩ := id C
  obtain ⟨a, n, rfl, h8, hsh, hix, rfl⟩ := ax_as_of h
  obtain ⟨cell, g1, g2, g3, g4, -, g6⟩ := ax_at_arr hK (hH.2.2 a _ n hsh) (by omega) (by omega)
  refine W.iast hx hb g1 g2 g3 (fun q => hix (q.imp id (fun z => Nat.le_trans g4.1 z))) rfl rfl hd fun H' e1 e2 e3 => ?_
  refine kk X p l e R s m args below meth c H' _ cells slots Q ls C hcs hs (hH.upd hok h8 rfl e2 e3 (fun b hb k' => ax_u2_ne hb k') (fun b hb k' => rfl) (fun t' n' hsh' => ?_)) (ax_S_put hok hS h8 e2 e3) hL hE
  cases hsh.symm.trans hsh'
  rw [g6 h8] at e1
  refine ax_at_ast (v := av_i x) h8 (by omega) (by omega) e1 (fun j => ?_)
  have hI : ∀ k, ax_isI 9 k = true := fun k => rfl
  by_cases hjk : j = i.toNatClampNeg
  · subst hjk
    simp [ax_sv, hI, ax_u2_self]
  · rw [if_neg hjk]
    simp only [ax_sv, ax_u2_nk hjk]
theorem ax_bast {r : Option Nat} {i x : Int32} (hd : decode M.2.1 pc = .ok (.bastore, 1)) (h : ax_as σ 8 r i x.toInt8.toInt32 = some σ1) (kk : AW M d bc bs (pc + 1) L st σ1 z) : AW M d bc bs pc L (av_i x :: av_i i :: av_r r :: st) σ z := by
  intro X p l e R s m args below meth c H locs cells slots Q ls C hcs hs hH hS hL hE
  obtain ⟨hx, hb, hml, hown, hts, hret, hlk, hin, hdf, hdl, hok, hK, hG⟩ := id C
  obtain ⟨a, n, rfl, h8, hsh, hix, rfl⟩ := ax_as_of h
  obtain ⟨cell, g1, g2, g3, g4, -, g6⟩ := ax_at_arr hK (hH.2.2 a _ n hsh) (by omega) (by omega)
  refine W.bast hx hb g1 g2 g3 (fun q => hix (q.imp id (fun z => Nat.le_trans g4.1 z))) rfl rfl hd fun H' e1 e2 e3 => ?_
  refine kk X p l e R s m args below meth c H' _ cells slots Q ls C hcs hs (hH.upd hok h8 rfl e2 e3 (fun b hb k' => ax_u2_ne hb k') (fun b hb k' => rfl) (fun t' n' hsh' => ?_)) (ax_S_put hok hS h8 e2 e3) hL hE
  cases hsh.symm.trans hsh'
  rw [g6 h8] at e1
  refine ax_at_ast (v := av_i x.toInt8.toInt32) h8 (by omega) (by omega) e1 (fun j => ?_)
  have hI : ∀ k, ax_isI 8 k = true := fun k => rfl
  by_cases hjk : j = i.toNatClampNeg
  · subst hjk
    simp [ax_sv, hI, ax_u2_self]
  · rw [if_neg hjk]
    simp only [ax_sv, ax_u2_nk hjk]
theorem ax_zast {r : Option Nat} {i x : Int32} (hd : decode M.2.1 pc = .ok (.bastore, 1)) (h1 : narrow .boolean (.int x) = .int x) (h : ax_as σ 10 r i x = some σ1) (kk : AW M d bc bs (pc + 1) L st σ1 z) : AW M d bc bs pc L (av_i x :: av_i i :: av_r r :: st) σ z := by
  intro X p l e R s m args below meth c H locs cells slots Q ls C hcs hs hH hS hL hE
  obtain ⟨hx, hb, hml, hown, hts, hret, hlk, hin, hdf, hdl, hok, hK, hG⟩ := id C
  obtain ⟨a, n, rfl, h8, hsh, hix, rfl⟩ := ax_as_of h
  obtain ⟨cell, g1, g2, g3, g4, -, g6⟩ := ax_at_arr hK (hH.2.2 a _ n hsh) (by omega) (by omega)
  refine W.zast hx hb g1 g2 g3 (fun q => hix (q.imp id (fun z => Nat.le_trans g4.1 z))) rfl rfl hd fun H' e1 e2 e3 => ?_
  refine kk X p l e R s m args below meth c H' _ cells slots Q ls C hcs hs (hH.upd hok h8 rfl e2 e3 (fun b hb k' => ax_u2_ne hb k') (fun b hb k' => rfl) (fun t' n' hsh' => ?_)) (ax_S_put hok hS h8 e2 e3) hL hE
  cases hsh.symm.trans hsh'
  rw [g6 h8, h1] at e1
  refine ax_at_ast (v := av_i x) h8 (by omega) (by omega) e1 (fun j => ?_)
  have hI : ∀ k, ax_isI 10 k = true := fun k => rfl
  by_cases hjk : j = i.toNatClampNeg
  · subst hjk
    simp [ax_sv, hI, ax_u2_self]
  · rw [if_neg hjk]
    simp only [ax_sv, ax_u2_nk hjk]
theorem ax_aast {t : Nat} {r v : Option Nat} {i : Int32} (ht : 11 ≤ t ∧ t < 14) (hq : (vwCl[t - 10]?).map (fun q => FieldType.object q.1) = some (ax_ty t 0)) (hd : decode M.2.1 pc = .ok (.aastore, 1)) (h : ax_aw σ t r i v = some σ1) (kk : AW M d bc bs (pc + 1) L st σ1 z) : AW M d bc bs pc L (av_r v :: av_i i :: av_r r :: st) σ z := by
  intro X p l e R s m args below meth c H locs cells slots Q ls C hcs hs hH hS hL hE
  obtain ⟨hx, hb, hml, hown, hts, hret, hlk, hin, hdf, hdl, hok, hK, hG⟩ := id C
  obtain ⟨⟨a, j⟩, h1, h2⟩ := Option.bind_eq_some_iff.mp h
  obtain ⟨n, rfl, hsh, hix, hj⟩ := ax_ix_of h1
  simp only at hsh hj h2
  subst hj
  split at h2
  · cases h2
  rename_i hn8
  have h8 : 9 ≤ a := by omega
  obtain ⟨⟨b, nb⟩, h3, h4⟩ := Option.bind_eq_some_iff.mp h2
  cases h4
  obtain ⟨rfl, hshb⟩ := ax_sh_of h3
  obtain ⟨cell, g1, g2, g3, g4, g5, g6⟩ := ax_at_arr hK (hH.2.2 a _ n hsh) (by omega) (by omega)
  have g6 := g6 h8
  subst g6
  have hlt : i.toNatClampNeg < n := Nat.not_le.mp fun q => hix (Or.inr q)
  have h0 : ¬ i < 0 := fun q => hix (Or.inl q)
  obtain ⟨hb8, q', hc', -, cellV, f1, f2, f3, -⟩ := ax_at_obj (hH.2.2 b _ nb hshb) (by omega)
  have hcls := (hK.1.1 _ _ hc').2
  have hRA := (hK.2.1 t (by omega) (by omega)).2
  rw [hc'] at hq
  have hq := Option.some.inj hq
  simp only at hq
  rw [← hq] at hRA
  obtain ⟨kA, comp, k1, k2, k3, -⟩ := hRA
  have hcomp : comp = X.1.1 (t - 10) := Option.some.inj (k3.symm.trans hcls.1)
  subst hcomp
  obtain ⟨kC, hkC, -⟩ := hcls.2
  refine W.aast hx hb g1 (fun q h => by cases h) (fun h => by cases h) k1 k2 rfl hkC ⟨h0, Nat.lt_of_lt_of_le hlt g4.1⟩ f1 (fun q h => by rw [f3] at h; cases h) (by rw [f2]; exact hkC) (by rw [f2]; exact va_assign hcls) rfl rfl hd fun H' e1 e2 e3 => ?_
  refine kk X p l e R s m args below meth c H' _ cells slots Q ls C hcs hs (hH.upd hok h8 rfl e2 e3 (fun b hb k' => rfl) (fun b hb k' => ax_u2_ne hb k') (fun t' n' hsh' => ?_)) (ax_S_put hok hS h8 e2 e3) hL hE
  cases hsh.symm.trans hsh'
  refine ax_at_ast (v := av_r (some b)) h8 (by omega) (by omega) e1 (fun j => ?_)
  have hI : ∀ k, ax_isI t k = false := by
    have : t = 11 ∨ t = 12 ∨ t = 13 := by omega
    rcases this with rfl | rfl | rfl <;> exact fun _ => rfl
  by_cases hjk : j = i.toNatClampNeg
  · subst hjk
    simp [ax_sv, hI, ax_u2_self]
  · rw [if_neg hjk]
    simp only [ax_sv, ax_u2_nk hjk]
theorem ax_alen {t : Nat} {r : Option Nat} {x : Int32} (ht : 8 ≤ t ∧ t < 14) (hd : decode M.2.1 pc = .ok (.arraylength, 1)) (h : ax_ln σ t r = some x) (kk : AW M d bc bs (pc + 1) L (av_i x :: st) σ z) : AW M d bc bs pc L (av_r r :: st) σ z := by
  intro X p l e R s m args below meth c H locs cells slots Q ls C hcs hs hH hS hL hE
  obtain ⟨hx, hb, hml, hown, hts, hret, hlk, hin, hdf, hdl, hok, hK, hG⟩ := id C
  obtain ⟨⟨a, n⟩, h1, h2⟩ := Option.map_eq_some_iff.mp h
  subst h2
  obtain ⟨rfl, hsh⟩ := ax_sh_of h1
  obtain ⟨cell, g1, g2, g3, g4, g5, -⟩ := ax_at_arr hK (hH.2.2 _ _ n hsh) ht.1 ht.2
  exact W.alen (n := Int32.ofNat n) hx hb g1 g2 g4.2 rfl rfl hd (kk X p l e R s m args below meth c H locs cells slots Q ls C hcs hs hH hS hL hE)
/-- a new cell: the others as they were -/
theorem ax_H.push {X : ax_X} {H H' : Heap} {t n : Nat} (hok : ax_ok X) (h : ax_H X σ H) (z1 : H'.size = H.size + 1) (o1 : ∀ q : Nat, q < H.size → H'[q]? = H[q]?) (hat : ax_at X (ax_nw σ t n) H' σ.1.length t n) : ax_H X (ax_nw σ t n) H' ∧ ax_ρ X σ.1.length = H.size := by
  have hr : ax_ρ X σ.1.length = H.size := by rw [hok.1 _ h.1, h.2.1]
  have hlen : (ax_nw σ t n).1.length = σ.1.length + 1 := by simp [ax_nw]
  have h1 := h.1
  have h2 := h.2.1
  refine ⟨⟨by omega, by rw [z1, hlen]; omega, fun a t' n' ha => ?_⟩, hr⟩
  by_cases hl : a < σ.1.length
  · have ha' : σ.1[a]? = some (t', n') := by
      have e : (ax_nw σ t n).1[a]? = σ.1[a]? := by
        show (σ.1 ++ [(t, n)])[a]? = _
        rw [List.getElem?_append_left hl]
      rw [← e]
      exact ha
    refine (h.2.2 a t' n' ha').kept (o1 _ ?_) (fun k => ?_) (fun k => ?_)
    · by_cases ha8 : 9 ≤ a
      · rw [hok.1 a ha8]; omega
      · have := hok.2 a (by omega); omega
    · show (if a = σ.1.length then (0 : Int32) else σ.2.1 a k) = _
      rw [if_neg (by omega)]
    · show (if a = σ.1.length then (none : Option Nat) else σ.2.2 a k) = _
      rw [if_neg (by omega)]
  · have hl2 : a < (ax_nw σ t n).1.length := (List.getElem?_eq_some_iff.mp ha).1
    have hae : a = σ.1.length := by omega
    subst hae
    have e : (ax_nw σ t n).1[σ.1.length]? = some (t, n) := by
      show (σ.1 ++ [(t, n)])[σ.1.length]? = _
      simp
    cases e.symm.trans ha
    exact hat
theorem ax_S_new {X : ax_X} {H0 H H' : Heap} {locs : List Loc} (h : va_S (ax_A X) H0 H locs) (z1 : H'.size = H.size + 1) (o1 : ∀ q : Nat, q < H.size → H'[q]? = H[q]?) : va_S (ax_A X) H0 H' locs := ⟨Nat.le_trans h.1 (by omega), fun x h1 h2 => (o1 x (Nat.lt_of_lt_of_le h1 h.1)).trans (h.2.1 x h1 h2), h.2.2⟩
theorem ax_newO {index t : Nat} {q : vw_C} (hd : decode M.2.1 pc = .ok (.new index, 3)) (hc : vwCl[t]? = some q) (hw1 : Cond.classLink M.1 index q.1 ∈ ax_WS) (hw2 : Cond.instantiable q.1 q.2.2 ∈ ax_WS) (hw3 : Cond.initialized q.1 ∈ ax_WS)
    (hdef : ∀ k, k < q.2.2 → defaultValue (ax_ty t k) = if ax_isI t k = true then .int 0 else .null)
    (kk : AW M d bc bs (pc + 3) L (av_r (some σ.1.length) :: st) (ax_nw σ t q.2.2) z) : AW M d (bc + 1) (bs + q.2.2) pc L st σ z := by
  intro X p l e R s m args below meth c H locs cells slots Q ls C hcs hs hH hS hL hE
  obtain ⟨hx, hb, hml, hown, hts, hret, hlk, hin, hdf, hdl, hok, hK, hG⟩ := id C
  have hKn := hK.1.1 t _ hc
  have ht : t < 8 := Nat.lt_of_lt_of_le (List.getElem?_eq_some_iff.mp hc).1 (by decide)
  obtain ⟨hcl, hty, hnm⟩ := ax_cls hc
  have hts' : ∀ w ∈ u_ws q.1 q.2.1 q.2.2, w.before args s = true := fun w hw => hts w (hcl w hw)
  refine W.newcK hx hb hown (hts _ hw1) (hts _ hw2) (hts _ hw3) rfl hd (by omega) (by omega) hKn.2.1 rfl fun H1 kC hkC e1 z1 o1 => ?_
  have hr : ax_ρ X σ.1.length = H.size := by rw [hok.1 _ hH.1, hH.2.1]
  have hat : ax_at X (ax_nw σ t q.2.2) H1 σ.1.length t q.2.2 := by
    have := hH.1
    unfold ax_at
    rw [if_neg (by omega), if_neg (by omega), if_pos ht]
    refine ⟨q, hc, rfl, ?_⟩
    rw [hr]
    refine (u_born (ax_ty t) hts' (fun w h => h) hKn hkC e1 hty).to (fun k hk => ?_)
    rw [hdef k hk]
    have h1 : (ax_nw σ t q.2.2).2.1 σ.1.length k = 0 := if_pos rfl
    have h2 : (ax_nw σ t q.2.2).2.2 σ.1.length k = none := if_pos rfl
    simp only [ax_sv, h1, h2]
    split <;> rfl
  obtain ⟨hH1, hr⟩ := hH.push hok z1 o1 hat
  have k1 := kk X p l e R s m args below meth c H1 locs (cells + 1) (slots + q.2.2) Q ls C (by omega) (by omega) hH1 (ax_S_new hS z1 o1) hL hE
  have e2 : List.map (ax_cv (ax_ρ X)) (av_r (some σ.1.length) :: st) = Value.ref H.size :: List.map (ax_cv (ax_ρ X)) st := by
    show Value.ref (ax_ρ X σ.1.length) :: _ = _
    rw [hr]
  rw [e2] at k1
  exact k1
theorem ax_newA {t n : Nat} {x : Int32} {aty : ArrayType} (hd : decode M.2.1 pc = .ok (.newarray aty, 2)) (ht : 8 ≤ t ∧ t < 11) (hty : newarray.typeOf aty = ax_ty t 0) (hw : Cond.arrayClass (ax_ty t 0) ∈ ax_WS) (hx0 : ¬ x < 0) (hn : x.toNatClampNeg = n) (hn2 : n ≤ 100000)
    (kk : AW M d bc bs (pc + 2) L (av_r (some σ.1.length) :: st) (ax_nw σ t n) z) : AW M d (bc + 1) (bs + n) pc L (av_i x :: st) σ z := by
  intro X p l e R s m args below meth c H locs cells slots Q ls C hcs hs hH hS hL hE
  obtain ⟨hx, hb, hml, hown, hts, hret, hlk, hin, hdf, hdl, hok, hK, hG⟩ := id C
  have htc : t = 8 ∨ t = 9 ∨ t = 10 := by omega
  have hcb : componentBytes (newarray.typeOf aty) ≤ 8 := by
    cases aty <;> decide
  refine va_newaK hx hb (by rw [hty]; exact hts _ hw) rfl hd rfl hx0 hn (by have := Nat.mul_le_mul hn2 hcb; omega) (by omega) (by omega) rfl fun H1 cA e1 z1 o1 hAr hNm => ?_
  have hr : ax_ρ X σ.1.length = H.size := by rw [hok.1 _ hH.1, hH.2.1]
  rw [hty] at hNm e1
  have hRA := (hK.2.1 t (by omega) (by omega)).2
  have hcA : cA = X.2.1 t := by
    rcases htc with rfl | rfl | rfl <;> exact Option.some.inj (hNm.symm.trans hRA)
  subst hcA
  have hat : ax_at X (ax_nw σ t n) H1 σ.1.length t n := by
    have := hH.1
    unfold ax_at
    rw [if_neg (by omega), if_neg (by omega), if_neg (by omega), hr]
    refine ⟨by omega, e1.trans ?_⟩
    congr 2
    funext k
    have h1 : (ax_nw σ t n).2.1 σ.1.length k = 0 := if_pos rfl
    simp only [ax_sv, h1]
    rcases htc with rfl | rfl | rfl <;> rfl
  obtain ⟨hH1, hr⟩ := hH.push hok z1 o1 hat
  have k1 := kk X p l e R s m args below meth c H1 locs (cells + 1) (slots + n) Q ls C (by omega) (by omega) hH1 (ax_S_new hS z1 o1) hL hE
  have e2 : List.map (ax_cv (ax_ρ X)) (av_r (some σ.1.length) :: st) = Value.ref H.size :: List.map (ax_cv (ax_ρ X)) st := by
    show Value.ref (ax_ρ X σ.1.length) :: _ = _
    rw [hr]
  rw [e2] at k1
  exact k1
theorem ax_newR {index t n : Nat} {x : Int32} {Cn : String} (hd : decode M.2.1 pc = .ok (.anewarray index, 3)) (ht : 11 ≤ t ∧ t < 14) (hty : ax_ty t 0 = .object Cn) (hw1 : Cond.classLink M.1 index Cn ∈ ax_WS) (hCn : Cn = RX1 ∨ Cn = RX3 ∨ Cn = RX5) (hx0 : ¬ x < 0) (hn : x.toNatClampNeg = n) (hn2 : n ≤ 100000)
    (kk : AW M d bc bs (pc + 3) L (av_r (some σ.1.length) :: st) (ax_nw σ t n) z) : AW M d (bc + 1) (bs + n) pc L (av_i x :: st) σ z := by
  intro X p l e R s m args below meth c H locs cells slots Q ls C hcs hs hH hS hL hE
  obtain ⟨hx, hb, hml, hown, hts, hret, hlk, hin, hdf, hdl, hok, hK, hG⟩ := id C
  subst hn
  have hao : va_AO Cn s := by
    rcases hCn with rfl | rfl | rfl
    · exact hK.2.2.2.2.2.1
    · exact hK.2.2.2.2.2.2.1
    · exact hK.2.2.2.2.2.2.2
  refine W.anew hx hb hown (hts _ hw1) (va_AO.use hao) rfl hd rfl hx0 (by omega) (by omega) (by omega) fun cA kA comp f1 f2 f3 f4 => ?_
  generalize hH1 : H.push ({ cls := cA, slots := Array.replicate x.toNatClampNeg .null, vm := .none } : Cell) = H1
  have z1 : H1.size = H.size + 1 := by rw [← hH1, Array.size_push]
  have e1 : H1[H.size]? = some (arrV cA x.toNatClampNeg (fun _ => .null)) := by rw [← hH1, Array.getElem?_push_size, ← arrV_new]
  have o1 : ∀ q : Nat, q < H.size → H1[q]? = H[q]? := fun q hq => by rw [← hH1, Array.getElem?_push, if_neg (Nat.ne_of_lt hq)]
  have hr : ax_ρ X σ.1.length = H.size := by rw [hok.1 _ hH.1, hH.2.1]
  have hRA := (hK.2.1 t (by omega) (by omega)).2
  rw [hty] at hRA
  obtain ⟨kA', comp', k1, k2, k3, k4⟩ := hRA
  have hcA : cA = X.2.1 t := Option.some.inj (f1.symm.trans k4)
  subst hcA
  have hat : ax_at X (ax_nw σ t x.toNatClampNeg) H1 σ.1.length t x.toNatClampNeg := by
    have := hH.1
    unfold ax_at
    rw [if_neg (by omega), if_neg (by omega), if_neg (by omega), hr]
    refine ⟨by omega, e1.trans ?_⟩
    congr 2
    funext k
    have h1 : (ax_nw σ t x.toNatClampNeg).2.2 σ.1.length k = none := if_pos rfl
    have hI : ax_isI t k = false := by
      have : t = 11 ∨ t = 12 ∨ t = 13 := by omega
      rcases this with rfl | rfl | rfl <;> rfl
    simp only [ax_sv, h1, hI]
    rfl
  obtain ⟨hH1', hr⟩ := hH.push hok z1 o1 hat
  have k1 := kk X p l e R s m args below meth c H1 locs (cells + 1) (slots + x.toNatClampNeg) Q ls C (by omega) (by omega) hH1' (ax_S_new hS z1 o1) hL hE
  have e2 : List.map (ax_cv (ax_ρ X)) (av_r (some σ.1.length) :: st) = Value.ref H.size :: List.map (ax_cv (ax_ρ X)) st := by
    show Value.ref (ax_ρ X σ.1.length) :: _ = _
    rw [hr]
  rw [e2] at k1
  exact k1
end AXA
