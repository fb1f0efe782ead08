/-! ===== rules over the heap ===== -/
theorem ax_in_cl (ws : List Cond) (h : ws.all (fun w => decide (w ∈ lw_tbl) && goodWord w) = true) : ∀ w ∈ ws, w ∈ ax_WS := by
  intro w hw
  have h1 := List.all_eq_true.mp h w hw
  simp only [Bool.and_eq_true, decide_eq_true_eq] at h1
  exact List.mem_filter.mpr h1
theorem ax_cl0 : ∀ w ∈ u_ws RX0 TX0 8, w ∈ ax_WS := ax_in_cl _ (by decide +kernel)
theorem ax_cl1 : ∀ w ∈ u_ws RX1 TX1 5, w ∈ ax_WS := ax_in_cl _ (by decide +kernel)
theorem ax_cl2 : ∀ w ∈ u_ws RX3 TX3 5, w ∈ ax_WS := ax_in_cl _ (by decide +kernel)
theorem ax_cl3 : ∀ w ∈ u_ws RX5 TX5 4, w ∈ ax_WS := ax_in_cl _ (by decide +kernel)
theorem ax_cl4 : ∀ w ∈ u_ws RX6 TX6 7, w ∈ ax_WS := ax_in_cl _ (by decide +kernel)
theorem ax_cl5 : ∀ w ∈ u_ws RX8 TX8 2, w ∈ ax_WS := ax_in_cl _ (by decide +kernel)
theorem ax_cl6 : ∀ w ∈ u_ws RX9 TX9 6, w ∈ ax_WS := ax_in_cl _ (by decide +kernel)
/-- what the tables say of a class of objects -/
theorem ax_cls {t : Nat} {q : vw_C} (h : vwCl[t]? = some q) : (∀ w ∈ u_ws q.1 q.2.1 q.2.2, w ∈ ax_WS) ∧ (∀ k, k < q.2.2 → parseFieldDescriptor (q.2.1 k).2.2.1 = some (ax_ty t k)) ∧ (∀ a, a < q.2.2 → ∀ b, b < q.2.2 → a ≠ b → (q.2.1 a).2.1 ≠ (q.2.1 b).2.1) := by
  match t, h with
  | 0, h => cases h; exact ⟨ax_cl0, tyX0_ok, nmX0⟩
  | 1, h => cases h; exact ⟨ax_cl1, tyX1_ok, nmX1⟩
  | 2, h => cases h; exact ⟨ax_cl2, tyX3_ok, nmX3⟩
  | 3, h => cases h; exact ⟨ax_cl3, tyX5_ok, nmX5⟩
  | 4, h => cases h; exact ⟨ax_cl4, tyX6_ok, nmX6⟩
  | 5, h => cases h; exact ⟨ax_cl5, tyX8_ok, nmX8⟩
  | 6, h => cases h; exact ⟨ax_cl6, tyX9_ok, nmX9⟩
  | t + 7, h => simp [vwCl] at h
section AXH
variable {M : ax_M} {d bc bs pc : Nat} {L : List (Option ax_V)} {st : List ax_V} {σ σ1 : ax_S} {z : Option ax_V × ax_S}
theorem ax_getI {index t k : Nat} {q : vw_C} {r : Option Nat} {x : Int32} (hd : decode M.2.1 pc = .ok (.getfield index, 3)) (hc : vwCl[t]? = some q) (hk : k < q.2.2) (hw : Cond.fieldLink M.1 index (q.2.1 k).1 (q.2.1 k).2.1 (q.2.1 k).2.2.1 ∈ ax_WS) (hI : ax_isI t k = true) (h : ax_gi σ t k r = some x)
    (kk : AW M d bc bs (pc + 3) L (av_i x :: st) σ z) : AW M d bc bs pc L (av_r r :: st) σ z := by
  intro X p l e R s m args below meth c H locs cells slots Q ls C hcs hs hH hS hL hE
  obtain ⟨hx, hb, hml, hown, hts, hret, hlk, hin, hdf, hdl, hok, hK, hG⟩ := id C
  obtain ⟨⟨a, n⟩, h1, h2⟩ := Option.map_eq_some_iff.mp h
  subst h2
  obtain ⟨rfl, hsh⟩ := ax_sh_of h1
  have ht : t < 8 := Nat.lt_of_lt_of_le (List.getElem?_eq_some_iff.mp hc).1 (by decide)
  obtain ⟨h8, q', hc', -, cell, q1, q2, q3, q4⟩ := ax_at_obj (hH.2.2 a t n hsh) ht
  cases hc.symm.trans hc'
  obtain ⟨hcl, hty, hnm⟩ := ax_cls hc
  have hts' : ∀ w ∈ u_ws q.1 q.2.1 q.2.2, w.before args s = true := fun w hw => hts w (hcl w hw)
  obtain ⟨hSl, hfc, kC, hkC, hkind⟩ := hK.1.1 t _ hc
  obtain ⟨cf, kf, fi, f, hi, hsl⟩ := hSl k hk
  have hv : cell.slots[f.slot]? = some (.int (σ.2.1 a k)) := by
    rw [hsl, q4 k hk]
    simp only [ax_sv, hI, if_true]
    rfl
  exact W.getf hx hb hown (hts _ hw) hi (u_facts hfc hkC (u_lays hts' (fun w h => h) hk) hi).1 q1 (by rw [q3]; exact fun h => by cases h) hv rfl rfl hd (kk X p l e R s m args below meth c H locs cells slots Q ls C hcs hs hH hS hL hE)
theorem ax_getR {index t k : Nat} {q : vw_C} {r x : Option Nat} (hd : decode M.2.1 pc = .ok (.getfield index, 3)) (hc : vwCl[t]? = some q) (hk : k < q.2.2) (hw : Cond.fieldLink M.1 index (q.2.1 k).1 (q.2.1 k).2.1 (q.2.1 k).2.2.1 ∈ ax_WS) (hI : ax_isI t k = false) (h : ax_gr σ t k r = some x)
    (kk : AW M d bc bs (pc + 3) L (av_r x :: st) σ z) : AW M d bc bs pc L (av_r r :: st) σ z := by
  intro X p l e R s m args below meth c H locs cells slots Q ls C hcs hs hH hS hL hE
  obtain ⟨hx, hb, hml, hown, hts, hret, hlk, hin, hdf, hdl, hok, hK, hG⟩ := id C
  obtain ⟨⟨a, n⟩, h1, h2⟩ := Option.map_eq_some_iff.mp h
  subst h2
  obtain ⟨rfl, hsh⟩ := ax_sh_of h1
  have ht : t < 8 := Nat.lt_of_lt_of_le (List.getElem?_eq_some_iff.mp hc).1 (by decide)
  obtain ⟨h8, q', hc', -, cell, q1, q2, q3, q4⟩ := ax_at_obj (hH.2.2 a t n hsh) ht
  cases hc.symm.trans hc'
  obtain ⟨hcl, hty, hnm⟩ := ax_cls hc
  have hts' : ∀ w ∈ u_ws q.1 q.2.1 q.2.2, w.before args s = true := fun w hw => hts w (hcl w hw)
  obtain ⟨hSl, hfc, kC, hkC, hkind⟩ := hK.1.1 t _ hc
  obtain ⟨cf, kf, fi, f, hi, hsl⟩ := hSl k hk
  have hv : cell.slots[f.slot]? = some (ax_cv (ax_ρ X) (av_r (σ.2.2 a k))) := by
    rw [hsl, q4 k hk]
    simp only [ax_sv, hI]
    rfl
  exact W.getf hx hb hown (hts _ hw) hi (u_facts hfc hkC (u_lays hts' (fun w h => h) hk) hi).1 q1 (by rw [q3]; exact fun h => by cases h) hv rfl rfl hd (kk X p l e R s m args below meth c H locs cells slots Q ls C hcs hs hH hS hL hE)
/-- the object's cell behind a write -/
theorem ax_at_put {X : ax_X} {σ σ' : ax_S} {H' : Heap} {cell : Cell} {a t k : Nat} {q : vw_C} {v : ax_V} (h8 : 9 ≤ a) (ht : t < 8) (hc : vwCl[t]? = some q) (hk : k < q.2.2) (hap : ∀ x y, x < q.2.2 → y < q.2.2 → x ≠ y → X.1.2 t x ≠ X.1.2 t y) (q2 : cell.cls = X.1.1 t) (q3 : cell.vm = .none) (q4 : ∀ j, j < q.2.2 → cell.slots[X.1.2 t j]? = some (ax_cv (ax_ρ X) (ax_sv σ t a j)))
    (e1 : H'[ax_ρ X a]? = some (cell.setSlot (X.1.2 t k) (ax_cv (ax_ρ X) v))) (hv : ∀ j, j < q.2.2 → ax_sv σ' t a j = if j = k then v else ax_sv σ t a j) : ax_at X σ' H' a t q.2.2 := by
  unfold ax_at
  rw [if_neg (by omega), if_neg (by omega), if_pos ht]
  refine ⟨q, hc, rfl, t_OB.to (V := updV (fun j => ax_cv (ax_ρ X) (ax_sv σ t a j)) k (ax_cv (ax_ρ X) v)) ⟨_, e1, q2, q3, t_set q4 hap hk _⟩ (fun j hj => ?_)⟩
  rw [hv j hj]
  unfold updV
  split <;> rfl
theorem ax_putI {index t k : Nat} {q : vw_C} {r : Option Nat} {x : Int32} (hd : decode M.2.1 pc = .ok (.putfield index, 3)) (hc : vwCl[t]? = some q) (hk : k < q.2.2) (hw : Cond.fieldLink M.1 index (q.2.1 k).1 (q.2.1 k).2.1 (q.2.1 k).2.2.1 ∈ ax_WS) (hI : ax_isI t k = true) (hfin : (q.2.1 k).2.2.2 = false) (hfit : narrow (ax_ty t k) (.int x) = .int x ∧ fits (ax_ty t k) (.int x) = true) (h : ax_pi σ t k r x = some σ1)
    (kk : AW M d bc bs (pc + 3) L st σ1 z) : AW M d bc bs pc L (av_i x :: av_r r :: st) σ z := by
  intro X p l e R s m args below meth c H locs cells slots Q ls C hcs hs hH hS hL hE
  obtain ⟨hx, hb, hml, hown, hts, hret, hlk, hin, hdf, hdl, hok, hK, hG⟩ := id C
  obtain ⟨⟨a, n⟩, h1, h2⟩ := Option.map_eq_some_iff.mp h
  subst h2
  obtain ⟨rfl, hsh⟩ := ax_sh_of h1
  have ht : t < 8 := Nat.lt_of_lt_of_le (List.getElem?_eq_some_iff.mp hc).1 (by decide)
  obtain ⟨h8, q', hc', hn, cell, q1, q2, q3, q4⟩ := ax_at_obj (hH.2.2 a t n hsh) ht
  cases hc.symm.trans hc'
  obtain ⟨hcl, hty, hnm⟩ := ax_cls hc
  have hts' : ∀ w ∈ u_ws q.1 q.2.1 q.2.2, w.before args s = true := fun w hw => hts w (hcl w hw)
  have hap := va_apart (own := M.1) hts' (fun w h => h) _ hty hnm hK.1 hc
  obtain ⟨hSl, hfc, kC, hkC, hkind⟩ := hK.1.1 t _ hc
  obtain ⟨cf, kf, fi, f, hi, hsl⟩ := hSl k hk
  have hlay := hts' _ (u_in_lay hk)
  unfold u_lay at hlay
  rw [if_neg (by rw [hfin]; decide)] at hlay
  have hst := (u_facts hfc hkC (u_lays hts' (fun w h => h) hk) hi).1
  have h6 := u_store hfc hkC hkind hlay hi (hty k hk) hfit.1 hfit.2
  refine W.putK hx hb (f := f) ⟨hown, hts _ hw, ⟨_, _, _, hi⟩, hst⟩ (by rw [q2]; exact h6) q1 q3 (by rw [hsl]; exact k2_hasslot (q4 k hk)) rfl rfl hd fun H' e1 e2 e3 => ?_
  rw [hsl] at e1 ⊢
  refine kk X p l e R s m args below meth c H' _ cells slots Q ls C hcs hs (hH.upd hok h8 rfl e2 e3 (fun b hb k' => ax_u2_ne hb k') (fun b hb k' => rfl) (fun t' n' hsh' => ?_)) (ax_S_put hok hS h8 e2 e3) hL hE
  cases hsh.symm.trans hsh'
  subst hn
  refine ax_at_put (v := av_i x) h8 ht hc hk hap q2 q3 q4 e1 (fun j hj => ?_)
  by_cases hjk : j = k
  · subst hjk
    simp [ax_sv, hI, ax_u2_self]
  · rw [if_neg hjk]
    simp only [ax_sv, ax_u2_nk hjk]
theorem ax_putRF {index t k : Nat} {q : vw_C} {r v : Option Nat} (hd : decode M.2.1 pc = .ok (.putfield index, 3)) (hc : vwCl[t]? = some q) (hk : k < q.2.2) (hw : Cond.fieldLink M.1 index (q.2.1 k).1 (q.2.1 k).2.1 (q.2.1 k).2.2.1 ∈ ax_WS) (hI : ax_isI t k = false) (hfin : (q.2.1 k).2.2.2 = true) (hini : M.2.2.2.2 = true) (hdecl : (q.2.1 k).1 = M.1) (hfit : ∀ w : Option Nat, narrow (ax_ty t k) (va_rf w) = va_rf w ∧ fits (ax_ty t k) (va_rf w) = true) (h : ax_pr σ t k r v = some σ1)
    (kk : AW M d bc bs (pc + 3) L st σ1 z) : AW M d bc bs pc L (av_r v :: av_r r :: st) σ z := by
  intro X p l e R s m args below meth c H locs cells slots Q ls C hcs hs hH hS hL hE
  obtain ⟨hx, hb, hml, hown, hts, hret, hlk, hin, hdf, hdl, hok, hK, hG⟩ := id C
  obtain ⟨⟨a, n⟩, h1, h2⟩ := Option.map_eq_some_iff.mp h
  subst h2
  obtain ⟨rfl, hsh⟩ := ax_sh_of h1
  have ht : t < 8 := Nat.lt_of_lt_of_le (List.getElem?_eq_some_iff.mp hc).1 (by decide)
  obtain ⟨h8, q', hc', hn, cell, q1, q2, q3, q4⟩ := ax_at_obj (hH.2.2 a t n hsh) ht
  cases hc.symm.trans hc'
  obtain ⟨hcl, hty, hnm⟩ := ax_cls hc
  have hts' : ∀ w ∈ u_ws q.1 q.2.1 q.2.2, w.before args s = true := fun w hw => hts w (hcl w hw)
  have hap := va_apart (own := M.1) hts' (fun w h => h) _ hty hnm hK.1 hc
  obtain ⟨hSl, hfc, kC, hkC, hkind⟩ := hK.1.1 t _ hc
  obtain ⟨cf, kf, fi, f, hi, hsl⟩ := hSl k hk
  have hlay := hts' _ (u_in_lay hk)
  unfold u_lay at hlay
  rw [if_pos hfin] at hlay
  have hst := (u_facts hfc hkC (u_lays hts' (fun w h => h) hk) hi).1
  have hcf : m.cls = cf := by
    obtain ⟨_, _, c', _, _, _, -, -, hf', -, -, -, hown2, -⟩ := Cond.laysFinal_spec hlay
    have e1 : c' = cf := by have := hi.symm.trans hf'; simp at this; exact this.1.symm
    rw [hdecl] at hown2
    rw [← e1]; exact Option.some.inj (hown.symm.trans hown2)
  have h6 := u_fits hfc hkC hkind (u_lays hts' (fun w h => h) hk) hi (hty k hk) (hfit (v.map (ax_ρ X))).1 (hfit (v.map (ax_ρ X))).2
  refine W.putFinK hx hb hown (hts _ hw) hi hst hcf (hin hini) (by rw [q2]; exact h6) q1 q3 (by rw [hsl]; exact k2_hasslot (q4 k hk)) rfl rfl hd fun H' e1 e2 e3 => ?_
  rw [hsl] at e1 ⊢
  refine kk X p l e R s m args below meth c H' _ cells slots Q ls C hcs hs (hH.upd hok h8 rfl e2 e3 (fun b hb k' => rfl) (fun b hb k' => ax_u2_ne hb k') (fun t' n' hsh' => ?_)) (ax_S_put hok hS h8 e2 e3) hL hE
  cases hsh.symm.trans hsh'
  subst hn
  refine ax_at_put (v := av_r v) h8 ht hc hk hap q2 q3 q4 e1 (fun j hj => ?_)
  by_cases hjk : j = k
  · subst hjk
    simp [ax_sv, hI, ax_u2_self]
  · rw [if_neg hjk]
    simp only [ax_sv, ax_u2_nk hjk]
end AXH
