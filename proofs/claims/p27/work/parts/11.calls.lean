/-! ===== contracts and calls ===== -/
def ax_okr : Option FieldType → Option ax_V → Prop
  | none, none => True
  | some .int, some (.inl _) => True
  | some .boolean, some (.inl x) => narrow .boolean (.int x) = .int x
  | some .byte, some (.inl x) => narrow .byte (.int x) = .int x
  | some .long, some (.inr (.inl _)) => True
  | some (.object _), some (.inr (.inr _)) => True
  | some (.array _), some (.inr (.inr _)) => True
  | _, _ => False
def ax_args : List ax_V → List (Option ax_V)
  | [] => []
  | .inr (.inl x) :: t => some (av_l x) :: none :: ax_args t
  | v :: t => some v :: ax_args t
theorem ax_args_lv (ρ : Nat → Nat) : ∀ (as : List ax_V) (k i : Nat) (v : ax_V), (ax_args as)[i]? = some (some v) → (k + i, ax_cv ρ v) ∈ lv_args k (as.map (ax_cv ρ))
  | [], k, i, v, h => by simp [ax_args] at h
  | .inl x :: t, k, i, v, h => by
    cases i with
    | zero =>
      cases h
      exact List.mem_cons_self
    | succ j =>
      refine List.mem_cons_of_mem _ ?_
      have h1 := ax_args_lv ρ t (k + 1) j v h
      rw [show k + (j + 1) = k + 1 + j by omega]
      exact h1
  | .inr (.inl x) :: t, k, i, v, h => by
    match i, h with
    | 0, h =>
      cases h
      exact List.mem_cons_self
    | 1, h => cases h
    | j + 2, h =>
      refine List.mem_cons_of_mem _ ?_
      have h1 := ax_args_lv ρ t (k + 2) j v h
      rw [show k + (j + 2) = k + 2 + j by omega]
      exact h1
  | .inr (.inr r) :: t, k, i, v, h => by
    cases i with
    | zero =>
      cases h
      exact List.mem_cons_self
    | succ j =>
      refine List.mem_cons_of_mem _ ?_
      have h1 := ax_args_lv ρ t (k + 1) j v h
      rw [show k + (j + 1) = k + 1 + j by omega]
      have e : (ax_cv ρ (.inr (.inr r))).category = 1 := ax_cat ρ _
      show _ ∈ lv_args (if (ax_cv ρ (.inr (.inr r))).category = 2 then k + 2 else k + 1) _
      rw [e]
      exact h1
/-- a method's contract: from the arguments and the store as it comes to what it answers and the store as it is then -/
def AC (M : ax_M) (y : MethodName) (d kc ks : Nat) (as : List ax_V) (σ : ax_S) (z : Option ax_V × ax_S) : Prop :=
  ∀ (X : ax_X) (l : Launch), ax_ok X → Met l y (Cond.code y M.2.1 M.2.2.2.1 M.2.2.1 :: ax_WS) { frames := d, cells := kc, slots := ks, locals := 64 * d }
    (va_Pc (as.map (ax_cv (ax_ρ X))) (fun U => ax_H X σ U.heap ∧ ax_K X U ∧ ax_G X U U.heap))
    (fun _ st oc t => oc = .returned (z.1.map (ax_cv (ax_ρ X))) ∧ ax_H X z.2 t.heap ∧ va_F (ax_A X) st t) kc ks (ax_A X)
theorem ax_met {M : ax_M} {y : MethodName} {d kc ks : Nat} {as : List ax_V} {σ : ax_S} {z : Option ax_V × ax_S} {L0 : List (Option ax_V)} (hy : plainName y.cls = true) (hcls : y.cls = M.1) (hini : M.2.2.2.2 = true → y.name = "<init>")
    (hL0 : ax_sub L0 (ax_args as)) (hlen : (ax_args as).length ≤ M.2.2.2.1) (hret : ax_okr M.2.2.1 z.1) (h : AW M d kc ks 0 L0 [] σ z) : AC M y d kc ks as σ z := by
  intro X l hok
  refine Met.ofW (cc := M.2.1) (maxL := M.2.2.2.1) (ret := M.2.2.1) hy rfl ?_
  intro p e s m args below meth c s₁ B hml hv
  obtain ⟨rfl, hH, hK, hG⟩ := hv
  have hts := atoms_spec (ws := Cond.code y M.2.1 M.2.2.2.1 M.2.2.1 :: ax_WS) B.pre
  have hown : s.vm.findClass M.1 = some m.cls := by rw [← hcls]; exact findClass_of_methodNamed B.named
  have hin : M.2.2.2.2 = true → meth.name = "<init>" := fun q => ((name_of_methodNamed B.named B.method).1).trans (hini q)
  have hS : va_S (ax_A X) s.heap s.heap [] := va_S.rf
  have hsl : ∀ vs : List ax_V, (lg_sl (vs.map (ax_cv (ax_ρ X)))).length = (ax_args vs).length := by
    intro vs
    induction vs with
    | nil => rfl
    | cons v t ih =>
      have hcat := ax_cat (ax_ρ X) v
      unfold lg_sl at ih ⊢
      simp only [List.map_cons, List.flatMap_cons, List.length_append, ih]
      rcases v with x | x | r
      · rw [hcat]
        simp [ax_args]
        omega
      · rw [hcat]
        simp [ax_args]
        omega
      · rw [hcat]
        simp [ax_args]
        omega
  have hl := lv_entry (as.map (ax_cv (ax_ρ X))) (n := M.2.2.2.1) (by rw [hsl]; exact hlen)
  rw [lg_entry_eq]
  generalize (lg_sl (as.map (ax_cv (ax_ρ X))) ++ List.replicate (M.2.2.2.1 - (lg_sl (as.map (ax_cv (ax_ρ X)))).length) Slot.unset).toArray = ls at hl ⊢
  have hL : ax_L X M.2.2.2.1 ls L0 := ⟨hl.1, hl.2.1, fun i v hv => by
    have h1 := ax_args_lv (ax_ρ X) as 0 i v (ax_sub_at hL0 i v hv)
    rw [Nat.zero_add] at h1
    exact hl.2.2 _ h1⟩
  refine h X p l e _ s m _ below meth c s.heap [] 0 0 _ ls ⟨B.exec, B.bytes, hml, hown, fun w hw => hts w (List.mem_cons_of_mem _ hw), B.returns, B.notSynchronized, hin, Nat.le_refl _, Nat.le_refl _, hok, hK, hG⟩ (by show 0 + kc ≤ kc; omega) (by show 0 + ks ≤ ks; omega) hH hS hL ?_
  intro pc' ls' H' locs' hH' hS' hd
  have hq : ∀ v : Option Value, v = z.1.map (ax_cv (ax_ρ X)) → ∀ t : State, t.heap = H' → s.WarmedH t.vm → Outcome.returned v = .returned (z.1.map (ax_cv (ax_ρ X))) ∧ ax_H X z.2 t.heap ∧ va_F (ax_A X) s t := fun v hv t ht hW => ⟨by rw [hv], by rw [ht]; exact hH', hS'.F ht⟩
  have hr := B.returns
  have hlocks := B.notSynchronized
  obtain ⟨z1, z2⟩ := z
  obtain ⟨M1, M2, M3, M4, M5⟩ := M
  simp only at hret hd hr hq ⊢
  match M3, z1, hret, hd, hr, hq with
  | none, none, _, hd, hr, hq => exact W.vret B.exec B.bytes hr (fun t ht hW => hq _ rfl t ht hW) hS'.2.2 hd
  | some .int, some (.inl x), _, hd, hr, hq => exact W.iret B.exec B.bytes hr (fun t ht hW => hq _ rfl t ht hW) hS'.2.2 hd
  | some .boolean, some (.inl x), hn, hd, hr, hq => exact W.zret B.exec B.bytes hr hn (fun t ht hW => hq _ rfl t ht hW) hS'.2.2 hd
  | some .byte, some (.inl x), hn, hd, hr, hq => exact W.zret B.exec B.bytes hr hn (fun t ht hW => hq _ rfl t ht hW) hS'.2.2 hd
  | some .long, some (.inr (.inl x)), _, hd, hr, hq => exact W.lret B.exec B.bytes hr (fun t ht hW => hq _ rfl t ht hW) hS'.2.2 hd
  | some (.object n), some (.inr (.inr r)), _, hd, hr, hq =>
    refine W.aret B.exec B.bytes hr (Or.inl ⟨n, rfl⟩) ?_ (fun t ht hW => hq _ rfl t ht hW) hS'.2.2 hd
    cases r with
    | none => exact Or.inl rfl
    | some a => exact Or.inr ⟨_, rfl⟩
  | some (.array n), some (.inr (.inr r)), _, hd, hr, hq =>
    refine W.aret B.exec B.bytes hr (Or.inr ⟨n, rfl⟩) ?_ (fun t ht hW => hq _ rfl t ht hW) hS'.2.2 hd
    cases r with
    | none => exact Or.inl rfl
    | some a => exact Or.inr ⟨_, rfl⟩
theorem ax_good : ∀ w ∈ ax_WS, w ∈ ax_WS ∧ ((w.onTables && w.keeps) = true ∨ ∃ ty, w = .arrayClass ty) := fun w hw => ⟨hw, good_of_word (List.mem_filter.mp hw).2⟩
theorem ax_goodIn {c0 : Cond} (h : c0 ∈ ax_WS) : GoodIn ax_WS (c0 :: ax_WS) := fun w hw => (List.mem_cons.mp hw).elim (fun e => e ▸ ax_good _ h) (ax_good w)
/-- the words of a call of a method -/
def ax_cw (M2 : ax_M) (y : MethodName) : Prop := Cond.code y M2.2.1 M2.2.2.2.1 M2.2.2.1 ∈ ax_WS ∧ Cond.initialized y.cls ∈ ax_WS
def ax_cy0 (y : MethodName) (n : Nat) : Prop := y.cls ≠ "java/lang/invoke/MethodHandle" ∧ y.cls ≠ "java/lang/invoke/VarHandle" ∧ (parseMethodDescriptor y.desc).map (fun d => d.parameters.length) = some n
theorem ax_blind {X : ax_X} {as : List Value} {σ : ax_S} : FrameBlind (va_Pc as (fun U => ax_H X σ U.heap ∧ ax_K X U ∧ ax_G X U U.heap)) := by
  intro a U g mk q
  obtain ⟨e, hH, hK, hG⟩ := q
  exact ⟨e, hH, ax_K.moved (s := U) (U := U.calling g mk a) (State.WarmedH.refl U) hK, ax_G.moved (u := U) (U := U.calling g mk a) (Vm.Alike.refl U.vm) hG⟩
theorem ax_pcU {X : ax_X} {M : ax_M} {d : Nat} {p : Program} {R : Room} {s : State} {m : MethodId} {args : Array Value} {meth : Method} {c : Code} {σ : ax_S} {H : Heap} {locs : List Loc} (C : ax_C X M d p R s m args meth c) (hH : ax_H X σ H) (hS : va_S (ax_A X) s.heap H locs) (as : List Value) :
    ∀ U : State, U.heap = H → s.WarmedH U.vm → va_Pc as (fun U => ax_H X σ U.heap ∧ ax_K X U ∧ ax_G X U U.heap) as.toArray U := by
  intro U hU hW
  obtain ⟨hx, hb, hml, hown, hts, hret, hlk, hin, hdf, hdl, hok, hK, hG⟩ := id C
  refine ⟨rfl, by rw [hU]; exact hH, hK.moved hW, ?_⟩
  rw [hU]
  exact (hG.moved hW.alike).kept (fun a h1 h2 => hS.2.1 a h1 h2)
theorem ax_S_call {X : ax_X} {H0 H : Heap} {locs L : List Loc} {st t : State} (hS : va_S (ax_A X) H0 H locs) (h0 : st.heap = H) (hF : va_F (ax_A X) st t) (hL : ∀ q ∈ L, ax_A X q.base) : va_S (ax_A X) H0 t.heap (locs ++ L) := by
  obtain ⟨hz, hk⟩ := hF
  rw [h0] at hz hk
  refine ⟨Nat.le_trans hS.1 hz, fun q h1 h2 => by rw [hk q (Nat.lt_of_lt_of_le h1 hS.1) h2]; exact hS.2.1 q h1 h2, fun q hq => ?_⟩
  rcases List.mem_append.mp hq with h | h
  · exact hS.2.2 q h
  · exact hL q h
def ax_c1 : ax_V → Nat
  | .inr (.inl _) => 2
  | _ => 1
def ax_wd (st : List ax_V) : Nat := (st.map ax_c1).sum
theorem ax_wd_eq (ρ : Nat → Nat) (st : List ax_V) : ((st.map (ax_cv ρ)).map (fun v => v.category)).sum = ax_wd st := by
  unfold ax_wd
  rw [List.map_map]
  congr 2
  funext v
  show (ax_cv ρ v).category = _
  rw [ax_cat]
  rcases v with x | x | r <;> rfl
section AXC
variable {M M2 : ax_M} {y : MethodName} {d d2 bc bs kc ks pc index : Nat} {L : List (Option ax_V)} {st S As : List ax_V} {σ σ1 : ax_S} {z : Option ax_V × ax_S} {r : Option ax_V}
/-- behind a call -/
theorem ax_after (hg : ∀ (X : ax_X) (p : Program) (l : Launch) (e : Env) (R : Room) (s : State) (m : MethodId) (args : Array Value) (below : List Frame) (meth : Method) (c : Code) (H : Heap) (locs : List Loc) (cells slots : Nat) (ls : Array Slot),
      ax_C X M d p R s m args meth c → cells + (bc + kc) ≤ R.cells → slots + (bs + ks) ≤ R.slots → ax_H X σ H → va_S (ax_A X) s.heap H locs → ax_L X M.2.2.2.1 ls L → ∃ as : Array Value,
      va_Run p l e R s m args below meth c H locs cells slots kc ks (F0 m pc ls (S.map (ax_cv (ax_ρ X)))) (st.map (ax_cv (ax_ρ X))) ((fun _ st oc t => oc = .returned (r.map (ax_cv (ax_ρ X))) ∧ ax_H X σ1 t.heap ∧ va_F (ax_A X) st t : Array Value → State → Outcome → State → Prop) as) (ax_A X))
    (kk : AW M d bc bs (pc + 3) L (r.toList ++ st) σ1 z) : AW M d (bc + kc) (bs + ks) pc L S σ z := by
  intro X p l e R s m args below meth c H locs cells slots Q ls C hcs hs hH hS hL hE
  obtain ⟨as, hr⟩ := hg X p l e R s m args below meth c H locs cells slots ls C hcs hs hH hS hL
  intro T hT X0
  obtain ⟨v, st₀, t, T', L2, h0, X', hL2, e1, e2, ⟨hv, hH1, hF⟩, stp⟩ := hr T hT X0
  have hv := Outcome.returned.inj hv
  subst hv
  obtain ⟨t2, a1, b1⟩ := kk X p l e R s m args below meth c t.heap (locs ++ L2) (cells + kc) (slots + ks) Q ls C (by omega) (by omega) hH1 (ax_S_call hS h0 hF hL2) hL hE T' e1 X'
  refine ⟨t2, stp t2 ?_, b1⟩
  have e3 : List.map (ax_cv (ax_ρ X)) (r.toList ++ st) = (r.map (ax_cv (ax_ρ X))).toList ++ List.map (ax_cv (ax_ρ X)) st := by
    cases r <;> simp
  rw [e3] at a1
  exact a1
theorem ax_invV {t b n : Nat} (hd : decode M.2.1 pc = .ok (.invokevirtual index, 3)) (hC : AC M2 y d2 kc ks (av_r (some b) :: As) σ (r, σ1)) (hsh : ax_sh σ t (some b) = some (b, n)) (hcl : (vwCl[t]?).map (fun q => q.1) = some y.cls)
    (hw1 : ax_cw M2 y) (hw2 : Cond.methodLink M.1 index y ∈ ax_WS) (hw3 : Cond.instanceMethod y ∈ ax_WS) (hw4 : Cond.selects y.cls y y ∈ ax_WS) (hy : ax_cy0 y As.length) (hdd : d2 + 1 ≤ d) (hml2 : M2.2.2.2.1 ≤ 40) (hst : ax_wd st ≤ 8) (hS0 : S = As.reverse ++ av_r (some b) :: st)
    (kk : AW M d bc bs (pc + 3) L (r.toList ++ st) σ1 z) : AW M d (bc + kc) (bs + ks) pc L S σ z := by
  refine ax_after ?_ kk
  intro X p l e R s m args below meth c H locs cells slots ls C hcs hs hH hS hL
  obtain ⟨hx, hb, hml, hown, hts, hret, hlk, hin, hdf, hdl, hok, hK, hG⟩ := id C
  obtain ⟨-, hsh⟩ := ax_sh_of hsh
  have ht : t < 8 := by
    cases hq : vwCl[t]? with
    | none => rw [hq] at hcl; cases hcl
    | some q => exact Nat.lt_of_lt_of_le (List.getElem?_eq_some_iff.mp hq).1 (by decide)
  obtain ⟨h8, q', hc', -, cell, q1, q2, q3, q4⟩ := ax_at_obj (hH.2.2 b t n hsh) ht
  rw [hc'] at hcl
  have hcl := Option.some.inj hcl
  simp only at hcl
  have hfc := (hK.1.1 t _ hc').2.1
  rw [hcl, ← q2] at hfc
  have hGI := ax_goodIn hw1.1
  have hB : CallB R s args M.1 index y M2.2.1 M2.2.2.2.1 M2.2.2.1 (Cond.code y M2.2.1 M2.2.2.2.1 M2.2.2.1 :: ax_WS) { frames := d2, cells := kc, slots := ks, locals := 64 * d2 } kc ks As.length := callB_of As.length hts hGI rfl rfl rfl (hts _ hw1.2) (hts _ hw2) hy ⟨by show d2 + 1 ≤ _; omega, by show 8 + (_ + 11) + 64 * d2 ≤ _; omega⟩
  refine ⟨(Value.ref (ax_ρ X b) :: As.map (ax_cv (ax_ρ X))).toArray, va_runV (C := y.cls) (b := ax_ρ X b) (As := As.map (ax_cv (ax_ρ X))) ⟨hx, hb, hml, hown, hts⟩ (hC X l hok) ⟨hB, hts _ hw3, hts _ hw4⟩ ⟨ax_blind, ⟨cell, q1, by rw [q3]; rfl, hfc⟩, ax_pcU C hH hS _⟩ rfl (by simp) hL.1 ?_ ?_ hd ⟨by omega, by omega⟩⟩
  · rw [hS0]
    simp [ax_cv, va_rf]
  · rw [ax_wd_eq]
    show 2 * 0 + _ ≤ 8
    omega
theorem ax_invS (hd : decode M.2.1 pc = .ok (.invokestatic index, 3)) (hC : AC M2 y d2 kc ks As σ (r, σ1)) (hw1 : ax_cw M2 y) (hw2 : Cond.methodLink M.1 index y ∈ ax_WS) (hw3 : Cond.static y ∈ ax_WS) (hy : ax_cy0 y As.length) (hdd : d2 + 1 ≤ d) (hml2 : M2.2.2.2.1 ≤ 40) (hst : ax_wd st ≤ 8) (hS0 : S = As.reverse ++ st)
    (kk : AW M d bc bs (pc + 3) L (r.toList ++ st) σ1 z) : AW M d (bc + kc) (bs + ks) pc L S σ z := by
  refine ax_after ?_ kk
  intro X p l e R s m args below meth c H locs cells slots ls C hcs hs hH hS hL
  obtain ⟨hx, hb, hml, hown, hts, hret, hlk, hin, hdf, hdl, hok, hK, hG⟩ := id C
  have hB : CallB R s args M.1 index y M2.2.1 M2.2.2.2.1 M2.2.2.1 (Cond.code y M2.2.1 M2.2.2.2.1 M2.2.2.1 :: ax_WS) { frames := d2, cells := kc, slots := ks, locals := 64 * d2 } kc ks As.length := callB_of As.length hts (ax_goodIn hw1.1) rfl rfl rfl (hts _ hw1.2) (hts _ hw2) hy ⟨by show d2 + 1 ≤ _; omega, by show 8 + (_ + 11) + 64 * d2 ≤ _; omega⟩
  refine ⟨(As.map (ax_cv (ax_ρ X))).toArray, va_runS (As := As.map (ax_cv (ax_ρ X))) ⟨hx, hb, hml, hown, hts⟩ (hC X l hok) ⟨hB, hts _ hw3⟩ ⟨ax_blind, ax_pcU C hH hS _⟩ rfl (by simp) hL.1 ?_ ?_ hd ⟨by omega, by omega⟩⟩
  · rw [hS0]
    simp
  · rw [ax_wd_eq]
    show 2 * 0 + _ ≤ 8
    omega
theorem ax_invSN {host : String} (hd : decode M.2.1 pc = .ok (.invokestatic index, 3)) (hC : AC M2 y d2 kc ks As σ (r, σ1)) (hw1 : ax_cw M2 y) (hw2 : Cond.methodLinkNest M.1 index y host ∈ ax_NW) (hw3 : Cond.static y ∈ ax_WS) (hy : ax_cy0 y As.length) (hdd : d2 + 1 ≤ d) (hml2 : M2.2.2.2.1 ≤ 40) (hst : ax_wd st ≤ 8) (hS0 : S = As.reverse ++ st)
    (kk : AW M d bc bs (pc + 3) L (r.toList ++ st) σ1 z) : AW M d (bc + kc) (bs + ks) pc L S σ z := by
  refine ax_after ?_ kk
  intro X p l e R s m args below meth c H locs cells slots ls C hcs hs hH hS hL
  obtain ⟨hx, hb, hml, hown, hts, hret, hlk, hin, hdf, hdl, hok, hK, hG⟩ := id C
  have hB : va_CN R s args M.1 index y host M2.2.1 M2.2.2.2.1 M2.2.2.1 (Cond.code y M2.2.1 M2.2.2.2.1 M2.2.2.1 :: ax_WS) { frames := d2, cells := kc, slots := ks, locals := 64 * d2 } kc ks As.length := va_cnB As.length hts (ax_goodIn hw1.1) rfl rfl rfl (hK.2.2.2.1 _ hw2) (hts _ hw1.2) hy ⟨by show d2 + 1 ≤ _; omega, by show 8 + (_ + 11) + 64 * d2 ≤ _; omega⟩
  refine ⟨(As.map (ax_cv (ax_ρ X))).toArray, va_runSN (As := As.map (ax_cv (ax_ρ X))) ⟨hx, hb, hml, hown, hts⟩ (hC X l hok) ⟨hB, hts _ hw3, trivial⟩ ⟨ax_blind, ax_pcU C hH hS _⟩ rfl (by simp) hL.1 ?_ ?_ hd ⟨by omega, by omega⟩⟩
  · rw [hS0]
    simp
  · rw [ax_wd_eq]
    show 2 * 0 + _ ≤ 8
    omega
theorem ax_invI {b : Nat} (hd : decode M.2.1 pc = .ok (.invokespecial index, 3)) (hC : AC M2 y d2 kc ks (av_r (some b) :: As) σ (none, σ1)) (hn : y.name = "<init>") (hr2 : M2.2.2.1 = none)
    (hw1 : ax_cw M2 y) (hw2 : Cond.methodLink M.1 index y ∈ ax_WS) (hw3 : Cond.instanceMethod y ∈ ax_WS) (hy : ax_cy0 y As.length) (hdd : d2 + 1 ≤ d) (hml2 : M2.2.2.2.1 ≤ 40) (hst : ax_wd st ≤ 8) (hS0 : S = As.reverse ++ av_r (some b) :: st)
    (kk : AW M d bc bs (pc + 3) L st σ1 z) : AW M d (bc + kc) (bs + ks) pc L S σ z := by
  refine ax_after (r := none) ?_ kk
  intro X p l e R s m args below meth c H locs cells slots ls C hcs hs hH hS hL
  obtain ⟨hx, hb, hml, hown, hts, hret, hlk, hin, hdf, hdl, hok, hK, hG⟩ := id C
  have hB : CallB R s args M.1 index y M2.2.1 M2.2.2.2.1 M2.2.2.1 (Cond.code y M2.2.1 M2.2.2.2.1 M2.2.2.1 :: ax_WS) { frames := d2, cells := kc, slots := ks, locals := 64 * d2 } kc ks As.length := callB_of As.length hts (ax_goodIn hw1.1) rfl rfl rfl (hts _ hw1.2) (hts _ hw2) hy ⟨by show d2 + 1 ≤ _; omega, by show 8 + (_ + 11) + 64 * d2 ≤ _; omega⟩
  have hM := hC X l hok
  rw [hr2] at hB hM
  refine ⟨(Value.ref (ax_ρ X b) :: As.map (ax_cv (ax_ρ X))).toArray, va_runI (b := ax_ρ X b) (As := As.map (ax_cv (ax_ρ X))) ⟨hx, hb, hml, hown, hts⟩ hM ⟨hB, hn, hts _ hw3⟩ ⟨ax_blind, ax_pcU C hH hS _⟩ rfl (by simp) hL.1 ?_ ?_ hd ⟨by omega, by omega⟩⟩
  · rw [hS0]
    simp [ax_cv, va_rf]
  · rw [ax_wd_eq]
    show 2 * 0 + _ ≤ 8
    omega
theorem ax_invIN {b : Nat} {host : String} (hd : decode M.2.1 pc = .ok (.invokespecial index, 3)) (hC : AC M2 y d2 kc ks (av_r (some b) :: As) σ (none, σ1)) (hn : y.name = "<init>") (hr2 : M2.2.2.1 = none)
    (hw1 : ax_cw M2 y) (hw2 : Cond.methodLinkNest M.1 index y host ∈ ax_NW) (hw3 : Cond.instanceMethod y ∈ ax_WS) (hy : ax_cy0 y As.length) (hdd : d2 + 1 ≤ d) (hml2 : M2.2.2.2.1 ≤ 40) (hst : ax_wd st ≤ 8) (hS0 : S = As.reverse ++ av_r (some b) :: st)
    (kk : AW M d bc bs (pc + 3) L st σ1 z) : AW M d (bc + kc) (bs + ks) pc L S σ z := by
  refine ax_after (r := none) ?_ kk
  intro X p l e R s m args below meth c H locs cells slots ls C hcs hs hH hS hL
  obtain ⟨hx, hb, hml, hown, hts, hret, hlk, hin, hdf, hdl, hok, hK, hG⟩ := id C
  have hB : va_CN R s args M.1 index y host M2.2.1 M2.2.2.2.1 M2.2.2.1 (Cond.code y M2.2.1 M2.2.2.2.1 M2.2.2.1 :: ax_WS) { frames := d2, cells := kc, slots := ks, locals := 64 * d2 } kc ks As.length := va_cnB As.length hts (ax_goodIn hw1.1) rfl rfl rfl (hK.2.2.2.1 _ hw2) (hts _ hw1.2) hy ⟨by show d2 + 1 ≤ _; omega, by show 8 + (_ + 11) + 64 * d2 ≤ _; omega⟩
  have hM := hC X l hok
  rw [hr2] at hB hM
  refine ⟨(Value.ref (ax_ρ X b) :: As.map (ax_cv (ax_ρ X))).toArray, va_runIN (b := ax_ρ X b) (As := As.map (ax_cv (ax_ρ X))) ⟨hx, hb, hml, hown, hts⟩ hM ⟨hB, hn, hts _ hw3⟩ ⟨ax_blind, ax_pcU C hH hS _⟩ rfl (by simp) hL.1 ?_ ?_ hd ⟨by omega, by omega⟩⟩
  · rw [hS0]
    simp [ax_cv, va_rf]
  · rw [ax_wd_eq]
    show 2 * 0 + _ ≤ 8
    omega
/-- Object() -/
theorem ax_obj {b : Nat} (hd : decode M.2.1 pc = .ok (.invokespecial index, 3)) (hw1 : Cond.methodLink M.1 index Lib.objectInit ∈ ax_WS) (hw2 : Cond.instanceMethod Lib.objectInit ∈ ax_WS) (hw3 : Cond.code Lib.objectInit ⟨#[0xb1]⟩ 1 none ∈ ax_WS) (hdd : 1 ≤ d) (hst : ax_wd st ≤ 8)
    (kk : AW M d bc bs (pc + 3) L st σ z) : AW M d bc bs pc L (av_r (some b) :: st) σ z := by
  intro X p l e R s m args below meth c H locs cells slots Q ls C hcs hs hH hS hL hE
  obtain ⟨hx, hb, hml, hown, hts, hret, hlk, hin, hdf, hdl, hok, hK, hG⟩ := id C
  refine W.objInit hx hb hown (hts _ hw1) (hts _ hw2) (hts _ hw3) rfl (hL.1.trans hml.symm) rfl hd (by omega) ?_ (kk X p l e R s m args below meth c H locs cells slots Q ls C hcs hs hH hS hL hE)
  rw [ax_wd_eq]
  show 2 * 0 + _ + 12 ≤ _
  omega
theorem ax_max {x v : Int32} (hd : decode M.2.1 pc = .ok (.invokestatic index, 3)) (hw1 : Cond.methodLink M.1 index Lib.Math.max.name ∈ ax_WS) (hw2 : Cond.static Lib.Math.max.name ∈ ax_WS) (hw3 : Cond.initialized "java/lang/Math" ∈ ax_WS) (hw4 : Cond.code Lib.Math.max.name Lib.Math.max.code 2 (some .int) ∈ ax_WS) (hdd : 1 ≤ d) (hst : ax_wd st ≤ 8)
    (kk : AW M d bc bs (pc + 3) L (av_i (if x < v then v else x) :: st) σ z) : AW M d bc bs pc L (av_i v :: av_i x :: st) σ z := by
  intro X p l e R s m args below meth c H locs cells slots Q ls C hcs hs hH hS hL hE
  obtain ⟨hx, hb, hml, hown, hts, hret, hlk, hin, hdf, hdl, hok, hK, hG⟩ := id C
  exact va_mmax hx hb (hml.trans hL.1.symm) hown (hts _ hw1) (hts _ hw2) (hts _ hw3) (hts _ hw4) (by omega) (by rw [ax_wd_eq]; omega) (by omega) (by omega) hd (kk X p l e R s m args below meth c H locs cells slots Q ls C hcs hs hH hS hL hE)
theorem ax_min {x v : Int32} (hd : decode M.2.1 pc = .ok (.invokestatic index, 3)) (hw1 : Cond.methodLink M.1 index Lib.Math.min.name ∈ ax_WS) (hw2 : Cond.static Lib.Math.min.name ∈ ax_WS) (hw3 : Cond.initialized "java/lang/Math" ∈ ax_WS) (hw4 : Cond.code Lib.Math.min.name Lib.Math.min.code 2 (some .int) ∈ ax_WS) (hdd : 1 ≤ d) (hst : ax_wd st ≤ 8)
    (kk : AW M d bc bs (pc + 3) L (av_i (if v < x then v else x) :: st) σ z) : AW M d bc bs pc L (av_i v :: av_i x :: st) σ z := by
  intro X p l e R s m args below meth c H locs cells slots Q ls C hcs hs hH hS hL hE
  obtain ⟨hx, hb, hml, hown, hts, hret, hlk, hin, hdf, hdl, hok, hK, hG⟩ := id C
  exact va_mmin hx hb (hml.trans hL.1.symm) hown (hts _ hw1) (hts _ hw2) (hts _ hw3) (hts _ hw4) (by omega) (by rw [ax_wd_eq]; omega) (by omega) (by omega) hd (kk X p l e R s m args below meth c H locs cells slots Q ls C hcs hs hH hS hL hE)
theorem ax_abs {x : Int32} (hd : decode M.2.1 pc = .ok (.invokestatic index, 3)) (hw1 : Cond.methodLink M.1 index Lib.Math.abs.name ∈ ax_WS) (hw2 : Cond.static Lib.Math.abs.name ∈ ax_WS) (hw3 : Cond.initialized "java/lang/Math" ∈ ax_WS) (hw4 : Cond.code Lib.Math.abs.name Lib.Math.abs.code 1 (some .int) ∈ ax_WS) (hdd : 1 ≤ d) (hst : ax_wd st ≤ 8)
    (kk : AW M d bc bs (pc + 3) L (av_i (if 0 ≤ x then x else 0 - x) :: st) σ z) : AW M d bc bs pc L (av_i x :: st) σ z := by
  intro X p l e R s m args below meth c H locs cells slots Q ls C hcs hs hH hS hL hE
  obtain ⟨hx, hb, hml, hown, hts, hret, hlk, hin, hdf, hdl, hok, hK, hG⟩ := id C
  exact va_mabs hx hb (hml.trans hL.1.symm) hown (hts _ hw1) (hts _ hw2) (hts _ hw3) (hts _ hw4) (by omega) (by rw [ax_wd_eq]; omega) (by omega) (by omega) hd (kk X p l e R s m args below meth c H locs cells slots Q ls C hcs hs hH hS hL hE)
/-- a static table of Kinds -/
theorem ax_gets {i : Nat} (hd : decode M.2.1 pc = .ok (.getstatic index, 3)) (hi : i < 6) (hw : Cond.fieldLink M.1 index RX2 (ax_kn i) "[I" ∈ ax_WS) (kk : AW M d bc bs (pc + 3) L (av_r (some i) :: st) σ z) : AW M d bc bs pc L st σ z := by
  intro X p l e R s m args below meth c H locs cells slots Q ls C hcs hs hH hS hL hE
  obtain ⟨hx, hb, hml, hown, hts, hret, hlk, hin, hdf, hdl, hok, hK, hG⟩ := id C
  exact va_gets hx hb (hG.1 i hi) hS hown (hts _ hw) (fun _ h => h) hd (kk X p l e R s m args below meth c H locs cells slots Q ls C hcs hs hH hS hL hE)
/-- the String constant, its fields, and the switch of compact strings -/
theorem ax_gets2 (hd : decode M.2.1 pc = .ok (.getstatic index, 3)) (hw : Cond.fieldLink M.1 index "java/lang/String" "COMPACT_STRINGS" "Z" ∈ ax_WS) (kk : AW M d bc bs (pc + 3) L (av_i 1 :: st) σ z) : AW M d bc bs pc L st σ z := by
  intro X p l e R s m args below meth c H locs cells slots Q ls C hcs hs hH hS hL hE
  obtain ⟨hx, hb, hml, hown, hts, hret, hlk, hin, hdf, hdl, hok, hK, hG⟩ := id C
  exact va_gets hx hb hG.2.1 hS hown (hts _ hw) (fun _ h => h) hd (kk X p l e R s m args below meth c H locs cells slots Q ls C hcs hs hH hS hL hE)
theorem ax_ldcS (hd : decode M.2.1 pc = .ok (.ldc 68, 2)) (hM : M.1 = RX6) (kk : AW M d bc bs (pc + 2) L (av_r (some 8) :: st) σ z) : AW M d bc bs pc L st σ z := by
  intro X p l e R s m args below meth c H locs cells slots Q ls C hcs hs hH hS hL hE
  obtain ⟨hx, hb, hml, hown, hts, hret, hlk, hin, hdf, hdl, hok, hK, hG⟩ := id C
  rw [hM] at hown
  exact va_ldcS hx hb hown hK.2.2.2.2.1 hd (kk X p l e R s m args below meth c H locs cells slots Q ls C hcs hs hH hS hL hE)
theorem ax_getSc (hd : decode M.2.1 pc = .ok (.getfield index, 3)) (hw : Cond.fieldLink M.1 index "java/lang/String" "coder" "B" ∈ ax_WS) (kk : AW M d bc bs (pc + 3) L (av_i 0 :: st) σ z) : AW M d bc bs pc L (av_r (some 8) :: st) σ z := by
  intro X p l e R s m args below meth c H locs cells slots Q ls C hcs hs hH hS hL hE
  obtain ⟨hx, hb, hml, hown, hts, hret, hlk, hin, hdf, hdl, hok, hK, hG⟩ := id C
  exact vk_getf hx hb hG.2.2.2.1 hS hown (hts _ hw) (fun _ h => h) hd (kk X p l e R s m args below meth c H locs cells slots Q ls C hcs hs hH hS hL hE)
theorem ax_getSv (hd : decode M.2.1 pc = .ok (.getfield index, 3)) (hw : Cond.fieldLink M.1 index "java/lang/String" "value" "[B" ∈ ax_WS) (kk : AW M d bc bs (pc + 3) L (av_r (some 7) :: st) σ z) : AW M d bc bs pc L (av_r (some 8) :: st) σ z := by
  intro X p l e R s m args below meth c H locs cells slots Q ls C hcs hs hH hS hL hE
  obtain ⟨hx, hb, hml, hown, hts, hret, hlk, hin, hdf, hdl, hok, hK, hG⟩ := id C
  exact vk_getf hx hb hG.2.2.2.2 hS hown (hts _ hw) (fun _ h => h) hd (kk X p l e R s m args below meth c H locs cells slots Q ls C hcs hs hH hS hL hE)
/-- a call of the String constant -/
theorem ax_invVS (hd : decode M.2.1 pc = .ok (.invokevirtual index, 3)) (hC : AC M2 y d2 kc ks (av_r (some 8) :: As) σ (r, σ1)) (hcl : y.cls = "java/lang/String")
    (hw1 : ax_cw M2 y) (hw2 : Cond.methodLink M.1 index y ∈ ax_WS) (hw3 : Cond.instanceMethod y ∈ ax_WS) (hw4 : Cond.selects y.cls y y ∈ ax_WS) (hy : ax_cy0 y As.length) (hdd : d2 + 1 ≤ d) (hml2 : M2.2.2.2.1 ≤ 40) (hst : ax_wd st ≤ 8) (hS0 : S = As.reverse ++ av_r (some 8) :: st)
    (kk : AW M d bc bs (pc + 3) L (r.toList ++ st) σ1 z) : AW M d (bc + kc) (bs + ks) pc L S σ z := by
  refine ax_after ?_ kk
  intro X p l e R s m args below meth c H locs cells slots ls C hcs hs hH hS hL
  obtain ⟨hx, hb, hml, hown, hts, hret, hlk, hin, hdf, hdl, hok, hK, hG⟩ := id C
  obtain ⟨cell, g1, g2, g3, -⟩ := hG.2.2.1.kept hS.2.1
  rw [← hcl] at g3
  have hB : CallB R s args M.1 index y M2.2.1 M2.2.2.2.1 M2.2.2.1 (Cond.code y M2.2.1 M2.2.2.2.1 M2.2.2.1 :: ax_WS) { frames := d2, cells := kc, slots := ks, locals := 64 * d2 } kc ks As.length := callB_of As.length hts (ax_goodIn hw1.1) rfl rfl rfl (hts _ hw1.2) (hts _ hw2) hy ⟨by show d2 + 1 ≤ _; omega, by show 8 + (_ + 11) + 64 * d2 ≤ _; omega⟩
  refine ⟨(Value.ref (ax_ρ X 8) :: As.map (ax_cv (ax_ρ X))).toArray, va_runV (C := y.cls) (b := ax_ρ X 8) (As := As.map (ax_cv (ax_ρ X))) ⟨hx, hb, hml, hown, hts⟩ (hC X l hok) ⟨hB, hts _ hw3, hts _ hw4⟩ ⟨ax_blind, ⟨cell, g1, g2, g3⟩, ax_pcU C hH hS _⟩ rfl (by simp) hL.1 ?_ ?_ hd ⟨by omega, by omega⟩⟩
  · rw [hS0]
    simp [ax_cv, va_rf]
  · rw [ax_wd_eq]
    show 2 * 0 + _ ≤ 8
    omega
end AXC
