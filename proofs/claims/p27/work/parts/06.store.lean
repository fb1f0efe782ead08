/-! ===== an abstract store, and how the heap holds it ===== -/
abbrev ax_V : Type := Int32 ⊕ (Int64 ⊕ Option Nat)
abbrev av_i (x : Int32) : ax_V := .inl x
abbrev av_l (x : Int64) : ax_V := .inr (.inl x)
abbrev av_r (r : Option Nat) : ax_V := .inr (.inr r)
def ax_cv (ρ : Nat → Nat) : ax_V → Value
  | .inl x => .int x
  | .inr (.inl x) => .long x
  | .inr (.inr r) => va_rf (r.map ρ)
/-- shapes (kind, length) by address; ints; references -/
abbrev ax_S : Type := List (Nat × Nat) × (Nat → Nat → Int32) × (Nat → Nat → Option Nat)
def ax_ty (t k : Nat) : FieldType := match t with
  | 0 => tyX0 k
  | 1 => tyX1 k
  | 2 => tyX3 k
  | 3 => tyX5 k
  | 4 => tyX6 k
  | 5 => tyX8 k
  | 6 => tyX9 k
  | 8 => .byte
  | 9 => .int
  | 10 => .boolean
  | 11 => .object RX1
  | 12 => .object RX3
  | _ => .object RX5
def ax_isI (t k : Nat) : Bool := match ax_ty t k with
  | .int => true
  | .boolean => true
  | .byte => true
  | _ => false
def ax_sv (σ : ax_S) (t a k : Nat) : ax_V := if ax_isI t k = true then av_i (σ.2.1 a k) else av_r (σ.2.2 a k)
/-- the context: classes and slots; array classes; addresses; the static cells; the first own address -/
abbrev ax_X : Type := va_G × (Nat → ClassId) × (Nat → Nat) × (Nat → Cell) × Nat
abbrev ax_ρ (X : ax_X) : Nat → Nat := X.2.2.1
abbrev ax_c (X : ax_X) : Nat → Cell := X.2.2.2.1
abbrev ax_b (X : ax_X) : Nat := X.2.2.2.2
def ax_A (X : ax_X) : Nat → Prop := fun q => ax_b X ≤ q
def ax_ok (X : ax_X) : Prop := (∀ a : Nat, 9 ≤ a → ax_ρ X a = ax_b X + (a - 9)) ∧ ∀ a : Nat, a < 9 → ax_ρ X a < ax_b X
def ax_at (X : ax_X) (σ : ax_S) (H : Heap) (a t n : Nat) : Prop :=
  if a < 8 then t = (if a = 7 then 8 else 9) ∧ H[ax_ρ X a]? = some (ax_c X a) ∧ (n ≤ (ax_c X a).slots.size ∧ (ax_c X a).slots.size.toInt32 = Int32.ofNat n) ∧ (ax_c X a).vm ≠ .unknown ∧ ∀ j : Nat, j < n → (ax_c X a).slots[j]? = some (ax_cv (ax_ρ X) (ax_sv σ t a j))
  else if a = 8 then t = 99
  else if t < 8 then ∃ r : vw_C, vwCl[t]? = some r ∧ n = r.2.2 ∧ t_OB (ax_ρ X a) (X.1.1 t) r.2.2 (X.1.2 t) H (fun k => ax_cv (ax_ρ X) (ax_sv σ t a k))
  else t < 14 ∧ H[ax_ρ X a]? = some (arrV (X.2.1 t) n (fun j => ax_cv (ax_ρ X) (ax_sv σ t a j)))
def ax_H (X : ax_X) (σ : ax_S) (H : Heap) : Prop := 9 ≤ σ.1.length ∧ H.size = ax_b X + (σ.1.length - 9) ∧ ∀ a t n : Nat, σ.1[a]? = some (t, n) → ax_at X σ H a t n
def ax_isN : Cond → Bool
  | .methodLinkNest .. => true
  | .fieldLinkNest .. => true
  | _ => false
def ax_NW : List Cond := lw_tbl.filter ax_isN
def ax_WS : List Cond := lw_tbl.filter goodWord
def ax_K (X : ax_X) (s : State) : Prop := va_K X.1 vwCl [] s ∧ (∀ t : Nat, 8 ≤ t → t < 14 → ArrOfT s (X.2.1 t) (ax_ty t 0) ∧ va_RA s (X.2.1 t) (ax_ty t 0)) ∧ (∀ a : Nat, a < 8 → s.isArrayOf (ax_c X a) (if a = 7 then .byte else .int)) ∧ (∀ w ∈ ax_NW, va_Nw w s) ∧ vk_R RX6 68 "sgtilkbn" (ax_ρ X 8) s ∧ va_AO RX1 s ∧ va_AO RX3 s ∧ va_AO RX5 s
theorem ax_K.moved {X : ax_X} {s U : State} (hW : s.WarmedH U.vm) (h : ax_K X s) : ax_K X U := by
  obtain ⟨h1, h2, h3, h4, h5, h6, h7, h8⟩ := h
  refine ⟨va_K.moved hW.alike h1, fun t a b => ⟨arrOfT_moved hW.alike (h2 t a b).1, (h2 t a b).2.moved hW.alike⟩, fun a ha => State.isArrayOf_alike hW.alike (h3 a ha), fun w hw => ?_, h5.warm hW, va_AO.moved hW.alike h6, va_AO.moved hW.alike h7, va_AO.moved hW.alike h8⟩
  have hn := (List.mem_filter.mp hw).2
  have hz := h4 w hw
  cases w with
  | methodLinkNest a i x h => exact va_Nw.warmM hW hz
  | fieldLinkNest a i b n d h => exact va_Nw.warmF hW hz
  | _ => cases hn
def ax_kn : Nat → String
  | 0 => "INPUTS"
  | 1 => "PARAMETERS"
  | 2 => "NUMBERS"
  | 3 => "LOWEST"
  | 4 => "HIGHEST"
  | _ => "AT_FIRST"
def ax_G (X : ax_X) (U : State) (H : Heap) : Prop := (∀ i : Nat, i < 6 → va_Z RX2 (ax_kn i) "[I" (.ref (ax_ρ X i)) (ax_A X) U H) ∧ va_Z "java/lang/String" "COMPACT_STRINGS" "Z" (.int 1) (ax_A X) U H ∧ va_O "java/lang/String" (ax_ρ X 8) (ax_A X) U H ∧ va_OF "java/lang/String" "coder" "B" (.int 0) (ax_ρ X 8) (ax_A X) U H ∧ va_OF "java/lang/String" "value" "[B" (.ref (ax_ρ X 7)) (ax_ρ X 8) (ax_A X) U H
theorem ax_G.moved {X : ax_X} {u U : State} {H : Heap} (hvm : u.vm.Alike U.vm) (h : ax_G X u H) : ax_G X U H := ⟨fun i hi => (h.1 i hi).moved hvm, va_Z.moved hvm h.2.1, va_O.moved hvm h.2.2.1, va_OF.moved hvm h.2.2.2.1, va_OF.moved hvm h.2.2.2.2⟩
theorem ax_G.kept {X : ax_X} {U : State} {H H1 : Heap} (h : ax_G X U H) (hq : ∀ a : Nat, a < H.size → ¬ ax_A X a → H1[a]? = H[a]?) : ax_G X U H1 := ⟨fun i hi => (h.1 i hi).kept hq, h.2.1.kept hq, h.2.2.1.kept hq, h.2.2.2.1.kept hq, h.2.2.2.2.kept hq⟩
def ax_L (X : ax_X) (nL : Nat) (ls : Array Slot) (L : List (Option ax_V)) : Prop := ls.size = nL ∧ lv_wf ls ∧ ∀ (i : Nat) (v : ax_V), L[i]? = some (some v) → ls[i]? = some (.val (ax_cv (ax_ρ X) v))
def ax_lv (ρ : Nat → Nat) (L : List (Option ax_V)) : List (Nat × Value) := (List.range L.length).filterMap (fun j => match L[j]? with
  | some (some v) => some (j, ax_cv ρ v)
  | _ => none)
theorem ax_lv_mem {ρ : Nat → Nat} {L : List (Option ax_V)} {q : Nat × Value} : q ∈ ax_lv ρ L ↔ ∃ v, L[q.1]? = some (some v) ∧ q.2 = ax_cv ρ v := by
  unfold ax_lv
  rw [List.mem_filterMap]
  constructor
  · rintro ⟨j, -, h⟩
    split at h
    · rename_i v hv
      cases h
      exact ⟨v, hv, rfl⟩
    · cases h
  · rintro ⟨v, hv, e⟩
    refine ⟨q.1, List.mem_range.mpr (List.getElem?_eq_some_iff.mp hv).1, ?_⟩
    rw [hv]
    obtain ⟨a, b⟩ := q
    cases e
    rfl
theorem ax_lv_has {X : ax_X} {nL : Nat} {ls : Array Slot} {L : List (Option ax_V)} (h : ax_L X nL ls L) : lv_has ls nL (ax_lv (ax_ρ X) L) := by
  refine ⟨h.1, h.2.1, fun q hq => ?_⟩
  obtain ⟨v, hv, e⟩ := ax_lv_mem.mp hq
  rw [e]
  exact h.2.2 _ _ hv
theorem ax_cat (ρ : Nat → Nat) (v : ax_V) : (ax_cv ρ v).category = match v with
    | .inr (.inl _) => 2
    | _ => 1 := by
  rcases v with x | x | r
  · rfl
  · rfl
  · cases r <;> rfl
/-- the place before isn't a long's -/
def ax_st (L : List (Option ax_V)) : Nat → Bool
  | 0 => true
  | j + 1 => match L[j]? with
    | some (some (.inr (.inl _))) => false
    | _ => true
theorem ax_L.set1 {X : ax_X} {nL i : Nat} {ls : Array Slot} {L : List (Option ax_V)} {v : ax_V} (hst : ax_st L i = true) (h : lv_has ls nL ((i, ax_cv (ax_ρ X) v) :: (ax_lv (ax_ρ X) L).filter (fun q => !(q.1 == i) && !(q.1 + 1 == i && q.2.category == 2)))) : ax_L X nL ls (L.set i (some v)) := by
  refine ⟨h.1, h.2.1, fun j w hw => ?_⟩
  by_cases hj : j = i
  · subst hj
    have hl : j < L.length := by
      have := (List.getElem?_eq_some_iff.mp hw).1
      simpa using this
    rw [List.getElem?_set_self hl] at hw
    cases hw
    exact h.2.2 (j, _) List.mem_cons_self
  · rw [List.getElem?_set_ne (fun q => hj q.symm)] at hw
    refine h.2.2 (j, ax_cv (ax_ρ X) w) (List.mem_cons_of_mem _ (List.mem_filter.mpr ⟨ax_lv_mem.mpr ⟨w, hw, rfl⟩, ?_⟩))
    have h1 : ((j == i) : Bool) = false := by simp [hj]
    show (!(j == i) && !(j + 1 == i && (ax_cv (ax_ρ X) w).category == 2)) = true
    rw [h1]
    by_cases hji : j + 1 = i
    · subst hji
      have hc : (ax_cv (ax_ρ X) w).category = 1 := by
        rw [ax_cat]
        simp only [ax_st, hw] at hst
        rcases w with x | x | r
        · rfl
        · simp at hst
        · rfl
      rw [hc]
      simp
    · have h2 : ((j + 1 == i) : Bool) = false := by simp [hji]
      rw [h2]
      rfl
theorem ax_L.set2 {X : ax_X} {nL i : Nat} {ls : Array Slot} {L : List (Option ax_V)} {v : ax_V} (hst : ax_st L i = true) (h : lv_has ls nL ((i, ax_cv (ax_ρ X) v) :: (ax_lv (ax_ρ X) L).filter (fun q => !(q.1 == i) && (!(q.1 == i + 1) && !(q.1 + 1 == i && q.2.category == 2))))) : ax_L X nL ls ((L.set i (some v)).set (i + 1) none) := by
  refine ⟨h.1, h.2.1, fun j w hw => ?_⟩
  have hj1 : j ≠ i + 1 := by
    intro e
    subst e
    have hl : i + 1 < ((L.set i (some v)).set (i + 1) none).length := (List.getElem?_eq_some_iff.mp hw).1
    rw [List.getElem?_set_self (by simpa using hl)] at hw
    cases hw
  rw [List.getElem?_set_ne (fun q => hj1 q.symm)] at hw
  by_cases hj : j = i
  · subst hj
    have hl : j < L.length := by
      have := (List.getElem?_eq_some_iff.mp hw).1
      simpa using this
    rw [List.getElem?_set_self hl] at hw
    cases hw
    exact h.2.2 (j, _) List.mem_cons_self
  · rw [List.getElem?_set_ne (fun q => hj q.symm)] at hw
    refine h.2.2 (j, ax_cv (ax_ρ X) w) (List.mem_cons_of_mem _ (List.mem_filter.mpr ⟨ax_lv_mem.mpr ⟨w, hw, rfl⟩, ?_⟩))
    have h1 : ((j == i) : Bool) = false := by simp [hj]
    have h3 : ((j == i + 1) : Bool) = false := by simp [hj1]
    show (!(j == i) && (!(j == i + 1) && !(j + 1 == i && (ax_cv (ax_ρ X) w).category == 2))) = true
    rw [h1, h3]
    by_cases hji : j + 1 = i
    · subst hji
      have hc : (ax_cv (ax_ρ X) w).category = 1 := by
        rw [ax_cat]
        simp only [ax_st, hw] at hst
        rcases w with x | x | r
        · rfl
        · simp at hst
        · rfl
      rw [hc]
      simp
    · have h2 : ((j + 1 == i) : Bool) = false := by simp [hji]
      rw [h2]
      rfl
/-- a method: its class, its code, what it returns, its locals, whether it is a constructor -/
abbrev ax_M : Type := String × ByteArray × Option FieldType × Nat × Bool
def ax_C (X : ax_X) (M : ax_M) (d : Nat) (p : Program) (R : Room) (s : State) (m : MethodId) (args : Array Value) (meth : Method) (c : Code) : Prop :=
  p.tables.exec = Jvm.exec ∧ c.code = M.2.1 ∧ c.maxLocals = M.2.2.2.1 ∧ s.vm.findClass M.1 = some m.cls ∧ (∀ w ∈ ax_WS, w.before args s = true) ∧ meth.sig.returnType = M.2.2.1 ∧ meth.locks = false ∧ (M.2.2.2.2 = true → meth.name = "<init>") ∧ d ≤ R.frames ∧ 64 * d ≤ R.locals ∧ ax_ok X ∧ ax_K X s ∧ ax_G X s s.heap
def ax_ri : Option FieldType → Instr
  | none => .return_
  | some .long => .lreturn
  | some (.object _) => .areturn
  | some (.array _) => .areturn
  | _ => .ireturn
def AW (M : ax_M) (d bc bs pc : Nat) (L : List (Option ax_V)) (st : List ax_V) (σ : ax_S) (z : Option ax_V × ax_S) : Prop :=
  ∀ (X : ax_X) (p : Program) (l : Launch) (e : Env) (R : Room) (s : State) (m : MethodId) (args : Array Value) (below : List Frame) (meth : Method) (c : Code) (H : Heap) (locs : List Loc) (cells slots : Nat) (Q : State → Prop) (ls : Array Slot),
    ax_C X M d p R s m args meth c → cells + bc ≤ R.cells → slots + bs ≤ R.slots → ax_H X σ H → va_S (ax_A X) s.heap H locs → ax_L X M.2.2.2.1 ls L →
    (∀ (pc' : Nat) (ls' : Array Slot) (H' : Heap) (locs' : List Loc), ax_H X z.2 H' → va_S (ax_A X) s.heap H' locs' → decode M.2.1 pc' = .ok (ax_ri M.2.2.1, 1) → W p l e R s m args below meth c H' locs' R.cells R.slots Q (F0 m pc' ls' (z.1.toList.map (ax_cv (ax_ρ X))))) →
    W p l e R s m args below meth c H locs cells slots Q (F0 m pc ls (st.map (ax_cv (ax_ρ X))))
