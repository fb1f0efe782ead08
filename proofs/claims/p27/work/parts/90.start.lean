/-! ===== the law's start: from the function's answer to the machine ===== -/
theorem ax_given_tab : ∀ i, i < 6 → (∀ j, j < ax_tn i → Cond.eq (.elem (.static RX2 (ax_kn i) "[I") (.int (Int32.ofNat j))) (.int ((ax_tab.getD i []).getD j 0)) ∈ flatC (Jvm.Cond.and given_1 narrow_1)) ∧ Cond.arrayOf (.static RX2 (ax_kn i) "[I") .int ∈ flatC (Jvm.Cond.and given_1 narrow_1) ∧ Cond.eq (.length (.static RX2 (ax_kn i) "[I")) (.int (Int32.ofNat (ax_tn i))) ∈ flatC (Jvm.Cond.and given_1 narrow_1) := by decide +kernel
theorem ax_given_str : (∀ j, j < 8 → Cond.eq (.elem (.field (.string RX6 68) "java/lang/String" "value" "[B") (.int (Int32.ofNat j))) (.int (ax_chars.getD j 0)) ∈ flatC (Jvm.Cond.and given_1 narrow_1)) ∧ Cond.exactly (.string RX6 68) "java/lang/String" ∈ flatC (Jvm.Cond.and given_1 narrow_1) ∧ Cond.eq (.field (.string RX6 68) "java/lang/String" "coder" "B") (.int 0) ∈ flatC (Jvm.Cond.and given_1 narrow_1) ∧ Cond.arrayOf (.field (.string RX6 68) "java/lang/String" "value" "[B") .byte ∈ flatC (Jvm.Cond.and given_1 narrow_1) ∧ Cond.eq (.length (.field (.string RX6 68) "java/lang/String" "value" "[B")) (.int (Int32.ofNat 8)) ∈ flatC (Jvm.Cond.and given_1 narrow_1) ∧ Cond.eq (.static "java/lang/String" "COMPACT_STRINGS" "Z") (.int 1) ∈ flatC (Jvm.Cond.and given_1 narrow_1) := by decide +kernel
theorem ax_tbl_st : (∀ i, i < 6 → Cond.laysStatic RX2 (ax_kn i) "[I" ∈ lw_tbl) ∧ Cond.initialized RX2 ∈ lw_tbl ∧ Cond.laysStatic "java/lang/String" "COMPACT_STRINGS" "Z" ∈ lw_tbl ∧ Cond.initialized "java/lang/String" ∈ lw_tbl ∧ Cond.stringRef RX6 68 "sgtilkbn" ∈ lw_tbl ∧ (∀ q ∈ vwCl, Cond.instantiable q.1 q.2.2 ∈ lw_tbl) ∧ Cond.arrayClass .byte ∈ lw_tbl ∧ Cond.arrayClass .int ∈ lw_tbl ∧ Cond.arrayClass .boolean ∈ lw_tbl ∧ Cond.arrayOver (.object RX1) ∈ lw_tbl ∧ Cond.arrayOver (.object RX3) ∈ lw_tbl ∧ Cond.arrayOver (.object RX5) ∈ lw_tbl := by
  refine ⟨by decide +kernel, by decide +kernel, by decide +kernel, by decide +kernel, by decide +kernel, ?_, by decide +kernel, by decide +kernel, by decide +kernel, by decide +kernel, by decide +kernel, by decide +kernel⟩
  intro q hq
  simp only [vwCl, List.mem_cons, List.not_mem_nil, or_false] at hq
  rcases hq with rfl | rfl | rfl | rfl | rfl | rfl | rfl <;> decide +kernel
/-- an array class of a primitive type -/
theorem ax_arrP {s : State} {args : Array Value} {ty : FieldType} (h : (Cond.arrayClass ty).before args s = true) : ∃ cA : ClassId, ArrOfT s cA ty ∧ s.vm.findClass ("[" ++ ty.toString) = some cA := by
  obtain ⟨cA, kA, comp, h1, h2, h3⟩ := Cond.arrayClass_spec h
  exact ⟨cA, fun n z => ⟨fun k h => (by cases h), kA, h2, comp, h3⟩, h1⟩
theorem ax_arrR {s : State} {args : Array Value} {C : String} (h : (Cond.arrayOver (.object C)).before args s = true) : ∃ cA : ClassId, ArrOfT s cA (.object C) ∧ va_RA s cA (.object C) := by
  obtain ⟨comp, cA, kA, h1, -, h2, h3, h4⟩ := Cond.arrayOver_spec h
  exact ⟨cA, fun n z => ⟨fun k h => (by cases h), kA, h2, comp, h3⟩, kA, comp, h2, h3, h1, h4⟩
theorem ax_s0_sh {n : Nat} {xs : Nat → Int32} : ∀ {a t m : Nat}, (ax_s0 n xs).1[a]? = some (t, m) → (a < 6 ∧ t = 9 ∧ m = ax_tn a) ∨ (a = 6 ∧ t = 9 ∧ m = n) ∨ (a = 7 ∧ t = 8 ∧ m = 8) ∨ (a = 8 ∧ t = 99)
  | 0, t, m, h => by cases h; exact Or.inl ⟨by omega, rfl, rfl⟩
  | 1, t, m, h => by cases h; exact Or.inl ⟨by omega, rfl, rfl⟩
  | 2, t, m, h => by cases h; exact Or.inl ⟨by omega, rfl, rfl⟩
  | 3, t, m, h => by cases h; exact Or.inl ⟨by omega, rfl, rfl⟩
  | 4, t, m, h => by cases h; exact Or.inl ⟨by omega, rfl, rfl⟩
  | 5, t, m, h => by cases h; exact Or.inl ⟨by omega, rfl, rfl⟩
  | 6, t, m, h => by cases h; exact Or.inr (Or.inl ⟨rfl, rfl, rfl⟩)
  | 7, t, m, h => by cases h; exact Or.inr (Or.inr (Or.inl ⟨rfl, rfl, rfl⟩))
  | 8, t, m, h => by cases h; exact Or.inr (Or.inr (Or.inr ⟨rfl, rfl⟩))
  | a + 9, t, m, h => by
    have hlt : a + 9 < 9 := (List.getElem?_eq_some_iff.mp h).1
    omega
theorem ax_H0 {D : va_G} {ty : Nat → ClassId} {ρ : Nat → Nat} {cs : Nat → Cell} {H : Heap} {n b av B : Nat} {xs : Nat → Int32} {tf : Nat → Nat × Cell} {cellX cellV : Cell} (r5 : ∀ a, a < 6 → ρ a = (tf a).1) (r6 : ρ 6 = b) (r7 : ρ 7 = av) (c5 : ∀ a, a < 6 → cs a = (tf a).2) (c6 : cs 6 = cellX) (c7 : cs 7 = cellV)
    (ht : ∀ a, a < 6 → H[(tf a).1]? = some (tf a).2 ∧ (tf a).2.vm ≠ .unknown ∧ (ax_tn a ≤ (tf a).2.slots.size ∧ (tf a).2.slots.size.toInt32 = Int32.ofNat (ax_tn a)) ∧ ∀ j : Nat, j < ax_tn a → (tf a).2.slots[j]? = some (.int ((ax_tab.getD a []).getD j 0)))
    (hx : H[b]? = some cellX ∧ cellX.vm ≠ .unknown ∧ cellX.slots.size = n ∧ ∀ j : Nat, j < n → cellX.slots[j]? = some (.int (xs j)))
    (hv : H[av]? = some cellV ∧ cellV.vm ≠ .unknown ∧ 8 ≤ cellV.slots.size ∧ cellV.slots.size.toInt32 = Int32.ofNat 8 ∧ ∀ j : Nat, j < 8 → cellV.slots[j]? = some (.int (ax_chars.getD j 0)))
    {a t m : Nat} (ha : (ax_s0 n xs).1[a]? = some (t, m)) : ax_at (D, ty, ρ, cs, B) (ax_s0 n xs) H a t m := by
  unfold ax_at
  rcases ax_s0_sh ha with ⟨h6, rfl, rfl⟩ | ⟨rfl, rfl, rfl⟩ | ⟨rfl, rfl, rfl⟩ | ⟨rfl, rfl⟩
  · rw [if_pos (by omega), if_neg (by omega)]
    obtain ⟨e1, e2, e3, e4⟩ := ht a h6
    have hi : (ax_s0 n xs).2.1 a = fun j => (ax_tab.getD a []).getD j 0 := by
      funext j
      show (if a = 6 then xs j else if a = 7 then _ else _) = _
      rw [if_neg (by omega), if_neg (by omega)]
    refine ⟨rfl, ?_⟩
    show H[ρ a]? = some (cs a) ∧ _
    refine ⟨by rw [r5 a h6, c5 a h6]; exact e1, ?_⟩
    show (ax_tn a ≤ (cs a).slots.size ∧ (cs a).slots.size.toInt32 = _) ∧ (cs a).vm ≠ _ ∧ ∀ j : Nat, j < ax_tn a → (cs a).slots[j]? = _
    rw [c5 a h6]
    refine ⟨e3, e2, fun j hj => (e4 j hj).trans ?_⟩
    unfold ax_sv
    rw [if_pos (show ax_isI 9 j = true from rfl), hi]
    rfl
  · rw [if_pos (by omega), if_neg (by omega)]
    obtain ⟨e1, e2, e3, e4⟩ := hx
    refine ⟨rfl, ?_⟩
    show H[ρ 6]? = some (cs 6) ∧ (m ≤ (cs 6).slots.size ∧ (cs 6).slots.size.toInt32 = _) ∧ (cs 6).vm ≠ _ ∧ ∀ j : Nat, j < m → (cs 6).slots[j]? = _
    rw [r6, c6]
    exact ⟨e1, ⟨Nat.le_of_eq e3.symm, by rw [e3] <;> rfl⟩, e2, fun j hj => e4 j hj⟩
  · rw [if_pos (by omega), if_pos rfl]
    obtain ⟨e1, e2, e3, e4, e5⟩ := hv
    refine ⟨rfl, ?_⟩
    show H[ρ 7]? = some (cs 7) ∧ (8 ≤ (cs 7).slots.size ∧ (cs 7).slots.size.toInt32 = _) ∧ (cs 7).vm ≠ _ ∧ ∀ j : Nat, j < 8 → (cs 7).slots[j]? = _
    rw [r7, c7]
    exact ⟨e1, ⟨e3, e4⟩, e2, fun j hj => e5 j hj⟩
  · rw [if_neg (by omega), if_pos rfl]
set_option maxHeartbeats 4000000 in
set_option maxRecDepth 100000 in
theorem ax_start {s : State} {b n : Nat} {xs : Nat → Int32} (hts : ∀ w ∈ lw_tbl, w.before #[Value.ref b] s = true) (hX : va_X b n xs s s.heap) (hbl : b < s.heap.size) (hgv : (Jvm.Cond.and given_1 narrow_1).before #[Value.ref b] s = true) :
    ∃ X : ax_X, ax_b X = s.heap.size ∧ ax_ρ X 6 = b ∧ ax_ok X ∧ ax_K X s ∧ ax_G X s s.heap ∧ ax_H X (ax_s0 n xs) s.heap := by
  have hg := flat_of_before _ hgv
  have hg : ∀ c ∈ flatC (Jvm.Cond.and given_1 narrow_1), c.before #[Value.ref b] s = true := hg
  obtain ⟨t1, t2, t3, t4, t5, t6, t7, t8, t9, t10, t11, t12⟩ := ax_tbl_st
  obtain ⟨g1, g2, g3, g4, g5, g6⟩ := ax_given_str
  have hA : ∀ a : Nat, a < s.heap.size → ¬ (fun q : Nat => s.heap.size ≤ q) a := fun a h => Nat.not_le.mpr h
  -- classes
  have hcl : ∀ k : Nat, ∃ u : ClassId × (Nat → Nat), ∀ q : vw_C, vwCl[k]? = some q → u_Kn s q.1 q.2.1 q.2.2 u.1 u.2 := by
    intro k
    cases hq : vwCl[k]? with
    | none => exact ⟨(0, fun _ => 0), fun q h => by cases h⟩
    | some q =>
      obtain ⟨h1, h2, h3⟩ := ax_cls hq
      have hts' : ∀ w ∈ u_ws q.1 q.2.1 q.2.2, w.before #[Value.ref b] s = true := fun w hw => hts w (List.mem_filter.mp (h1 w hw)).1
      obtain ⟨cC, iS, hKn⟩ := u_known hts' (fun w h => h) (hts _ (t6 q (List.mem_of_getElem? hq)))
      exact ⟨(cC, iS), fun q' h => by cases h; exact hKn⟩
  obtain ⟨cf, hcl2⟩ := Classical.axiomOfChoice hcl
  -- arrays
  obtain ⟨a8, u8, v8⟩ := ax_arrP (hts _ t7)
  obtain ⟨a9, u9, v9⟩ := ax_arrP (hts _ t8)
  obtain ⟨a10, u10, v10⟩ := ax_arrP (hts _ t9)
  obtain ⟨a11, u11, v11⟩ := ax_arrR (hts _ t10)
  obtain ⟨a12, u12, v12⟩ := ax_arrR (hts _ t11)
  obtain ⟨a13, u13, v13⟩ := ax_arrR (hts _ t12)
  obtain ⟨ty, y8, y9, y10, y11, y12, y13⟩ : ∃ ty : Nat → ClassId, ty 8 = a8 ∧ ty 9 = a9 ∧ ty 10 = a10 ∧ ty 11 = a11 ∧ ty 12 = a12 ∧ ty 13 = a13 := ⟨fun t => if t = 8 then a8 else if t = 9 then a9 else if t = 10 then a10 else if t = 11 then a11 else if t = 12 then a12 else a13, rfl, rfl, rfl, rfl, rfl, rfl⟩
  -- tables
  have htb : ∀ i : Nat, ∃ t : Nat × Cell, i < 6 → (Term.static RX2 (ax_kn i) "[I").eval #[Value.ref b] s none [] s = some (.ref t.1) ∧ s.heap[t.1]? = some t.2 ∧ s.isArrayOf t.2 .int ∧ t.2.vm ≠ .unknown ∧ ax_tn i ≤ t.2.slots.size ∧ t.2.slots.size.toInt32 = Int32.ofNat (ax_tn i) ∧ (∀ j : Nat, j < ax_tn i → t.2.slots[j]? = some (.int ((ax_tab.getD i []).getD j 0))) ∧ t.1 < s.heap.size := by
    intro i
    by_cases hi : i < 6
    · obtain ⟨e1, e2, e3⟩ := ax_given_tab i hi
      obtain ⟨t, h1, cell, h2, h3, h4, h5, h6, h7, h8⟩ := va_Tof (N := ax_tn i) (f := fun j => .int ((ax_tab.getD i []).getD j 0)) (by unfold ax_tn; split <;> decide) (hg _ e2) (va_eqt (hg _ e3)) (fun j hj => va_eqt (hg _ (e1 j hj))) hA
      exact ⟨(t, cell), fun _ => ⟨h1, h2, h3, h4, h5, h6, h7, (Array.getElem?_eq_some_iff.mp h2).1⟩⟩
    · exact ⟨(0, default), fun h => absurd h hi⟩
  obtain ⟨tf, htb2⟩ := Classical.axiomOfChoice htb
  -- the string
  obtain ⟨adK, adV, hS, hSe⟩ := vk_Sof (s := s) (args := #[Value.ref b]) (N := 1) (tm := fun _ => .string RX6 68) (len := [8]) (byt := [ax_chars]) (A := fun q : Nat => s.heap.size ≤ q)
    (fun i hi => by (have h0 : i = 0 := by omega); subst h0; decide) (fun i hi => hg _ g2) (fun i hi => hg _ g3) (fun i hi => hg _ g4) (fun i hi => by (have h0 : i = 0 := by omega); subst h0; exact hg _ g5) (fun i hi j hj => by (have h0 : i = 0 := by omega); subst h0; exact hg _ (g1 j hj)) (fun i j hi hj hne => absurd (show i = j by omega) hne) hA
  obtain ⟨s1, s2, s3, s4⟩ := hS.1 0 (by omega)
  have s5 := hSe 0 (by omega)
  -- the addresses and the static cells
  obtain ⟨cellX, x1, x2, x3, x4, x5⟩ := hX
  obtain ⟨cellV, w1, w2, w3, w4, w5, w6, w7⟩ := s4
  obtain ⟨cellK, k1, -, -, -⟩ := id s1
  have hbV : adV 0 < s.heap.size := (Array.getElem?_eq_some_iff.mp w1).1
  have hbK : adK 0 < s.heap.size := (Array.getElem?_eq_some_iff.mp k1).1
  generalize adV 0 = av at *
  generalize adK 0 = ak at *
  obtain ⟨ρ, r5, r6, r7, r8, r9⟩ : ∃ ρ : Nat → Nat, (∀ a, a < 6 → ρ a = (tf a).1) ∧ ρ 6 = b ∧ ρ 7 = av ∧ ρ 8 = ak ∧ ∀ a, 9 ≤ a → ρ a = s.heap.size + (a - 9) := by
    refine ⟨fun a => if a < 6 then (tf a).1 else if a = 6 then b else if a = 7 then av else if a = 8 then ak else s.heap.size + (a - 9), fun a h => if_pos h, rfl, rfl, rfl, fun a h => ?_⟩
    show (if a < 6 then _ else _) = _
    rw [if_neg (by omega), if_neg (by omega), if_neg (by omega), if_neg (by omega)]
  obtain ⟨cs, c5, c6, c7⟩ : ∃ cs : Nat → Cell, (∀ a, a < 6 → cs a = (tf a).2) ∧ cs 6 = cellX ∧ cs 7 = cellV := ⟨fun a => if a < 6 then (tf a).2 else if a = 6 then cellX else cellV, fun a h => if_pos h, rfl, rfl⟩
  refine ⟨((fun k => (cf k).1, fun k => (cf k).2), ty, ρ, cs, s.heap.size), rfl, r6, ⟨r9, fun a ha => ?_⟩, ⟨⟨fun c q hq => hcl2 c q hq, fun k q h => by simp at h⟩, fun t ht1 ht2 => ?_, fun a ha => ?_, fun w hw => va_Nw.of ?_ (hts w (List.mem_filter.mp hw).1), ?_, va_AO.of (hts _ t10), va_AO.of (hts _ t11), va_AO.of (hts _ t12)⟩, ⟨fun i hi => ?_, va_Zof (hts _ t3) (hts _ t4) (va_eqi (hg _ g6)) hA, ?_, ?_, ?_⟩, ⟨Nat.le_of_ble_eq_true rfl, ?_, fun a t m ha => ?_⟩⟩
  · show ρ a < s.heap.size
    by_cases h : a < 6
    · rw [r5 a h]
      exact (htb2 a h).2.2.2.2.2.2.2
    · have : a = 6 ∨ a = 7 ∨ a = 8 := by omega
      rcases this with rfl | rfl | rfl
      · rw [r6]; exact hbl
      · rw [r7]; exact hbV
      · rw [r8]; exact hbK
  · show ArrOfT s (ty t) _ ∧ va_RA s (ty t) _
    have : t = 8 ∨ t = 9 ∨ t = 10 ∨ t = 11 ∨ t = 12 ∨ t = 13 := by omega
    rcases this with rfl | rfl | rfl | rfl | rfl | rfl
    · rw [y8]; exact ⟨u8, v8⟩
    · rw [y9]; exact ⟨u9, v9⟩
    · rw [y10]; exact ⟨u10, v10⟩
    · rw [y11]; exact ⟨u11, v11⟩
    · rw [y12]; exact ⟨u12, v12⟩
    · rw [y13]; exact ⟨u13, v13⟩
  · show s.isArrayOf (cs a) _
    by_cases h6 : a < 6
    · rw [c5 a h6, if_neg (by omega)]
      exact (htb2 a h6).2.2.1
    · have : a = 6 ∨ a = 7 := by omega
      rcases this with rfl | rfl
      · rw [c6, if_neg (by omega)]; exact x2
      · rw [c7, if_pos rfl]; exact w2
  · have hn := (List.mem_filter.mp hw).2
    cases w with
    | methodLinkNest a i x h => rfl
    | fieldLinkNest a i b n d h => rfl
    | _ => cases hn
  · show vk_R RX6 68 _ (ρ 8) s
    rw [r8]
    exact vk_R.of (hts _ t5) s5
  · show va_Z RX2 (ax_kn i) "[I" (.ref (ρ i)) _ _ _
    rw [r5 i hi]
    exact va_Zref (hts _ (t1 i hi)) (hts _ t2) (htb2 i hi).1 hA
  · show va_O _ (ρ 8) _ _ _
    rw [r8]
    exact s1
  · show va_OF _ _ _ _ (ρ 8) _ _ _
    rw [r8]
    exact s2
  · show va_OF _ _ _ (.ref (ρ 7)) (ρ 8) _ _ _
    rw [r8, r7]
    exact s3
  · show s.heap.size = s.heap.size + 0
    rfl
  · exact ax_H0 r5 r6 r7 c5 c6 c7 (fun a h => by
      obtain ⟨-, e1, e2, e3, e4, e5, e6, -⟩ := htb2 a h
      exact ⟨e1, e3, ⟨e4, e5⟩, e6⟩) ⟨x1, x3, x4, x5⟩ ⟨w1, w3, w4, w5, w6⟩ ha
set_option maxHeartbeats 4000000 in
set_option maxRecDepth 100000 in
theorem ax_entry {p : Program} {e : Env} {s : State} {m : MethodId} {below : List Frame} {meth : Method} {c : Code} (l : Launch) {b n : Nat} {xs : Nat → Int32} (hn : n ≤ 260) (hx : p.tables.exec = Jvm.exec) (hb : c.code = code) (hr : meth.sig.returnType = ret) (hml : c.maxLocals = 14) (hown : s.vm.findClass RL = some m.cls) (hts : ∀ w ∈ lw_tbl, w.before #[Value.ref b] s = true) (hX : va_X b n xs s s.heap) (hbl : b < s.heap.size) (hlocks : meth.locks = false) (hgv : (Jvm.Cond.and given_1 narrow_1).before #[Value.ref b] s = true) (Q : State → Prop)
    (hend : ∀ (pc : Nat) (H : Heap) (ls : Array Slot), decode code pc = .ok (.ireturn, 1) → W p l e room_1 s m #[Value.ref b] below meth c H [] 600000 7302250 Q (F0 m pc ls [.int 1])) : W p l e room_1 s m #[Value.ref b] below meth c s.heap [] 0 0 Q (entryFrame m ([Value.ref b] : List Value).toArray 14) := by
  obtain ⟨X, hbX, h6, hok, hK, hG, hH⟩ := ax_start hts hX hbl hgv
  obtain ⟨q, hq, hq1⟩ := ax_pure n hn xs
  have hW := tw_L_law hq
  have hl := lv_entry ([.ref b]) (n := 14) (Nat.le_of_ble_eq_true rfl)
  rw [lg_entry_eq]
  generalize (lg_sl ([.ref b]) ++ List.replicate (14 - (lg_sl ([.ref b])).length) Slot.unset).toArray = ls at hl ⊢
  have hL : ax_L X 14 ls [some (av_r (some 6)), none, none, none, none, none, none, none, none, none, none, none, none, none] := by
    refine ⟨hl.1, hl.2.1, fun i v hv => ?_⟩
    have hi : i = 0 ∧ v = av_r (some 6) := by
      match i, hv with
      | 0, hv => cases hv; exact ⟨rfl, rfl⟩
      | 1, hv => cases hv
      | 2, hv => cases hv
      | 3, hv => cases hv
      | 4, hv => cases hv
      | 5, hv => cases hv
      | 6, hv => cases hv
      | 7, hv => cases hv
      | 8, hv => cases hv
      | 9, hv => cases hv
      | 10, hv => cases hv
      | 11, hv => cases hv
      | 12, hv => cases hv
      | 13, hv => cases hv
      | i + 14, hv => simp at hv
    obtain ⟨rfl, rfl⟩ := hi
    have h9 := hl.2.2 (0, .ref b) List.mem_cons_self
    show ls[0]? = some (.val (.ref (ax_ρ X 6)))
    rw [h6]
    exact h9
  refine hW X p l e room_1 s m #[Value.ref b] below meth c s.heap [] 0 0 Q ls ⟨hx, hb, hml, hown, fun w hw => hts w (List.mem_filter.mp hw).1, hr, hlocks, (fun h => absurd h (by decide)), (by decide), (by decide), hok, hK, hG⟩ (by decide) (by decide) hH va_S.rf hL ?_
  · intro pc' ls' H' locs' hH' hS' hd
    refine va_forget (fun q hq => ?_) ?_
    · have := hS'.2.2 q hq
      unfold ax_A at this
      rw [hbX] at this
      exact this
    · have h1 := hend pc' H' ls' hd
      show W p l e room_1 s m #[Value.ref b] below meth c H' [] room_1.cells room_1.slots Q (F0 m pc' ls' [.int q.1])
      rw [hq1]
      exact h1
