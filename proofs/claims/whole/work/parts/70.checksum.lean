/-! ===== checksum ===== -/
def zmf (w : Nat → Int32) : Nat → Nat → Int64 → Int64
  | 0, _, h => h
  | d + 1, i, h => zmf w d (i + 1) (31 * h + (w i).toInt64)
/-- a node's part -/
def znh (te : Nat → Nat → Int32) (V : Nat → Nat → Int32) (i : Nat) (h : Int64) : Int64 := zmf (fun q => V i (6 + q)) (zpn (V i 0).toNatClampNeg) 0 (zmf (fun q => V i (3 + q)) (zin (V i 0).toNatClampNeg) 0 (zmf (te i) 6 0 h))
def zck1 (te : Nat → Nat → Int32) (V : Nat → Nat → Int32) : Nat → Nat → Int64 → Int64
  | 0, _, h => h
  | d + 1, i, h => zck1 te V d (i + 1) (znh te V i h)
def zck3 (K : Nat → Nat → Nat) : Nat → Nat → Int64 → Int64
  | 0, _, h => h
  | d + 1, i, h => zck3 K d (i + 1) (zmf (zkb K i) 10 0 h)
section CK
variable {n N i k : Nat} {m : Nat → Nat → Int32} {p X Y c : Nat → Nat} {V : Nat → Nat → Int32} {te : Nat → Nat → Int32} {E K : Nat → Nat → Nat} {W : Nat → Nat → Nat → Int32}
theorem f_input9 {q : Nat} (hT : zT m) (hG : zGC m 10 N V) (hN : N ≤ 12) (hi : i < N) (hk : k < 7) (hV : V i 0 = nI k) (hq : q < zin k) : fn_X9_input (some 9) (nI i) (nI q) (zC n m p) = some (V i (3 + q), zC n m p) := by
  obtain ⟨hb, -⟩ := zGB_node (p := p) z10 (show i < 12 by omega)
  obtain ⟨b9, b1, t0, t1, t2, q3, q4⟩ := zNB_ok (n := n) (p := p) hb
  have h3 := (zin_lt k hk).1
  unfold fn_X9_input
  rw [z_cr, show zR p 9 0 = some 10 from rfl, Option.bind_some, z_gs, Option.bind_some, f_hasInput z10 hT hG hN hi hk hV, zB_t ⟨z_pos (by omega), z_le_pred (by omega) hq⟩, Option.bind_some]
  dsimp only
  rw [if_neg (by decide), z_cr, show zR p 9 0 = some 10 from rfl, Option.bind_some, z_gr0, show zR p 10 0 = some (10 + 1) from rfl, Option.bind_some, z_nodes z10 (by omega), Option.bind_some, z_gr (a := 10 + 5 + 3 * i) (t := 2) (by omega) (by rw [t0]), q3, Option.bind_some, z_al (a := 10 + 5 + 3 * i + 1) (t := 9) (by omega) (by rw [t1]) (by rw [t1]; show q < 3; omega) (by omega), hG.2.2.1 i q hi (by omega), Option.bind_some]
theorem f_param9 {q : Nat} (hT : zT m) (hG : zGC m 10 N V) (hN : N ≤ 12) (hi : i < N) (hk : k < 7) (hV : V i 0 = nI k) (hq : q < zpn k) : fn_X9_parameter (some 9) (nI i) (nI q) (zC n m p) = some (V i (6 + q), zC n m p) := by
  obtain ⟨hb, -⟩ := zGB_node (p := p) z10 (show i < 12 by omega)
  obtain ⟨b9, b1, t0, t1, t2, q3, q4⟩ := zNB_ok (n := n) (p := p) hb
  have h3 := (zin_lt k hk).2
  unfold fn_X9_parameter
  rw [z_cr, show zR p 9 0 = some 10 from rfl, Option.bind_some, z_gs, Option.bind_some, f_hasParameter z10 hT hG hN hi hk hV, zB_t ⟨z_pos (by omega), z_le_pred (by omega) hq⟩, Option.bind_some]
  dsimp only
  rw [if_neg (by decide), z_cr, show zR p 9 0 = some 10 from rfl, Option.bind_some, z_gr0, show zR p 10 0 = some (10 + 1) from rfl, Option.bind_some, z_nodes z10 (by omega), Option.bind_some, z_gr (a := 10 + 5 + 3 * i) (t := 2) (by omega) (by rw [t0]), q4, Option.bind_some, z_al (a := 10 + 5 + 3 * i + 2) (t := 9) (by omega) (by rw [t2]) (by rw [t2]; show q < 4; omega) (by omega), hG.2.2.2 i q hi (by omega), Option.bind_some]
theorem f_mix83 (hT : zT m) (hG : zGC m 10 N V) (hN : N ≤ 12) (hi : i < N) (hk : k < 7) (hV : V i 0 = nI k) : ∀ (d j f : Nat) (h : Int64), j + d = zpn k → d < f → fb_X9_mixNode_83 f (some 9) (nI i) h (nI k) (nI j) (zC n m p) = some (zmf (fun q => V i (6 + q)) d j h, zC n m p) := by
  have h4 := (zin_lt k hk).2
  intro d
  induction d with
  | zero =>
    intro j f h hj hf
    obtain ⟨f, rfl⟩ : ∃ k, f = k + 1 := ⟨f - 1, by omega⟩
    unfold fb_X9_mixNode_83
    rw [f_parameters hT hk, Option.bind_some]
    dsimp only
    rw [if_pos (nI_le (by omega) (by omega))]
    rfl
  | succ d ih =>
    intro j f h hj hf
    obtain ⟨f, rfl⟩ : ∃ k, f = k + 1 := ⟨f - 1, by omega⟩
    unfold fb_X9_mixNode_83 fn_X9_mix
    rw [f_parameters hT hk, Option.bind_some]
    dsimp only
    rw [if_neg (nI_ge (by omega) (by omega)), z_gi9, Option.bind_some, f_param9 hT hG hN hi hk hV (by omega), Option.bind_some, Option.bind_some, nI_1]
    exact ih (j + 1) f _ (by omega) (by omega)
theorem f_mix50 (hT : zT m) (hG : zGC m 10 N V) (hN : N ≤ 12) (hi : i < N) (hk : k < 7) (hV : V i 0 = nI k) : ∀ (d j f : Nat) (h : Int64), j + d = zin k → d < f → fb_X9_mixNode_50 f (some 9) (nI i) h (nI k) (nI j) (zC n m p) = some (zmf (fun q => V i (6 + q)) (zpn k) 0 (zmf (fun q => V i (3 + q)) d j h), zC n m p) := by
  have h4 := (zin_lt k hk).1
  have h5 := (zin_lt k hk).2
  intro d
  induction d with
  | zero =>
    intro j f h hj hf
    obtain ⟨f, rfl⟩ : ∃ k, f = k + 1 := ⟨f - 1, by omega⟩
    have h83 := f_mix83 (n := n) (p := p) hT hG hN hi hk hV (zpn k) 0 10000 h (by omega) (by omega)
    rw [nI_0] at h83
    unfold fb_X9_mixNode_50
    rw [f_inputs hT hk, Option.bind_some]
    dsimp only
    rw [if_pos (nI_le (by omega) (by omega)), h83]
    rfl
  | succ d ih =>
    intro j f h hj hf
    obtain ⟨f, rfl⟩ : ∃ k, f = k + 1 := ⟨f - 1, by omega⟩
    unfold fb_X9_mixNode_50 fn_X9_mix
    rw [f_inputs hT hk, Option.bind_some]
    dsimp only
    rw [if_neg (nI_ge (by omega) (by omega)), z_gi9, Option.bind_some, f_input9 hT hG hN hi hk hV (by omega), Option.bind_some, Option.bind_some, nI_1]
    exact ih (j + 1) f _ (by omega) (by omega)
theorem f_mix20 (hT : zT m) (hG : zGC m 10 N V) (hN : N ≤ 12) (hi : i < N) (hk : k < 7) (hV : V i 0 = nI k) (hte : ∀ w, w < 6 → fn_X9_node (some 9) (nI i) (nI w) (zC n m p) = some (te i w, zC n m p)) : ∀ (d j f : Nat) (h : Int64), j + d = 6 → d < f → fb_X9_mixNode_20 f (some 9) (nI i) h (nI k) (nI j) (zC n m p) = some (zmf (fun q => V i (6 + q)) (zpn k) 0 (zmf (fun q => V i (3 + q)) (zin k) 0 (zmf (te i) d j h)), zC n m p) := by
  have h4 := (zin_lt k hk).1
  intro d
  induction d with
  | zero =>
    intro j f h hj hf
    obtain ⟨f, rfl⟩ : ∃ k, f = k + 1 := ⟨f - 1, by omega⟩
    obtain rfl : j = 6 := by omega
    have h50 := f_mix50 (n := n) (p := p) hT hG hN hi hk hV (zin k) 0 10000 h (by omega) (by omega)
    rw [nI_0] at h50
    unfold fb_X9_mixNode_20
    rw [if_pos (by decide), h50]
    rfl
  | succ d ih =>
    intro j f h hj hf
    obtain ⟨f, rfl⟩ : ∃ k, f = k + 1 := ⟨f - 1, by omega⟩
    unfold fb_X9_mixNode_20 fn_X9_mix
    rw [if_neg (show ¬ (6 : Int32) ≤ nI j from nI_ge (b := 6) (by omega) (by omega)), z_gi9, Option.bind_some, hte j (by omega), Option.bind_some, Option.bind_some, nI_1]
    exact ih (j + 1) f _ (by omega) (by omega)
theorem f_mixNode (hOK : zOK N V) (hT : zT m) (hG : zGC m 10 N V) (hi : i < N) (hte : ∀ w, w < 6 → fn_X9_node (some 9) (nI i) (nI w) (zC n m p) = some (te i w, zC n m p)) (h : Int64) : fn_X9_mixNode (some 9) h (nI i) (zC n m p) = some (znh te V i h, zC n m p) := by
  have hN := hOK.1
  obtain ⟨k, hk, hV⟩ := z_kind hOK hi
  obtain ⟨hb, -⟩ := zGB_node (p := p) z10 (show i < 12 by omega)
  obtain ⟨b9, b1, t0, t1, t2, q3, q4⟩ := zNB_ok (n := n) (p := p) hb
  have h20 := f_mix20 (n := n) (p := p) hT hG hN hi hk hV hte 6 0 10000 h (by omega) (by omega)
  rw [nI_0] at h20
  unfold fn_X9_mixNode znh
  rw [z_cr, show zR p 9 0 = some 10 from rfl, Option.bind_some, z_gr0, show zR p 10 0 = some (10 + 1) from rfl, Option.bind_some, z_nodes z10 (by omega), Option.bind_some, z_gi (a := 10 + 5 + 3 * i) (t := 2) (by omega) (by rw [t0]), hG.2.1 i 0 hi (by omega), hV, Option.bind_some, nI_clamp (by omega), h20]
theorem f_ck76 (hN : N ≤ 12) (hm : m 10 1 = nI N) (hc : zCX m p X Y c K W E) (hi : i < N) {k62 : Option Nat → Int64 → Int32 → ax_S → Option (Int64 × ax_S)} : ∀ (d j f : Nat) (h : Int64), j + d = 10 → d < f → fb_X9_checksum_76 k62 f (some 9) h (nI i) (nI j) (zC n m p) = k62 (some 9) (zmf (zkb K i) d j h) (nI (i + 1)) (zC n m p) := by
  intro d
  induction d with
  | zero =>
    intro j f h hj hf
    obtain ⟨f, rfl⟩ : ∃ k, f = k + 1 := ⟨f - 1, by omega⟩
    obtain rfl : j = 10 := by omega
    unfold fb_X9_checksum_76
    rw [if_pos (by decide), nI_1]
    rfl
  | succ d ih =>
    intro j f h hj hf
    obtain ⟨f, rfl⟩ : ∃ k, f = k + 1 := ⟨f - 1, by omega⟩
    unfold fb_X9_checksum_76 fn_X9_mix
    rw [if_neg (show ¬ (10 : Int32) ≤ nI j from nI_ge (b := 10) (by omega) (by omega)), z_gi9, Option.bind_some, f_isCached9 hN hm hc hi (by omega), Option.bind_some, Option.bind_some, nI_1]
    exact ih (j + 1) f _ (by omega) (by omega)
theorem f_ck62 (hN : N ≤ 12) (hm : m 10 1 = nI N) (hc : zCX m p X Y c K W E) : ∀ (d i f : Nat) (h : Int64), i + d = N → d < f → fb_X9_checksum_62 f (some 9) h (nI i) (zC n m p) = some (zck3 K d i h, zC n m p) := by
  intro d
  induction d with
  | zero =>
    intro i f h hi hf
    obtain ⟨f, rfl⟩ : ∃ k, f = k + 1 := ⟨f - 1, by omega⟩
    unfold fb_X9_checksum_62
    rw [z_cr, show zR p 9 0 = some 10 from rfl, Option.bind_some, z_g1, hm, Option.bind_some, if_pos (nI_le (by omega) (by omega))]
    rfl
  | succ d ih =>
    intro i f h hi hf
    obtain ⟨f, rfl⟩ : ∃ k, f = k + 1 := ⟨f - 1, by omega⟩
    have h76 := f_ck76 (n := n) hN hm hc (show i < N by omega) (k62 := fb_X9_checksum_62 f) 10 0 10000 h rfl (by omega)
    rw [nI_0] at h76
    unfold fb_X9_checksum_62
    rw [z_cr, show zR p 9 0 = some 10 from rfl, Option.bind_some, z_g1, hm, Option.bind_some, if_neg (nI_ge (by omega) (by omega)), h76, ih (i + 1) f _ (by omega) (by omega)]
    rfl
theorem f_ck39 (hN : N ≤ 12) (hm : m 10 1 = nI N) (hc : zCX m p X Y c K W E) : ∀ (d j f : Nat) (h : Int64), j + d = 5 → d < f → fb_X9_checksum_39 f (some 9) h (nI j) (zC n m p) = some (zck3 K N 0 (zmf (fun k => nI (c (zci k))) d j h), zC n m p) := by
  intro d
  induction d with
  | zero =>
    intro j f h hj hf
    obtain ⟨f, rfl⟩ : ∃ k, f = k + 1 := ⟨f - 1, by omega⟩
    obtain rfl : j = 5 := by omega
    have h62 := f_ck62 (n := n) hN hm hc N 0 10000 h (by omega) (by omega)
    rw [nI_0] at h62
    unfold fb_X9_checksum_39
    rw [if_pos (by decide), h62]
    rfl
  | succ d ih =>
    intro j f h hj hf
    obtain ⟨f, rfl⟩ : ∃ k, f = k + 1 := ⟨f - 1, by omega⟩
    unfold fb_X9_checksum_39 fn_X9_mix
    rw [if_neg (show ¬ (5 : Int32) ≤ nI j from nI_ge (b := 5) (by omega) (by omega)), z_gi9, Option.bind_some, f_count9 hc (by omega), Option.bind_some, Option.bind_some, nI_1]
    exact ih (j + 1) f _ (by omega) (by omega)
theorem f_ck13 (hOK : zOK N V) (hT : zT m) (hG : zGC m 10 N V) (hc : zCX m p X Y c K W E) (hte : ∀ i, i < N → ∀ w, w < 6 → fn_X9_node (some 9) (nI i) (nI w) (zC n m p) = some (te i w, zC n m p)) : ∀ (d i f : Nat) (h : Int64), i + d = N → d < f → fb_X9_checksum_13 f (some 9) h (nI i) (zC n m p) = some (zck3 K N 0 (zmf (fun k => nI (c (zci k))) 5 0 (zck1 te V d i h)), zC n m p) := by
  have hN := hOK.1
  intro d
  induction d with
  | zero =>
    intro i f h hi hf
    obtain ⟨f, rfl⟩ : ∃ k, f = k + 1 := ⟨f - 1, by omega⟩
    have h39 := f_ck39 (n := n) hN hG.1 hc 5 0 10000 h rfl (by omega)
    rw [nI_0] at h39
    unfold fb_X9_checksum_13
    rw [z_cr, show zR p 9 0 = some 10 from rfl, Option.bind_some, z_g1, hG.1, Option.bind_some, if_pos (nI_le (by omega) (by omega)), h39]
    rfl
  | succ d ih =>
    intro i f h hi hf
    obtain ⟨f, rfl⟩ : ∃ k, f = k + 1 := ⟨f - 1, by omega⟩
    unfold fb_X9_checksum_13
    rw [z_cr, show zR p 9 0 = some 10 from rfl, Option.bind_some, z_g1, hG.1, Option.bind_some, if_neg (nI_ge (by omega) (by omega)), z_gi9, Option.bind_some, f_mixNode hOK hT hG (by omega) (hte i (by omega)), Option.bind_some, nI_1]
    exact ih (i + 1) f _ (by omega) (by omega)
/-! the model -/
theorem z_m14 : ax_gr (zC n m p) 7 14 (some 275) = some (some 286) := z_gr (by omega) rfl
theorem f_ck98 (hOK : zOK N V) (hM : zMT m) (hG : zGM m N V) (hi : i < N) (hk : k < 7) (hV : V i 0 = nI k) {k15 : Option Nat → Int64 → Int32 → ax_S → Option (Int64 × ax_S)} : ∀ (d j f : Nat) (h : Int64), j + d = zpn k → d < f → fb_X10_checksum_98 k15 f (some 275) h (nI i) (nI j) (zC n m p) = k15 (some 275) (zmf (fun q => V i (6 + q)) d j h) (nI (i + 1)) (zC n m p) := by
  have hN := hOK.1
  have h4 := (zin_lt k hk).2
  have hkind : m 276 (1 + 10 * i) = nI k := (hG.2.1 i 0 hi (by omega)).trans hV
  have hmt : ax_al (zC n m p) 9 (some 286) (nI k) = some (nI (zpn k)) := by
    rw [z_al (t := 9) (a := 286) (by omega) rfl (by exact hk) (by omega), (hM k hk).2]
  intro d
  induction d with
  | zero =>
    intro j f h hj hf
    obtain ⟨f, rfl⟩ : ∃ k, f = k + 1 := ⟨f - 1, by omega⟩
    unfold fb_X10_checksum_98
    rw [z_m14, Option.bind_some, z_mo 0, Option.bind_some, f_mkind (by omega), hkind, Option.bind_some]
    dsimp only
    rw [hmt, Option.bind_some, if_pos (nI_le (by omega) (by omega)), nI_1]
    rfl
  | succ d ih =>
    intro j f h hj hf
    obtain ⟨f, rfl⟩ : ∃ k, f = k + 1 := ⟨f - 1, by omega⟩
    unfold fb_X10_checksum_98 fn_X10_more fn_X10_at
    rw [z_m14, Option.bind_some, z_mo 0, Option.bind_some, f_mkind (by omega), hkind, Option.bind_some]
    dsimp only
    rw [hmt, Option.bind_some, if_neg (nI_ge (by omega) (by omega)), z_m0, Option.bind_some, Option.bind_some]
    dsimp only
    rw [z_vpar hG hN hi hk hV (by omega) (by omega), Option.bind_some, Option.bind_some, nI_1]
    exact ih (j + 1) f _ (by omega) (by omega)
theorem f_ck56 (hOK : zOK N V) (hM : zMT m) (hG : zGM m N V) (hi : i < N) (hk : k < 7) (hV : V i 0 = nI k) {k15 : Option Nat → Int64 → Int32 → ax_S → Option (Int64 × ax_S)} : ∀ (d j f : Nat) (h : Int64), j + d = zin k → d < f → fb_X10_checksum_56 k15 f (some 275) h (nI i) (nI j) (zC n m p) = k15 (some 275) (zmf (fun q => V i (6 + q)) (zpn k) 0 (zmf (fun q => V i (3 + q)) d j h)) (nI (i + 1)) (zC n m p) := by
  have hN := hOK.1
  have h4 := (zin_lt k hk).1
  have h5 := (zin_lt k hk).2
  have hkind : m 276 (1 + 10 * i) = nI k := (hG.2.1 i 0 hi (by omega)).trans hV
  have hmt : ax_al (zC n m p) 9 (some 285) (nI k) = some (nI (zin k)) := by
    rw [z_al (t := 9) (a := 285) (by omega) rfl (by exact hk) (by omega), (hM k hk).1]
  intro d
  induction d with
  | zero =>
    intro j f h hj hf
    obtain ⟨f, rfl⟩ : ∃ k, f = k + 1 := ⟨f - 1, by omega⟩
    have h98 := f_ck98 (n := n) (p := p) hOK hM hG hi hk hV (k15 := k15) (zpn k) 0 10000 h (by omega) (by omega)
    rw [nI_0] at h98
    unfold fb_X10_checksum_56
    rw [z_m13, Option.bind_some, z_mo 0, Option.bind_some, f_mkind (by omega), hkind, Option.bind_some]
    dsimp only
    rw [hmt, Option.bind_some, if_pos (nI_le (by omega) (by omega)), h98]
    rfl
  | succ d ih =>
    intro j f h hj hf
    obtain ⟨f, rfl⟩ : ∃ k, f = k + 1 := ⟨f - 1, by omega⟩
    unfold fb_X10_checksum_56 fn_X10_more fn_X10_at
    rw [z_m13, Option.bind_some, z_mo 0, Option.bind_some, f_mkind (by omega), hkind, Option.bind_some]
    dsimp only
    rw [hmt, Option.bind_some, if_neg (nI_ge (by omega) (by omega)), z_m0, Option.bind_some, Option.bind_some]
    dsimp only
    rw [z_vin hG hN hi (by omega), Option.bind_some, Option.bind_some, nI_1]
    exact ih (j + 1) f _ (by omega) (by omega)
def zF287 (m m' : Nat → Nat → Int32) : Prop := ∀ a, a ≠ 287 → m' a = m a
theorem zF287_tr {m1 m2 m3 : Nat → Nat → Int32} (h1 : zF287 m1 m2) (h2 : zF287 m2 m3) : zF287 m1 m3 := fun a ha => (h2 a ha).trans (h1 a ha)
theorem zMT_287 {m' : Nat → Nat → Int32} (h : zMT m) (hf : zF287 m m') : zMT m' := fun k hk => by rw [hf 285 (by omega), hf 286 (by omega)]; exact h k hk
theorem f_ck28 (hOK : zOK N V) (hi : i < N) (hte : ∀ m : Nat → Nat → Int32, zGM m N V → ∀ w, w < 6 → ∃ m', fn_X10_nodeTells (some 275) (nI i) (nI w) (zC n m p) = some (te i w, zC n m' p) ∧ zF287 m m') {k15 : Option Nat → Int64 → Int32 → ax_S → Option (Int64 × ax_S)} : ∀ (d j f : Nat) (h : Int64) (m : Nat → Nat → Int32), j + d = 6 → d < f → zMT m → zGM m N V → ∃ m', fb_X10_checksum_28 k15 f (some 275) h (nI i) (nI j) (zC n m p) = k15 (some 275) (zmf (fun q => V i (6 + q)) (zpn (V i 0).toNatClampNeg) 0 (zmf (fun q => V i (3 + q)) (zin (V i 0).toNatClampNeg) 0 (zmf (te i) d j h))) (nI (i + 1)) (zC n m' p) ∧ zF287 m m' := by
  obtain ⟨k, hk, hV⟩ := z_kind hOK hi
  have h4 := (zin_lt k hk).1
  have hcl : (V i 0).toNatClampNeg = k := by rw [hV, nI_clamp (by omega)]
  rw [hcl]
  intro d
  induction d with
  | zero =>
    intro j f h m hj hf hM hG
    obtain ⟨f, rfl⟩ : ∃ k, f = k + 1 := ⟨f - 1, by omega⟩
    obtain rfl : j = 6 := by omega
    have h56 := f_ck56 (n := n) (p := p) hOK hM hG hi hk hV (k15 := k15) (zin k) 0 10000 h (by omega) (by omega)
    rw [nI_0] at h56
    refine ⟨m, ?_, fun _ _ => rfl⟩
    unfold fb_X10_checksum_28
    rw [if_pos (by decide), h56]
    rfl
  | succ d ih =>
    intro j f h m hj hf hM hG
    obtain ⟨f, rfl⟩ : ∃ k, f = k + 1 := ⟨f - 1, by omega⟩
    obtain ⟨m1, e1, e2⟩ := hte m hG j (by omega)
    obtain ⟨m2, e3, e4⟩ := ih (j + 1) f (31 * h + (te i j).toInt64) m1 (by omega) (by omega) (zMT_287 hM e2) (zGM_287 hG e2)
    refine ⟨m2, ?_, zF287_tr e2 e4⟩
    unfold fb_X10_checksum_28 fn_X10_more
    rw [if_neg (show ¬ (6 : Int32) ≤ nI j from nI_ge (b := 6) (by omega) (by omega)), z_mo 0, Option.bind_some, e1, Option.bind_some, Option.bind_some, nI_1]
    exact e3
theorem f_ck182 (hm : zMX m X Y c K W) (hi : i < 12) {k169 : Option Nat → Int64 → Int32 → ax_S → Option (Int64 × ax_S)} : ∀ (d j f : Nat) (h : Int64), j + d = 10 → d < f → fb_X10_checksum_182 k169 f (some 275) h (nI i) (nI j) (zC n m p) = k169 (some 275) (zmf (zkb K i) d j h) (nI (i + 1)) (zC n m p) := by
  intro d
  induction d with
  | zero =>
    intro j f h hj hf
    obtain ⟨f, rfl⟩ : ∃ k, f = k + 1 := ⟨f - 1, by omega⟩
    obtain rfl : j = 10 := by omega
    unfold fb_X10_checksum_182
    rw [if_pos (by decide), nI_1]
    rfl
  | succ d ih =>
    intro j f h hj hf
    obtain ⟨f, rfl⟩ : ∃ k, f = k + 1 := ⟨f - 1, by omega⟩
    obtain ⟨v, v1, v2, -⟩ := f_mfindkb (n := n) (p := p) hm hi (show j < 100 by omega)
    unfold fb_X10_checksum_182 fb_X10_checksum_205 fn_X10_more
    rw [if_neg (show ¬ (10 : Int32) ≤ nI j from nI_ge (b := 10) (by omega) (by omega)), z_mo 0, Option.bind_some, v1, Option.bind_some]
    dsimp only
    by_cases h0 : 0 ≤ v
    · rw [if_pos h0] at v2 ⊢
      rw [Option.bind_some, nI_1, v2]
      exact ih (j + 1) f _ (by omega) (by omega)
    · rw [if_neg h0] at v2 ⊢
      rw [Option.bind_some, nI_1, v2]
      exact ih (j + 1) f _ (by omega) (by omega)
theorem f_ck169 (hN : N ≤ 12) (hg : m 276 0 = nI N) (hm : zMX m X Y c K W) : ∀ (d i f : Nat) (h : Int64), i + d = N → d < f → fb_X10_checksum_169 f (some 275) h (nI i) (zC n m p) = some (zck3 K d i h, zC n m p) := by
  intro d
  induction d with
  | zero =>
    intro i f h hi hf
    obtain ⟨f, rfl⟩ : ∃ k, f = k + 1 := ⟨f - 1, by omega⟩
    unfold fb_X10_checksum_169
    rw [z_m0, Option.bind_some, z_v0, hg, Option.bind_some, if_pos (nI_le (by omega) (by omega))]
    rfl
  | succ d ih =>
    intro i f h hi hf
    obtain ⟨f, rfl⟩ : ∃ k, f = k + 1 := ⟨f - 1, by omega⟩
    have h182 := f_ck182 (n := n) (p := p) hm (show i < 12 by omega) (k169 := fb_X10_checksum_169 f) 10 0 10000 h rfl (by omega)
    rw [nI_0] at h182
    unfold fb_X10_checksum_169
    rw [z_m0, Option.bind_some, z_v0, hg, Option.bind_some, if_neg (nI_ge (by omega) (by omega)), h182, ih (i + 1) f _ (by omega) (by omega)]
    rfl
theorem f_ck146 (hN : N ≤ 12) (hg : m 276 0 = nI N) (hm : zMX m X Y c K W) : ∀ (d j f : Nat) (h : Int64), j + d = 5 → d < f → fb_X10_checksum_146 f (some 275) h (nI j) (zC n m p) = some (zck3 K N 0 (zmf (fun k => nI (c (zci k))) d j h), zC n m p) := by
  intro d
  induction d with
  | zero =>
    intro j f h hj hf
    obtain ⟨f, rfl⟩ : ∃ k, f = k + 1 := ⟨f - 1, by omega⟩
    obtain rfl : j = 5 := by omega
    have h62 := f_ck169 (n := n) (p := p) hN hg hm N 0 10000 h (by omega) (by omega)
    rw [nI_0] at h62
    unfold fb_X10_checksum_146
    rw [if_pos (by decide), h62]
    rfl
  | succ d ih =>
    intro j f h hj hf
    obtain ⟨f, rfl⟩ : ∃ k, f = k + 1 := ⟨f - 1, by omega⟩
    unfold fb_X10_checksum_146 fn_X10_more
    rw [if_neg (show ¬ (5 : Int32) ≤ nI j from nI_ge (b := 5) (by omega) (by omega)), z_mo 0, Option.bind_some, f_countOf hm (by omega), Option.bind_some, Option.bind_some, nI_1]
    exact ih (j + 1) f _ (by omega) (by omega)
theorem f_ck15 (hOK : zOK N V) (hte : ∀ i, i < N → ∀ m : Nat → Nat → Int32, zGM m N V → ∀ w, w < 6 → ∃ m', fn_X10_nodeTells (some 275) (nI i) (nI w) (zC n m p) = some (te i w, zC n m' p) ∧ zF287 m m') : ∀ (d i f : Nat) (h : Int64) (m : Nat → Nat → Int32), i + d = N → d < f → zMT m → zGM m N V → zMX m X Y c K W → ∃ m', fb_X10_checksum_15 f (some 275) h (nI i) (zC n m p) = some (zck3 K N 0 (zmf (fun k => nI (c (zci k))) 5 0 (zck1 te V d i h)), zC n m' p) ∧ zF287 m m' := by
  have hN := hOK.1
  intro d
  induction d with
  | zero =>
    intro i f h m hi hf hM hG hm
    obtain ⟨f, rfl⟩ : ∃ k, f = k + 1 := ⟨f - 1, by omega⟩
    have h39 := f_ck146 (n := n) (p := p) hN hG.1 hm 5 0 10000 h rfl (by omega)
    rw [nI_0] at h39
    refine ⟨m, ?_, fun _ _ => rfl⟩
    unfold fb_X10_checksum_15
    rw [z_m0, Option.bind_some, z_v0, hG.1, Option.bind_some, if_pos (nI_le (by omega) (by omega)), h39]
    rfl
  | succ d ih =>
    intro i f h m hi hf hM hG hm
    obtain ⟨f, rfl⟩ : ∃ k, f = k + 1 := ⟨f - 1, by omega⟩
    obtain ⟨m1, e1, e2⟩ := f_ck28 (n := n) (p := p) hOK (show i < N by omega) (hte i (by omega)) (k15 := fb_X10_checksum_15 f) 6 0 10000 h m rfl (by omega) hM hG
    obtain ⟨m2, e3, e4⟩ := ih (i + 1) f (znh te V i h) m1 (by omega) (by omega) (zMT_287 hM e2) (zGM_287 hG e2) (zMX_fr hm (fun a _ _ => e2 a (by omega)) (fun k _ => by rw [e2 275 (by omega)]))
    refine ⟨m2, ?_, zF287_tr e2 e4⟩
    rw [nI_0] at e1
    unfold fb_X10_checksum_15
    rw [z_m0, Option.bind_some, z_v0, hG.1, Option.bind_some, if_neg (nI_ge (by omega) (by omega)), e1]
    exact e3
theorem c_checksum : zop n (fn_X9_checksum (some 9)) (fn_X10_checksum (some 275)) := zop_q (fun m p A B h1 h2 h3 => by
  obtain ⟨⟨N, V⟩, C, ⟨L, T⟩, S⟩ := A
  have I := zIG_of h1.1 h2.1 h3.1
  obtain ⟨h10, X, Y, E, hc⟩ := h1
  obtain ⟨h20, X', Y', hm⟩ := h2
  rw [zMa_0] at hm
  have hOK := h3.1
  obtain ⟨-, D, hD, hD12, hm14⟩ := I.2.1
  have h0 : ∀ i : Nat, ∃ t : Nat, i < N → t < N ∧ zord N V t = i := by
    intro i
    by_cases hi : i < N
    · obtain ⟨t, ht⟩ := zord_sur hOK hi
      exact ⟨t, fun _ => ht⟩
    · exact ⟨0, fun q => absurd q hi⟩
  obtain ⟨g, hg⟩ := Classical.axiomOfChoice h0
  have hte : ∀ i, i < N → ∀ w, w < 6 → fn_X9_node (some 9) (nI i) (nI w) (zC n m p) = some (zTell N V D i w (g i), zC n m p) := by
    intro i hi w hw
    obtain ⟨a1, a2⟩ := hg i hi
    have := q_node9 (n := n) (p := p) I hm14 a1 hw
    rw [a2] at this
    exact this
  have hte2 : ∀ i, i < N → ∀ m : Nat → Nat → Int32, zGM m N V → ∀ w, w < 6 → ∃ m', fn_X10_nodeTells (some 275) (nI i) (nI w) (zC n m p) = some (zTell N V D i w (g i), zC n m' p) ∧ zF287 m m' := by
    intro i hi m hG w hw
    obtain ⟨a1, a2⟩ := hg i hi
    obtain ⟨m', e1, e2⟩ := q_tells (n := n) (p := p) hG hOK hD hD12 a1 hw
    rw [a2] at e1
    exact ⟨m', e1, e2⟩
  have k1 := f_ck13 (n := n) (te := fun i w => zTell N V D i w (g i)) hOK h10.1 h10.2.1.2.1 hc hte N 0 10000 (31 * 127 + (nI N).toInt64) (by omega) (by have := hOK.1; omega)
  obtain ⟨m2, k2, k3⟩ := f_ck15 (n := n) (p := p) (te := fun i w => zTell N V D i w (g i)) hOK hte2 N 0 10000 (31 * 127 + (nI N).toInt64) m (by omega) (by have := hOK.1; omega) h20.1 h20.2.1 hm
  rw [nI_0] at k1 k2
  refine ⟨zck3 C.2.1 N 0 (zmf (fun k => nI (C.1 (zci k))) 5 0 (zck1 (fun i w => zTell N V D i w (g i)) V N 0 (31 * 127 + (nI N).toInt64))), m2, ?_, ?_, fun a ha => k3 a (by omega)⟩
  · unfold fn_X9_checksum fn_X9_mix
    rw [z_gi9, Option.bind_some, (q_nodes (n := n) (p := p) I).1, Option.bind_some, Option.bind_some]
    exact k1
  · unfold fn_X10_checksum fn_X10_more
    rw [z_m0, Option.bind_some, z_v0, h20.2.1.1, Option.bind_some, Option.bind_some]
    exact k2)
end CK
