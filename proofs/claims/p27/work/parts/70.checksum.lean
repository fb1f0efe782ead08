/-! ===== checksum ===== -/
def zmf (w : Nat → Int32) : Nat → Nat → Int64 → Int64
  | 0, _, h => h
  | d + 1, i, h => zmf w d (i + 1) (31 * h + (w i).toInt64)
/-- a node's part -/
def znh (te : Nat → Nat → Int32) (V : Nat → Nat → Int32) (i : Nat) (h : Int64) : Int64 := zmf (fun q => V i (6 + q)) (zpn (V i 0).toNatClampNeg) 0 (zmf (fun q => V i (3 + q)) (zin (V i 0).toNatClampNeg) 0 (zmf (te i) 6 0 h))
def zck1 (te : Nat → Nat → Int32) (V : Nat → Nat → Int32) : Nat → Nat → Int64 → Int64
  | 0, _, h => h
  | d + 1, i, h => zck1 te V d (i + 1) (znh te V i h)
def zck3 (K : Nat → Nat → Nat) : Nat → Nat → Int64 → Int64
  | 0, _, h => h
  | d + 1, i, h => zck3 K d (i + 1) (zmf (zkb K i) 10 0 h)
section CK
variable {n N i k : Nat} {m : Nat → Nat → Int32} {p X Y c : Nat → Nat} {V : Nat → Nat → Int32} {te : Nat → Nat → Int32} {E K : Nat → Nat → Nat} {W : Nat → Nat → Nat → Int32}
theorem f_input9 {q : Nat} (hT : zT m) (hG : zGC m 10 N V) (hN : N ≤ 12) (hi : i < N) (hk : k < 7) (hV : V i 0 = nI k) (hq : q < zin k) : fn_X9_input (some 9) (nI i) (nI q) (zC n m p) = some (V i (3 + q), zC n m p) := by
  obtain ⟨hb, -⟩ := zGB_node (p := p) z10 (show i < 12 by omega)
  obtain ⟨b9, b1, t0, t1, t2, q3, q4⟩ := zNB_ok (n := n) (p := p) hb
  have h3 := (zin_lt k hk).1
  unfold fn_X9_input
  rw [z_cr, show zR p 9 0 = some 10 from rfl, Option.bind_some, z_gs, Option.bind_some, f_hasInput z10 hT hG hN hi hk hV, zB_t ⟨z_pos (by omega), z_le_pred (by omega) hq⟩, Option.bind_some]
  dsimp only
  rw [if_neg (by decide), z_cr, show zR p 9 0 = some 10 from rfl, Option.bind_some, z_gr0, show zR p 10 0 = some (10 + 1) from rfl, Option.bind_some, z_nodes z10 (by omega), Option.bind_some, z_gr (a := 10 + 5 + 3 * i) (t := 2) (by omega) (by rw [t0]), q3, Option.bind_some, z_al (a := 10 + 5 + 3 * i + 1) (t := 9) (by omega) (by rw [t1]) (by rw [t1]; show q < 3; omega) (by omega), hG.2.2.1 i q hi (by omega), Option.bind_some]
theorem f_param9 {q : Nat} (hT : zT m) (hG : zGC m 10 N V) (hN : N ≤ 12) (hi : i < N) (hk : k < 7) (hV : V i 0 = nI k) (hq : q < zpn k) : fn_X9_parameter (some 9) (nI i) (nI q) (zC n m p) = some (V i (6 + q), zC n m p) := by
  obtain ⟨hb, -⟩ := zGB_node (p := p) z10 (show i < 12 by omega)
  obtain ⟨b9, b1, t0, t1, t2, q3, q4⟩ := zNB_ok (n := n) (p := p) hb
  have h3 := (zin_lt k hk).2
  unfold fn_X9_parameter
  rw [z_cr, show zR p 9 0 = some 10 from rfl, Option.bind_some, z_gs, Option.bind_some, f_hasParameter z10 hT hG hN hi hk hV, zB_t ⟨z_pos (by omega), z_le_pred (by omega) hq⟩, Option.bind_some]
  dsimp only
  rw [if_neg (by decide), z_cr, show zR p 9 0 = some 10 from rfl, Option.bind_some, z_gr0, show zR p 10 0 = some (10 + 1) from rfl, Option.bind_some, z_nodes z10 (by omega), Option.bind_some, z_gr (a := 10 + 5 + 3 * i) (t := 2) (by omega) (by rw [t0]), q4, Option.bind_some, z_al (a := 10 + 5 + 3 * i + 2) (t := 9) (by omega) (by rw [t2]) (by rw [t2]; show q < 4; omega) (by omega), hG.2.2.2 i q hi (by omega), Option.bind_some]
theorem f_mix83 (hT : zT m) (hG : zGC m 10 N V) (hN : N ≤ 12) (hi : i < N) (hk : k < 7) (hV : V i 0 = nI k) : ∀ (d j f : Nat) (h : Int64), j + d = zpn k → d < f → fb_X9_mixNode_83 f (some 9) (nI i) h (nI k) (nI j) (zC n m p) = some (zmf (fun q => V i (6 + q)) d j h, zC n m p) := by
  have h4 := (zin_lt k hk).2
  intro d
  induction d with
  | zero =>
    intro j f h hj hf
    obtain ⟨f, rfl⟩ : ∃ k, f = k + 1 := ⟨f - 1, by omega⟩
    unfold fb_X9_mixNode_83
    rw [f_parameters hT hk, Option.bind_some]
    dsimp only
    rw [if_pos (nI_le (by omega) (by omega))]
    rfl
  | succ d ih =>
    intro j f h hj hf
    obtain ⟨f, rfl⟩ : ∃ k, f = k + 1 := ⟨f - 1, by omega⟩
    unfold fb_X9_mixNode_83 fn_X9_mix
    rw [f_parameters hT hk, Option.bind_some]
    dsimp only
    rw [if_neg (nI_ge (by omega) (by omega)), z_gi9, Option.bind_some, f_param9 hT hG hN hi hk hV (by omega), Option.bind_some, Option.bind_some, nI_1]
    exact ih (j + 1) f _ (by omega) (by omega)
theorem f_mix50 (hT : zT m) (hG : zGC m 10 N V) (hN : N ≤ 12) (hi : i < N) (hk : k < 7) (hV : V i 0 = nI k) : ∀ (d j f : Nat) (h : Int64), j + d = zin k → d < f → fb_X9_mixNode_50 f (some 9) (nI i) h (nI k) (nI j) (zC n m p) = some (zmf (fun q => V i (6 + q)) (zpn k) 0 (zmf (fun q => V i (3 + q)) d j h), zC n m p) := by
  have h4 := (zin_lt k hk).1
  have h5 := (zin_lt k hk).2
  intro d
  induction d with
  | zero =>
    intro j f h hj hf
    obtain ⟨f, rfl⟩ : ∃ k, f = k + 1 := ⟨f - 1, by omega⟩
    have h83 := f_mix83 (n := n) (p := p) hT hG hN hi hk hV (zpn k) 0 10000 h (by omega) (by omega)
    rw [nI_0] at h83
    unfold fb_X9_mixNode_50
    rw [f_inputs hT hk, Option.bind_some]
    dsimp only
    rw [if_pos (nI_le (by omega) (by omega)), h83]
    rfl
  | succ d ih =>
    intro j f h hj hf
    obtain ⟨f, rfl⟩ : ∃ k, f = k + 1 := ⟨f - 1, by omega⟩
    unfold fb_X9_mixNode_50 fn_X9_mix
    rw [f_inputs hT hk, Option.bind_some]
    dsimp only
    rw [if_neg (nI_ge (by omega) (by omega)), z_gi9, Option.bind_some, f_input9 hT hG hN hi hk hV (by omega), Option.bind_some, Option.bind_some, nI_1]
    exact ih (j + 1) f _ (by omega) (by omega)
theorem f_mix20 (hT : zT m) (hG : zGC m 10 N V) (hN : N ≤ 12) (hi : i < N) (hk : k < 7) (hV : V i 0 = nI k) (hte : ∀ w, w < 6 → fn_X9_node (some 9) (nI i) (nI w) (zC n m p) = some (te i w, zC n m p)) : ∀ (d j f : Nat) (h : Int64), j + d = 6 → d < f → fb_X9_mixNode_20 f (some 9) (nI i) h (nI k) (nI j) (zC n m p) = some (zmf (fun q => V i (6 + q)) (zpn k) 0 (zmf (fun q => V i (3 + q)) (zin k) 0 (zmf (te i) d j h)), zC n m p) := by
  have h4 := (zin_lt k hk).1
  intro d
  induction d with
  | zero =>
    intro j f h hj hf
    obtain ⟨f, rfl⟩ : ∃ k, f = k + 1 := ⟨f - 1, by omega⟩
    obtain rfl : j = 6 := by omega
    have h50 := f_mix50 (n := n) (p := p) hT hG hN hi hk hV (zin k) 0 10000 h (by omega) (by omega)
    rw [nI_0] at h50
    unfold fb_X9_mixNode_20
    rw [if_pos (by decide), h50]
    rfl
  | succ d ih =>
    intro j f h hj hf
    obtain ⟨f, rfl⟩ : ∃ k, f = k + 1 := ⟨f - 1, by omega⟩
    unfold fb_X9_mixNode_20 fn_X9_mix
    rw [if_neg (show ¬ (6 : Int32) ≤ nI j from nI_ge (b := 6) (by omega) (by omega)), z_gi9, Option.bind_some, hte j (by omega), Option.bind_some, Option.bind_some, nI_1]
    exact ih (j + 1) f _ (by omega) (by omega)
theorem f_mixNode (hOK : zOK N V) (hT : zT m) (hG : zGC m 10 N V) (hi : i < N) (hte : ∀ w, w < 6 → fn_X9_node (some 9) (nI i) (nI w) (zC n m p) = some (te i w, zC n m p)) (h : Int64) : fn_X9_mixNode (some 9) h (nI i) (zC n m p) = some (znh te V i h, zC n m p) := by
  have hN := hOK.1
  obtain ⟨k, hk, hV⟩ := z_kind hOK hi
  obtain ⟨hb, -⟩ := zGB_node (p := p) z10 (show i < 12 by omega)
  obtain ⟨b9, b1, t0, t1, t2, q3, q4⟩ := zNB_ok (n := n) (p := p) hb
  have h20 := f_mix20 (n := n) (p := p) hT hG hN hi hk hV hte 6 0 10000 h (by omega) (by omega)
  rw [nI_0] at h20
  unfold fn_X9_mixNode znh
  rw [z_cr, show zR p 9 0 = some 10 from rfl, Option.bind_some, z_gr0, show zR p 10 0 = some (10 + 1) from rfl, Option.bind_some, z_nodes z10 (by omega), Option.bind_some, z_gi (a := 10 + 5 + 3 * i) (t := 2) (by omega) (by rw [t0]), hG.2.1 i 0 hi (by omega), hV, Option.bind_some, nI_clamp (by omega), h20]
theorem f_ck76 (hN : N ≤ 12) (hm : m 10 1 = nI N) (hc : zCX m p X Y c K W E) (hi : i < N) {k62 : Option Nat → Int64 → Int32 → ax_S → Option (Int64 × ax_S)} : ∀ (d j f : Nat) (h : Int64), j + d = 10 → d < f → fb_X9_checksum_76 k62 f (some 9) h (nI i) (nI j) (zC n m p) = k62 (some 9) (zmf (zkb K i) d j h) (nI (i + 1)) (zC n m p) := by
  intro d
  induction d with
  | zero =>
    intro j f h hj hf
    obtain ⟨f, rfl⟩ : ∃ k, f = k + 1 := ⟨f - 1, by omega⟩
    obtain rfl : j = 10 := by omega
    unfold fb_X9_checksum_76
    rw [if_pos (by decide), nI_1]
    rfl
  | succ d ih =>
    intro j f h hj hf
    obtain ⟨f, rfl⟩ : ∃ k, f = k + 1 := ⟨f - 1, by omega⟩
    unfold fb_X9_checksum_76 fn_X9_mix
    rw [if_neg (show ¬ (10 : Int32) ≤ nI j from nI_ge (b := 10) (by omega) (by omega)), z_gi9, Option.bind_some, f_isCached9 hN hm hc hi (by omega), Option.bind_some, Option.bind_some, nI_1]
    exact ih (j + 1) f _ (by omega) (by omega)
theorem f_ck62 (hN : N ≤ 12) (hm : m 10 1 = nI N) (hc : zCX m p X Y c K W E) : ∀ (d i f : Nat) (h : Int64), i + d = N → d < f → fb_X9_checksum_62 f (some 9) h (nI i) (zC n m p) = some (zck3 K d i h, zC n m p) := by
  intro d
  induction d with
  | zero =>
    intro i f h hi hf
    obtain ⟨f, rfl⟩ : ∃ k, f = k + 1 := ⟨f - 1, by omega⟩
    unfold fb_X9_checksum_62
    rw [z_cr, show zR p 9 0 = some 10 from rfl, Option.bind_some, z_g1, hm, Option.bind_some, if_pos (nI_le (by omega) (by omega))]
    rfl
  | succ d ih =>
    intro i f h hi hf
    obtain ⟨f, rfl⟩ : ∃ k, f = k + 1 := ⟨f - 1, by omega⟩
    have h76 := f_ck76 (n := n) hN hm hc (show i < N by omega) (k62 := fb_X9_checksum_62 f) 10 0 10000 h rfl (by omega)
    rw [nI_0] at h76
    unfold fb_X9_checksum_62
    rw [z_cr, show zR p 9 0 = some 10 from rfl, Option.bind_some, z_g1, hm, Option.bind_some, if_neg (nI_ge (by omega) (by omega)), h76, ih (i + 1) f _ (by omega) (by omega)]
    rfl
theorem f_ck39 (hN : N ≤ 12) (hm : m 10 1 = nI N) (hc : zCX m p X Y c K W E) : ∀ (d j f : Nat) (h : Int64), j + d = 5 → d < f → fb_X9_checksum_39 f (some 9) h (nI j) (zC n m p) = some (zck3 K N 0 (zmf (fun k => nI (c (zci k))) d j h), zC n m p) := by
  intro d
  induction d with
  | zero =>
    intro j f h hj hf
    obtain ⟨f, rfl⟩ : ∃ k, f = k + 1 := ⟨f - 1, by omega⟩
    obtain rfl : j = 5 := by omega
    have h62 := f_ck62 (n := n) hN hm hc N 0 10000 h (by omega) (by omega)
    rw [nI_0] at h62
    unfold fb_X9_checksum_39
    rw [if_pos (by decide), h62]
    rfl
  | succ d ih =>
    intro j f h hj hf
    obtain ⟨f, rfl⟩ : ∃ k, f = k + 1 := ⟨f - 1, by omega⟩
    unfold fb_X9_checksum_39 fn_X9_mix
    rw [if_neg (show ¬ (5 : Int32) ≤ nI j from nI_ge (b := 5) (by omega) (by omega)), z_gi9, Option.bind_some, f_count9 hc (by omega), Option.bind_some, Option.bind_some, nI_1]
    exact ih (j + 1) f _ (by omega) (by omega)
theorem f_ck13 (hOK : zOK N V) (hT : zT m) (hG : zGC m 10 N V) (hc : zCX m p X Y c K W E) (hte : ∀ i, i < N → ∀ w, w < 6 → fn_X9_node (some 9) (nI i) (nI w) (zC n m p) = some (te i w, zC n m p)) : ∀ (d i f : Nat) (h : Int64), i + d = N → d < f → fb_X9_checksum_13 f (some 9) h (nI i) (zC n m p) = some (zck3 K N 0 (zmf (fun k => nI (c (zci k))) 5 0 (zck1 te V d i h)), zC n m p) := by
  have hN := hOK.1
  intro d
  induction d with
  | zero =>
    intro i f h hi hf
    obtain ⟨f, rfl⟩ : ∃ k, f = k + 1 := ⟨f - 1, by omega⟩
    have h39 := f_ck39 (n := n) hN hG.1 hc 5 0 10000 h rfl (by omega)
    rw [nI_0] at h39
    unfold fb_X9_checksum_13
    rw [z_cr, show zR p 9 0 = some 10 from rfl, Option.bind_some, z_g1, hG.1, Option.bind_some, if_pos (nI_le (by omega) (by omega)), h39]
    rfl
  | succ d ih =>
    intro i f h hi hf
    obtain ⟨f, rfl⟩ : ∃ k, f = k + 1 := ⟨f - 1, by omega⟩
    unfold fb_X9_checksum_13
    rw [z_cr, show zR p 9 0 = some 10 from rfl, Option.bind_some, z_g1, hG.1, Option.bind_some, if_neg (nI_ge (by omega) (by omega)), z_gi9, Option.bind_some, f_mixNode hOK hT hG (by omega) (hte i (by omega)), Option.bind_some, nI_1]
    exact ih (i + 1) f _ (by omega) (by omega)
end CK
