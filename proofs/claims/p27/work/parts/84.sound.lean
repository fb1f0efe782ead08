/-! ===== the law: orders, depths and counts ===== -/
section SND
variable {n N L B i k c f : Nat} {m : Nat → Nat → Int32} {p T : Nat → Nat} {V : Nat → Nat → Int32} {C : zSt} {S : Nat → Option (Nat × (Nat → Nat → Int32))} {x2 x3 : Int32} {k64 : Option Nat → Int32 → Int32 → Int32 → Int32 → Int32 → ax_S → Option (Int32 × ax_S)}
theorem zkb_n {K : Nat → Nat → Nat} {i g : Nat} : zkb K i g = nI (if K i g = 0 then 0 else 1) := by
  unfold zkb
  split <;> rfl
theorem l_s308 (h1 : zCls m p ((N, V), C, (L, T), S)) (hi : i < N) : ∀ (d g f : Nat), g + d = 100 → d < f → fb_L_sound_308 k64 f (some 9) (nI N) x2 (nI (c + zrwc C.2.1 i g)) 1 (nI i) (nI g) (zC n m p) = k64 (some 9) (nI N) x2 (nI (c + zrwc C.2.1 i 100)) 1 (nI (i + 1)) (zC n m p) := by
  intro d
  induction d with
  | zero =>
    intro g f hg hf
    obtain ⟨f, rfl⟩ : ∃ k, f = k + 1 := ⟨f - 1, by omega⟩
    obtain rfl : g = 100 := by omega
    unfold fb_L_sound_308
    rw [if_pos (by decide), nI_1]
  | succ d ih =>
    intro g f hg hf
    obtain ⟨f, rfl⟩ : ∃ k, f = k + 1 := ⟨f - 1, by omega⟩
    unfold fb_L_sound_308 ax_bd
    rw [if_neg (show ¬ (100 : Int32) ≤ nI g from nI_ge (b := 100) (by omega) (by omega)), z_gi9, Option.bind_some, k_isCached h1 hi (show g < 100 by omega), Option.bind_some]
    dsimp only
    rw [zkb_n, nI_add, nI_1, Nat.add_assoc]
    exact ih (g + 1) f (by omega) (by omega)
theorem l_s245 (h1 : zCls m p ((N, V), C, (L, T), S)) (h3 : zAbs B ((N, V), C, (L, T), S)) (hi : i < N) (hk : k < 7) (hv : V i 0 = nI k) : ∀ (d q f : Nat), q + d = zpn k → d < f → fb_L_sound_245 k64 f (some 9) (nI N) x2 x3 1 (nI i) (nI k) (nI q) (zC n m p) = fb_L_sound_308 k64 10000 (some 9) (nI N) x2 x3 1 (nI i) 0 (zC n m p) := by
  have h4 := (zin_lt k hk).2
  intro d
  induction d with
  | zero =>
    intro q f hq hf
    obtain ⟨f, rfl⟩ : ∃ k, f = k + 1 := ⟨f - 1, by omega⟩
    unfold fb_L_sound_245
    rw [l_parameters hk, Option.bind_some]
    dsimp only
    rw [if_pos (nI_le (by omega) (by omega))]
  | succ d ih =>
    intro q f hq hf
    obtain ⟨f, rfl⟩ : ∃ k, f = k + 1 := ⟨f - 1, by omega⟩
    obtain ⟨⟨k', k1, k2, -, k4⟩, -, -⟩ := h3.1.2.1 i hi
    obtain rfl : k' = k := nI_inj (by omega) (by omega) (k2.symm.trans hv)
    obtain ⟨hlo, hhi⟩ := k4 q (by omega)
    unfold fb_L_sound_245
    rw [l_parameters hk, Option.bind_some]
    dsimp only
    rw [if_neg (nI_ge (by omega) (by omega)), if_neg (by decide), z_gi9, Option.bind_some, k_parameter h1 h3 hi hk hv (by omega), Option.bind_some]
    dsimp only
    rw [l_high hk (by omega), Option.bind_some]
    dsimp only
    rw [if_neg (Int32.not_lt.mpr hhi), z_gi9, Option.bind_some, k_parameter h1 h3 hi hk hv (by omega), Option.bind_some]
    dsimp only
    rw [if_neg (Int32.not_lt.mpr (Int32.le_trans (zlo_255 k' hk q (by omega)) hlo)), nI_1]
    exact ih (q + 1) f (by omega) (by omega)
theorem l_s145 (h1 : zCls m p ((N, V), C, (L, T), S)) (h3 : zAbs B ((N, V), C, (L, T), S)) (hi : i < N) (hk : k < 7) (hv : V i 0 = nI k) : ∀ (d j f : Nat), j + d = zin k → d < f → fb_L_sound_145 k64 f (some 9) (nI N) x2 x3 1 (nI i) (nI k) (nI j) (zC n m p) = fb_L_sound_245 k64 10000 (some 9) (nI N) x2 x3 1 (nI i) (nI k) 0 (zC n m p) := by
  have h4 := (zin_lt k hk).1
  have hOK := h3.1
  have hN := hOK.1
  obtain ⟨D, hD1, hD2, -⟩ := h1.1.2.1.2.2.2
  obtain ⟨d1, d2⟩ := zD_ok hD1 hD2
  intro d
  induction d with
  | zero =>
    intro j f hj hf
    obtain ⟨f, rfl⟩ : ∃ k, f = k + 1 := ⟨f - 1, by omega⟩
    unfold fb_L_sound_145
    rw [l_inputs hk, Option.bind_some]
    dsimp only
    rw [if_pos (nI_le (by omega) (by omega))]
  | succ d ih =>
    intro j f hj hf
    obtain ⟨f, rfl⟩ : ∃ k, f = k + 1 := ⟨f - 1, by omega⟩
    unfold fb_L_sound_145
    rw [l_inputs hk, Option.bind_some]
    dsimp only
    rw [if_neg (nI_ge (by omega) (by omega)), if_neg (by decide), z_gi9, Option.bind_some, k_input h1 h3 hi hk hv (by omega), Option.bind_some]
    dsimp only
    rcases (hOK.2.1 i hi).2.2 j (by omega) with e | ⟨t, ht, e⟩
    · have e' : V i (3 + j) = -1005 := e
      rw [if_pos e']
      unfold fb_L_sound_229
      rw [nI_1]
      exact ih (j + 1) f (by omega) (by omega)
    · have e' : V i (3 + j) = nI t := e
      have n4 : ∀ a, a < N → fn_X9_node (some 9) (nI a) 4 (zC n m p) = some (nI (zpos N V a), zC n m p) := fun a ha => by
        have := k_node (n := n) h1 h3 ha (q := 4) (by omega)
        exact this
      have n5 : ∀ a, a < N → fn_X9_node (some 9) (nI a) 5 (zC n m p) = some (nI (zD N V a), zC n m p) := fun a ha => by
        have := k_node (n := n) h1 h3 ha (q := 5) (by omega)
        exact this
      have n3 : ∀ a, a < N → fn_X9_node (some 9) (nI a) 3 (zC n m p) = some (zbc (zfd N V a N), zC n m p) := fun a ha => by
        have := k_node (n := n) h1 h3 ha (q := 3) (by omega)
        exact this
      have p1 := zpos_lt hOK hi ht (show j < 3 by omega) e'
      have p2 := (zpos_ok hOK hi).1
      have p3 := zD_lt hOK d1 hi ht (show j < 3 by omega) e'
      have p4 := d2 i hi
      have p5 := zdeps_lt hOK hi ht (show j < 3 by omega) e'
      rw [e', if_neg (nI_ne_none (by omega)), z_gi9, Option.bind_some, n4 t ht, Option.bind_some]
      dsimp only
      rw [z_gi9, Option.bind_some, n4 i hi, Option.bind_some]
      dsimp only
      rw [if_neg (nI_ge p1 (by omega)), z_gi9, Option.bind_some, n5 t ht, Option.bind_some]
      dsimp only
      rw [z_gi9, Option.bind_some, n5 i hi, Option.bind_some]
      dsimp only
      rw [if_neg (nI_ge p3 (by omega)), z_gi9, Option.bind_some, n3 t ht, Option.bind_some]
      dsimp only
      rw [z_gi9, Option.bind_some, n3 i hi, Option.bind_some]
      dsimp only
      rw [if_neg (Int32.not_le.mpr p5)]
      unfold fb_L_sound_229
      rw [nI_1]
      exact ih (j + 1) f (by omega) (by omega)
theorem l_s64 (h1 : zCls m p ((N, V), C, (L, T), S)) (h3 : zAbs B ((N, V), C, (L, T), S)) : ∀ (d i f : Nat), i + d = N → d < f → fb_L_sound_64 f (some 9) (nI N) (zpls N V i) (nI (zcls C.2.1 i)) 1 (nI i) (zC n m p) = some (1, zC n m p) := by
  have hOK := h3.1
  have hN := hOK.1
  intro d
  induction d with
  | zero =>
    intro i f hi hf
    obtain ⟨f, rfl⟩ : ∃ k, f = k + 1 := ⟨f - 1, by omega⟩
    obtain rfl : i = N := by omega
    have hc0 := k_count (n := n) h1 (q := 0) (by omega)
    rw [nI_0] at hc0
    have hS : zcls C.2.1 i = C.1 2 := zcls_S _ _ h3.2.1.2.2.2.1 (fun y g hy => ⟨(h3.2.1.2.1 y g hy).1, (h3.2.1.2.1 y g hy).2.1⟩)
    unfold fb_L_sound_64 fb_L_sound_338
    rw [if_pos (nI_le (by omega) (by omega)), if_neg (by decide), if_pos (zpls_full hOK), z_gi9, Option.bind_some, hc0, Option.bind_some]
    dsimp only
    rw [if_pos (show nI (zcls C.2.1 i) = nI (C.1 (zci 0)) by rw [hS]; rfl)]
  | succ d ih =>
    intro i f hi hf
    obtain ⟨f, rfl⟩ : ∃ k, f = k + 1 := ⟨f - 1, by omega⟩
    have hiN : i < N := by omega
    obtain ⟨k, hk, hv⟩ := z_kind hOK hiN
    obtain ⟨-, ⟨fr, la, fl1, fl2, fl3, fl4⟩, -⟩ := hOK.2.1 i hiN
    obtain ⟨c, c1, c2, c3⟩ := zdeps_in hOK hiN
    have n0 : fn_X9_node (some 9) (nI i) 0 (zC n m p) = some (nI k, zC n m p) := (k_node (n := n) h1 h3 hiN (q := 0) (by omega)).trans (by rw [show zTell N V i 0 = V i 0 from if_pos (by omega), hv])
    have n1 : fn_X9_node (some 9) (nI i) 1 (zC n m p) = some (nI fr, zC n m p) := (k_node (n := n) h1 h3 hiN (q := 1) (by omega)).trans (by rw [show zTell N V i 1 = V i 1 from if_pos (by omega), fl3])
    have n2 : fn_X9_node (some 9) (nI i) 2 (zC n m p) = some (nI la, zC n m p) := (k_node (n := n) h1 h3 hiN (q := 2) (by omega)).trans (by rw [show zTell N V i 2 = V i 2 from if_pos (by omega), fl4])
    have n3 : fn_X9_node (some 9) (nI i) 3 (zC n m p) = some (nI c, zC n m p) := (k_node (n := n) h1 h3 hiN (q := 3) (by omega)).trans (by rw [show zTell N V i 3 = zbc (zfd N V i N) from rfl, c3])
    have n4 : fn_X9_node (some 9) (nI i) 4 (zC n m p) = some (nI (zpos N V i), zC n m p) := k_node (n := n) h1 h3 hiN (q := 4) (by omega)
    unfold fb_L_sound_64 ax_bd
    rw [if_neg (nI_ge hiN (by omega)), if_neg (by decide), z_gi9, Option.bind_some, n0, Option.bind_some]
    dsimp only
    rw [z_gi9, Option.bind_some, n4, Option.bind_some]
    dsimp only
    rw [z_gi9, Option.bind_some, n3, Option.bind_some]
    dsimp only
    rw [if_neg (show ¬ nI c < (1 : Int32) from Int32.not_lt.mpr (nI_le (a := 1) c1 (by omega))), z_gi9, Option.bind_some, n3, Option.bind_some]
    dsimp only
    rw [if_neg (Int32.not_lt.mpr (nI_le c2 (by omega))), z_gi9, Option.bind_some, n1, Option.bind_some]
    dsimp only
    rw [z_gi9, Option.bind_some, n2, Option.bind_some]
    dsimp only
    rw [if_neg (Int32.not_lt.mpr (nI_le fl1 (by omega)))]
    have e145 := l_s145 (n := n) (k64 := fb_L_sound_64 f) (x2 := zpls N V i ||| 1 <<< (nI (zpos N V i) &&& 31)) (x3 := nI (zcls C.2.1 i)) h1 h3 hiN hk hv (zin k) 0 10000 (by omega) (by have := (zin_lt k hk).1; omega)
    have e245 := l_s245 (n := n) (k64 := fb_L_sound_64 f) (x2 := zpls N V i ||| 1 <<< (nI (zpos N V i) &&& 31)) (x3 := nI (zcls C.2.1 i)) h1 h3 hiN hk hv (zpn k) 0 10000 (by omega) (by have := (zin_lt k hk).2; omega)
    have e308 := l_s308 (n := n) (k64 := fb_L_sound_64 f) (x2 := zpls N V i ||| 1 <<< (nI (zpos N V i) &&& 31)) (c := zcls C.2.1 i) h1 hiN 100 0 10000 (by omega) (by omega)
    rw [nI_0] at e145 e245 e308
    rw [show zcls C.2.1 i + zrwc C.2.1 i 0 = zcls C.2.1 i from rfl] at e308
    rw [e145, e245, e308]
    exact ih (i + 1) f (by omega) (by omega)
theorem l_sound {P : Nat → Nat → Nat → Int32} (h1 : zCls m p ((N, V), C, (L, T), S)) (h3 : zAbs B ((N, V), C, (L, T), S)) (hQ : zQV P C) (hB : B < 2 ^ 30) : fn_L_sound (some 9) (nI N) (zC n m p) = some (1, zC n m p) := by
  have hOK := h3.1
  have hN := hOK.1
  have u1 := h3.2.2.1
  obtain ⟨-, q2, q3⟩ := hQ
  have u3 : C.1 2 ≤ 48 := Nat.le_trans h3.2.1.2.2.2.2.1 h3.2.1.2.2.2.2.2.2
  have c0 : fn_X9_count (some 9) 0 (zC n m p) = some (nI (C.1 2), zC n m p) := k_count (n := n) h1 (q := 0) (by omega)
  have c2 : fn_X9_count (some 9) 2 (zC n m p) = some (nI (C.1 5), zC n m p) := k_count (n := n) h1 (q := 2) (by omega)
  have c3 : fn_X9_count (some 9) 3 (zC n m p) = some (nI (C.1 6), zC n m p) := k_count (n := n) h1 (q := 3) (by omega)
  have c4 : fn_X9_count (some 9) 4 (zC n m p) = some (nI (C.1 7), zC n m p) := k_count (n := n) h1 (q := 4) (by omega)
  have e64 := l_s64 (n := n) h1 h3 N 0 10000 (by omega) (by omega)
  rw [nI_0] at e64
  unfold fn_L_sound fi_L_sound
  rw [z_gi9, Option.bind_some, k_nodes h1, Option.bind_some]
  dsimp only
  rw [if_pos rfl, z_gi9, Option.bind_some, c0, Option.bind_some]
  dsimp only
  rw [if_neg (show ¬ (48 : Int32) < nI (C.1 2) from Int32.not_lt.mpr (nI_le (b := 48) u3 (by omega))), z_gi9, Option.bind_some, c0, Option.bind_some]
  dsimp only
  rw [z_gi9, Option.bind_some, c2, Option.bind_some]
  dsimp only
  rw [if_neg (Int32.not_lt.mpr (nI_le (by omega) (by omega))), z_gi9, Option.bind_some, c3, Option.bind_some]
  dsimp only
  rw [z_gi9, Option.bind_some, c4, Option.bind_some]
  dsimp only
  rw [z_gi9, Option.bind_some, c2, Option.bind_some]
  dsimp only
  rw [nI_add, if_neg (Int32.not_lt.mpr (nI_le (by omega) (by omega)))]
  refine (congrArg ax_bz e64).trans zbz1
end SND
