/-! ===== the model: places, numbers of bits ===== -/
def zq (b : Bool) : Int32 := if b then 1 else 0
def zry (V : Nat → Nat → Int32) (P : Int32) (i : Nat) : Nat → Bool
  | 0 => true
  | c + 1 => zry V P i c && (decide (zI V i c < 0) || decide ((P >>> (zI V i c &&& 31)) &&& 1 = 1))
theorem zry_ok {N i : Nat} {V : Nat → Nat → Int32} {P : Int32} (h : zOK N V) (hi : i < N) : zry V P i 3 = true ↔ ∀ j k, j < N → k < 3 → zI V i k = nI j → zb P j := by
  have hN := h.1
  have one : ∀ c, c < 3 → ((decide (zI V i c < 0) || decide ((P >>> (zI V i c &&& 31)) &&& 1 = 1)) = true ↔ ∀ j, j < N → zI V i c = nI j → zb P j) := by
    intro c hc
    rcases (h.2.1 i hi).2.2 c hc with hn | ⟨j, hj, he⟩
    · constructor
      · intro _ j hj e
        rw [hn] at e
        exact absurd e.symm (nI_ne_none (by omega))
      · intro _
        simp [z_neg hn]
    · rw [he]
      constructor
      · intro hb j' hj' e
        have : j = j' := nI_inj (by omega) (by omega) e
        subst this
        simp only [Bool.or_eq_true, decide_eq_true_eq] at hb
        rcases hb with hb | hb
        · exact absurd hb (nI_pos (by omega))
        · exact hb
      · intro hb
        have := hb j hj rfl
        simp only [Bool.or_eq_true, decide_eq_true_eq]
        exact Or.inr this
  have e : zry V P i 3 = ((((true && (decide (zI V i 0 < 0) || decide ((P >>> (zI V i 0 &&& 31)) &&& 1 = 1))) && (decide (zI V i 1 < 0) || decide ((P >>> (zI V i 1 &&& 31)) &&& 1 = 1)))) && (decide (zI V i 2 < 0) || decide ((P >>> (zI V i 2 &&& 31)) &&& 1 = 1))) := rfl
  rw [e, Bool.and_eq_true, Bool.and_eq_true, Bool.and_eq_true, one 0 (by omega), one 1 (by omega), one 2 (by omega)]
  constructor
  · rintro ⟨⟨⟨-, a⟩, b⟩, c⟩ j k hj hk e
    have : k = 0 ∨ k = 1 ∨ k = 2 := by omega
    rcases this with rfl | rfl | rfl
    · exact a j hj e
    · exact b j hj e
    · exact c j hj e
  · intro hh
    exact ⟨⟨⟨rfl, fun j hj e => hh j 0 hj (by omega) e⟩, fun j hj e => hh j 1 hj (by omega) e⟩, fun j hj e => hh j 2 hj (by omega) e⟩
section MPL
variable {n N i k c : Nat} {m : Nat → Nat → Int32} {p : Nat → Nat} {V : Nat → Nat → Int32} {x y P : Int32}
theorem f_mReady_lp (hG : zGM m N V) (hN : N ≤ 12) (hi : i < N) : ∀ (d c f : Nat), c + d = 3 → d < f → fb_X10_isReady_5 f (some 275) (nI i) P (zq (zry V P i c)) (nI c) (zC n m p) = some (zq (zry V P i 3), zC n m p) := by
  intro d
  induction d with
  | zero =>
    intro c f hc hf
    obtain ⟨f, rfl⟩ : ∃ k, f = k + 1 := ⟨f - 1, by omega⟩
    obtain rfl : c = 3 := by omega
    unfold fb_X10_isReady_5
    rw [if_pos (by decide)]
  | succ d ih =>
    intro c f hc hf
    obtain ⟨f, rfl⟩ : ∃ k, f = k + 1 := ⟨f - 1, by omega⟩
    have ih1 := ih (c + 1) f (by omega) (by omega)
    unfold fb_X10_isReady_5
    rw [if_neg (show ¬ (3 : Int32) ≤ nI c from nI_ge (b := 3) (by omega) (by omega)), z_mr, show zR p 275 0 = some 276 from rfl]
    simp only [Option.bind_some, fn_X10_at]
    rw [z_vin hG hN hi (by omega)]
    simp only [Option.bind_some]
    unfold fb_X10_isReady_49 fb_X10_isReady_45
    rw [show nI c + 1 = nI (c + 1) from nI_1 c]
    have hz : zry V P i (c + 1) = (zry V P i c && (decide (zI V i c < 0) || decide ((P >>> (zI V i c &&& 31)) &&& 1 = 1))) := rfl
    cases hr : zry V P i c with
    | false =>
      rw [hr, Bool.false_and] at hz
      rw [hz] at ih1
      rw [if_pos (show zq false = 0 from rfl)]
      exact ih1
    | true =>
      rw [hr, Bool.true_and] at hz
      rw [if_neg (show ¬ zq true = 0 by decide)]
      by_cases h1 : zI V i c < 0
      · rw [if_pos h1]
        simp only [h1, decide_true, Bool.true_or] at hz
        rw [hz] at ih1
        exact ih1
      · rw [if_neg h1]
        by_cases h2 : (P >>> (zI V i c &&& 31)) &&& 1 = 1
        · rw [if_pos h2]
          simp only [h2, decide_true, Bool.or_true] at hz
          rw [hz] at ih1
          exact ih1
        · rw [if_neg h2]
          simp only [h1, h2, decide_false, Bool.or_false] at hz
          rw [hz] at ih1
          exact ih1
theorem f_mReady (hG : zGM m N V) (hN : N ≤ 12) (hi : i < N) : fn_X10_isReady (some 275) (nI i) P (zC n m p) = some (zq (zry V P i 3), zC n m p) := by
  have h := f_mReady_lp (n := n) (p := p) (P := P) hG hN hi 3 0 10000 rfl (by omega)
  rw [nI_0, show zq (zry V P i 0) = 1 from rfl] at h
  unfold fn_X10_isReady fi_X10_isReady
  rw [h]
  cases zry V P i 3 <;> simp [ax_bz, zq]
theorem f_mplace7 (hG : zGM m N V) (h : zOK N V) {t a : Nat} (ht : t < N) {k4 : Option Nat → Int32 → Int32 → Int32 → ax_S → Option (Int32 × ax_S)} (ha : a < N) : ∀ (d j f : Nat), j + d = zord N V t → d < f → fb_X10_placeOf_7 k4 f (some 275) (nI a) (zpl N V t) (nI t) (nI j) (zC n m p) = if zord N V t = a then some (nI t, zC n m p) else k4 (some 275) (nI a) (zpl N V (t + 1)) (nI (t + 1)) (zC n m p) := by
  have hN := h.1
  obtain ⟨o1, o2, o3⟩ := zord_ok h (zunpl h ht)
  intro d
  induction d with
  | zero =>
    intro j f hj hf
    obtain ⟨f, rfl⟩ : ∃ k, f = k + 1 := ⟨f - 1, by omega⟩
    obtain rfl : j = zord N V t := by omega
    obtain ⟨r1, r2⟩ := (zrd_ok h o2).mp o1
    have r3 : zry V (zpl N V t) (zord N V t) 3 = true := (zry_ok h o2).mpr r1
    unfold fb_X10_placeOf_7
    rw [if_neg (show ¬ (zpl N V t >>> (nI (zord N V t) &&& 31)) &&& 1 = 1 from r2), z_mo 0]
    simp only [Option.bind_some]
    rw [f_mReady hG hN o2, r3]
    simp only [Option.bind_some, ax_bd]
    rw [if_neg (show ¬ zq true = 0 by decide)]
    by_cases e : zord N V t = a
    · rw [if_pos (by rw [e]), if_pos e]
    · rw [if_neg (fun q => e (nI_inj (by omega) (by omega) q)), if_neg e, show nI t + 1 = nI (t + 1) from nI_1 t]
      rfl
  | succ d ih =>
    intro j f hj hf
    obtain ⟨f, rfl⟩ : ∃ k, f = k + 1 := ⟨f - 1, by omega⟩
    have ih1 := ih (j + 1) f (by omega) (by omega)
    have hz := o3 j (by omega)
    unfold fb_X10_placeOf_7
    rw [show nI j + 1 = nI (j + 1) from nI_1 j]
    by_cases hb : (zpl N V t >>> (nI j &&& 31)) &&& 1 = 1
    · rw [if_pos hb]
      exact ih1
    · rw [if_neg hb, z_mo 0]
      simp only [Option.bind_some]
      have r3 : zry V (zpl N V t) j 3 = false := by
        cases hr : zry V (zpl N V t) j 3 with
        | false => rfl
        | true =>
          have := (zrd_ok h (show j < N by omega)).mpr ⟨(zry_ok h (by omega)).mp hr, hb⟩
          rw [hz] at this
          cases this
      rw [f_mReady hG hN (by omega), r3]
      simp only [Option.bind_some]
      rw [if_pos (show zq false = 0 from rfl)]
      exact ih1
theorem f_mplace4 (hG : zGM m N V) (h : zOK N V) {T : Nat} (hT : T < N) : ∀ (d t f : Nat), t + d = T → d < f → fb_X10_placeOf_4 f (some 275) (nI (zord N V T)) (zpl N V t) (nI t) (zC n m p) = some (nI T, zC n m p) := by
  have hN := h.1
  intro d
  induction d with
  | zero =>
    intro t f ht hf
    obtain ⟨f, rfl⟩ : ∃ k, f = k + 1 := ⟨f - 1, by omega⟩
    obtain rfl : t = T := by omega
    have hlt : zord N V t < N := zord_lt (by omega)
    unfold fb_X10_placeOf_4
    rw [show (0 : Int32) = nI 0 from rfl, f_mplace7 hG h hT hlt (zord N V t) 0 10000 (by omega) (by omega), if_pos rfl]
  | succ d ih =>
    intro t f ht hf
    obtain ⟨f, rfl⟩ : ∃ k, f = k + 1 := ⟨f - 1, by omega⟩
    have hlt : zord N V t < N := zord_lt (by omega)
    have hlt2 : zord N V T < N := zord_lt (by omega)
    unfold fb_X10_placeOf_4
    rw [show (0 : Int32) = nI 0 from rfl, f_mplace7 hG h (show t < N by omega) hlt2 (zord N V t) 0 10000 (by omega) (by omega), if_neg (zord_inj h (by omega) hT)]
    exact ih (t + 1) f (by omega) (by omega)
theorem f_mplace (hG : zGM m N V) (h : zOK N V) {T : Nat} (hT : T < N) : fn_X10_placeOf (some 275) (nI (zord N V T)) (zC n m p) = some (nI T, zC n m p) := by
  have hN := h.1
  have h1 := f_mplace4 (n := n) (p := p) hG h hT T 0 10000 (by omega) (by omega)
  rw [nI_0, show zpl N V 0 = 0 from rfl] at h1
  unfold fn_X10_placeOf
  exact h1
end MPL
/-! the number of bits, as both programs find it -/
def zsz : Nat → Int32 → Int32 → Option Int32
  | 0, _, _ => none
  | f + 1, a, x => if x = 0 then some a else zsz f (a + 1) (x &&& (x - 1))
def zbc (a0 : Int32) : Int32 :=
  let v1 := a0 - ((a0.toUInt32 >>> ((1 : Int32).toUInt32 &&& Int32.toUInt32 31)).toInt32 &&& 1431655765)
  let v2 := (v1 &&& 858993459) + ((v1.toUInt32 >>> ((2 : Int32).toUInt32 &&& Int32.toUInt32 31)).toInt32 &&& 858993459)
  let v3 := (v2 + (v2.toUInt32 >>> ((4 : Int32).toUInt32 &&& Int32.toUInt32 31)).toInt32) &&& 252645135
  let v4 := v3 + (v3.toUInt32 >>> ((8 : Int32).toUInt32 &&& Int32.toUInt32 31)).toInt32
  let v5 := v4 + (v4.toUInt32 >>> ((16 : Int32).toUInt32 &&& Int32.toUInt32 31)).toInt32
  v5 &&& 63
theorem f_bitCount (x : Int32) (s : ax_S) : fn_J6_bitCount_0f7a4 x s = some (zbc x, s) := rfl
theorem f_size_lp (s : ax_S) : ∀ (f : Nat) (a x : Int32), fb_X10_size_4 f a x s = (zsz f a x).map (fun v => (v, s)) := by
  intro f
  induction f with
  | zero => intro a x; rfl
  | succ f ih =>
    intro a x
    unfold fb_X10_size_4 zsz ax_bd
    by_cases h : x = 0
    · rw [if_pos h, if_pos h]
      rfl
    · rw [if_neg h, if_neg h]
      exact ih _ _
theorem zsz_mono : ∀ (f : Nat) (a x v : Int32), zsz f a x = some v → ∀ k, zsz (f + k) a x = some v := by
  intro f
  induction f with
  | zero => intro a x v h; cases h
  | succ f ih =>
    intro a x v h k
    rw [show f + 1 + k = (f + k) + 1 by omega]
    unfold zsz at h ⊢
    by_cases hx : x = 0
    · rw [if_pos hx] at h ⊢
      exact h
    · rw [if_neg hx] at h ⊢
      exact ih _ _ _ h k
set_option maxRecDepth 100000 in
theorem zbits_all : ((List.range 4096).all fun k => zsz 13 0 (nI k) == some (zbc (nI k))) = true := by decide +kernel
theorem zsm_nI {x : Int32} (h : zsm x) : ∃ k, k < 4096 ∧ x = nI k := by
  refine ⟨x.toBitVec.toNat, ?_, ?_⟩
  · have h1 : x.toBitVec.toNat = (x.toBitVec.setWidth 12).toNat := by
      have e : x.toBitVec = (x.toBitVec.setWidth 12).setWidth 32 := by
        apply BitVec.eq_of_getLsbD_eq
        intro i hi
        by_cases h12 : i < 12
        · simp [hi, h12]
        · rw [h i (by omega) hi]
          simp [h12]
      have e2 := congrArg BitVec.toNat e
      rw [e2]
      simp
      omega
    rw [h1]
    have := (x.toBitVec.setWidth 12).isLt
    omega
  · rw [← Int32.toBitVec_inj]
    apply BitVec.eq_of_toNat_eq
    rw [pk_tn (by have := x.toBitVec.isLt; omega)]
theorem f_size {x : Int32} (hx : zsm x) (s : ax_S) : fn_X10_size x s = some (zbc x, s) := by
  obtain ⟨k, hk, rfl⟩ := zsm_nI hx
  have h1 := List.all_eq_true.mp zbits_all k (List.mem_range.mpr hk)
  have h2 : zsz 13 0 (nI k) = some (zbc (nI k)) := by simpa using h1
  have h3 := zsz_mono 13 0 (nI k) _ h2 9987
  unfold fn_X10_size
  rw [f_size_lp, h3]
  rfl
