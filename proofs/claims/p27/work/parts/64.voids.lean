/-! ===== voids of both programs; a node is changed ===== -/
section CONG
variable {N i : Nat} {P : Int32} {V V' : Nat → Nat → Int32}
def zSameI (V V' : Nat → Nat → Int32) : Prop := ∀ i k, k < 3 → zI V' i k = zI V i k
theorem zrd_cg (h : zSameI V V') : zrd V' P i = zrd V P i := by
  unfold zrd
  rw [zis_congr (h i)]
theorem znf_cg (h : zSameI V V') : ∀ d i, znf V' P d i = znf V P d i := by
  intro d
  induction d with
  | zero => intro i; rfl
  | succ d ih =>
    intro i
    unfold znf
    rw [zrd_cg h, ih]
theorem zpl_cg (h : zSameI V V') : ∀ t, zpl N V' t = zpl N V t := by
  intro t
  induction t with
  | zero => rfl
  | succ t ih =>
    show zpl N V' t ||| z1 (znf V' (zpl N V' t) N 0) = zpl N V t ||| z1 (znf V (zpl N V t) N 0)
    rw [ih, znf_cg h]
theorem zord_cg (h : zSameI V V') (t : Nat) : zord N V' t = zord N V t := by
  show znf V' (zpl N V' t) N 0 = znf V (zpl N V t) N 0
  rw [zpl_cg h, znf_cg h]
theorem zfd_cg (h : zSameI V V') (a : Nat) : ∀ t, zfd N V' a t = zfd N V a t := by
  intro t
  induction t with
  | zero => rfl
  | succ t ih => rw [zfd_s, zfd_s, zord_cg h, ih, zis_congr (h _)]
theorem zmx_cg {D : Nat → Nat} {v w : Nat → Int32} (h : ∀ k, k < 3 → v k = w k) : ∀ c, c ≤ 3 → zmx D v c = zmx D w c := by
  intro c
  induction c with
  | zero => intro _; rfl
  | succ c ih =>
    intro hc
    unfold zmx
    rw [h c (by omega), ih (by omega)]
theorem zOC_cg {m m' : Nat → Nat → Int32} {g : Nat} (h : zOC m g N V) (hI : zSameI V V') (hf : m' (g + 2) = m (g + 2) ∧ m' (g + 3) = m (g + 3) ∧ m' (g + 4) = m (g + 4)) : zOC m' g N V' := by
  obtain ⟨h1, D, d1, d2, d3⟩ := h
  refine ⟨fun t ht => by rw [zord_cg hI, hf.1, hf.2.1]; exact h1 t ht, D, fun i hi => (d1 i hi).trans (zmx_cg (fun k hk => (hI i k hk).symm) 3 (Nat.le_refl _)), d2, fun i hi => by rw [hf.2.2]; exact d3 i hi⟩
theorem zSameI_set {w : Nat} {x : Int32} (hw : w < 3 ∨ 6 ≤ w) : zSameI V (zVset V i w x) := fun a k hk => ax_u2_nk (by omega)
theorem zdep_cg (h : ∀ b k, b ≠ i → k < 3 → zI V' b k = zI V b k) {b : Nat} (hd : zdep N V i b) : zdep N V' i b := by
  obtain ⟨n, hn⟩ := hd
  induction n generalizing b with
  | zero =>
    have e : i = b := hn
    subst e
    exact zdep_rf _
  | succ n ih =>
    rcases hn with e | ⟨j, k, hj, hk, e, hn⟩
    · subst e
      exact zdep_rf _
    · by_cases hb : b = i
      · subst hb
        exact zdep_rf _
      · exact zdep_step hj hk ((h b k hb hk).trans e) (ih hn)
theorem zfd_link (hV : zOK N V) (hV' : zOK N V') (hi : i < N) (h : ∀ b k, b ≠ i → k < 3 → zI V' b k = zI V b k) : zfd N V' i N = zfd N V i N := by
  obtain ⟨a1, a2⟩ := zfd_dep hV hi
  obtain ⟨b1, b2⟩ := zfd_dep hV' hi
  exact zext b1 a1 (fun t ht => (b2 t ht).trans (Iff.trans ⟨fun q => ⟨q.1, zdep_cg (fun b k hb hk => (h b k hb hk).symm) q.2⟩, fun q => ⟨q.1, zdep_cg h q.2⟩⟩ (a2 t ht).symm))
theorem zOK_rng {f l : Nat} (h : zOK N V) (h1 : f ≤ l) (h2 : l ≤ 99) : zOK N (zVset (zVset V i 1 (nI f)) i 2 (nI l)) := by
  obtain ⟨g1, g2, rk, g3⟩ := h
  have hv : ∀ a b, b ≠ 1 → b ≠ 2 → zVset (zVset V i 1 (nI f)) i 2 (nI l) a b = V a b := fun a b p q => (ax_u2_nk q).trans (ax_u2_nk p)
  have e1 : ∀ a c, zI (zVset (zVset V i 1 (nI f)) i 2 (nI l)) a c = zI V a c := fun a c => hv a _ (by omega) (by omega)
  refine ⟨g1, fun a ha => ?_, rk, fun a j c hi hj hc e => g3 a j c hi hj hc (by rw [← e1 a c]; exact e)⟩
  obtain ⟨⟨k', k1, k2, k3, k4⟩, ⟨f', l', f1, f2, f3, f4⟩, c⟩ := g2 a ha
  refine ⟨⟨k', k1, by rw [hv _ _ (by omega) (by omega)]; exact k2, fun j hj hz => by rw [hv _ _ (by omega) (by omega)]; exact k3 j hj hz, fun q hq => by rw [hv _ _ (by omega) (by omega)]; exact k4 q hq⟩, ?_, fun q hq => by rw [e1 a q]; exact c q hq⟩
  by_cases hai : a = i
  · subst hai
    exact ⟨f, l, h1, h2, (ax_u2_nk (by omega)).trans ax_u2_self, ax_u2_self⟩
  · exact ⟨f', l', f1, f2, ((ax_u2_ne hai _).trans (ax_u2_ne hai _)).trans f3, ((ax_u2_ne hai _).trans (ax_u2_ne hai _)).trans f4⟩
end CONG
def zvoid (C : zSt) (b : Nat → Nat → Bool) (k : Nat) : zSt := (va_up (va_up C.1 2 k) 7 (C.1 7 + (C.1 2 - k)), zKf C.2.1 b, C.2.2)
theorem zv_10 (y : Nat) : ¬ ((1 : Int32) ≤ nI y ∧ nI y ≤ 0) := fun h => absurd (Int32.le_trans h.1 h.2) (by decide)
theorem zvb_vm (s a0 a1 : Int32) : zvb s a0 a1 1 0 = zvm s a0 a1 1 0 := by
  funext x y
  unfold zvb zvm
  rw [show decide ((1 : Int32) ≤ nI y ∧ nI y ≤ 0) = false from decide_eq_false (zv_10 y)]
  simp
theorem zvb_two (s a0 a1 b0 b1 : Int32) (x y : Nat) : zvb s a0 a1 b0 b1 x y = (zvm s a0 a1 b0 b1 x y || zvm s b0 b1 a0 a1 x y) := by
  unfold zvb zvm
  cases decide ((s >>> (nI x &&& 31)) &&& 1 = 1) <;> cases decide (a0 ≤ nI y ∧ nI y ≤ a1) <;> cases decide (b0 ≤ nI y ∧ nI y ≤ b1) <;> rfl
theorem zKf_two (K : Nat → Nat → Nat) (s a0 a1 b0 b1 : Int32) : zKf (zKf K (zvm s a0 a1 b0 b1)) (zvm s b0 b1 a0 a1) = zKf K (zvb s a0 a1 b0 b1) := by
  funext x y
  unfold zKf
  rw [zvb_two]
  cases zvm s a0 a1 b0 b1 x y <;> cases zvm s b0 b1 a0 a1 x y <;> rfl
section VOIDS
variable {n N L B i k : Nat} {m m' : Nat → Nat → Int32} {p X Y c T : Nat → Nat} {V : Nat → Nat → Int32} {C : zSt} {E K : Nat → Nat → Nat} {W : Nat → Nat → Nat → Int32} {x y : Int32} {S : Nat → Option (Nat × (Nat → Nat → Int32))}
theorem zU_kf {U : Nat} {b : Nat → Nat → Bool} (h : zU K U) : zU (zKf K b) U := by
  have e : ∀ x y, zKf K b x y ≠ 0 → zKf K b x y = K x y := fun x y hn => by
    unfold zKf at hn ⊢
    split
    · rename_i q
      rw [if_pos q] at hn
      exact absurd rfl hn
    · rfl
  refine ⟨fun x y => ?_, fun x y a b' h1 h2 => ?_⟩
  · by_cases hz : zKf K b x y = 0
    · omega
    · rw [e x y hz]; exact h.1 x y
  · have h3 : zKf K b a b' ≠ 0 := by rw [← h2]; exact h1
    have e1 := e x y h1
    have e2 := e a b' h3
    exact h.2 x y a b' (by omega) (by omega)
theorem zI5_void {b : Nat → Nat → Bool} (h : zI5 N 0 (C.1 1) C) (hk : k ≤ C.1 2) (hE : zE k (zKf C.2.1 b)) : zI5 N 0 ((zvoid C b k).1 1) (zvoid C b k) ∧ (zvoid C b k).1 1 = C.1 1 := by
  obtain ⟨⟨hU, hU0⟩, hkey, hfr, hE0, hS, hR, hR2⟩ := h
  have u1 : (zvoid C b k).1 1 = C.1 1 := by simp [zvoid, va_up]
  have u2 : (zvoid C b k).1 2 = k := by simp [zvoid, va_up]
  have u3 : (zvoid C b k).1 3 = C.1 3 := by simp [zvoid, va_up]
  have hUk : zU (zKf C.2.1 b) (C.1 1) := zU_kf hU
  refine ⟨⟨⟨by rw [u1]; exact hUk, Nat.le_refl _⟩, fun y g hy => ?_, fun y g hy => ?_, by rw [u2]; exact hE, by omega, by omega, by omega⟩, u1⟩
  · refine hkey y g (fun q => hy ?_)
    show zKf C.2.1 b y g = 0
    unfold zKf
    split
    · rfl
    · exact q
  · have := hUk.1 y g
    rw [u1] at hy
    have h' : C.1 1 < zKf C.2.1 b y g := hy
    omega
/-- the class makes void -/
theorem f_void9 (h : zCa m p X Y C E) (s a0 a1 b0 b1 : Int32) : ∃ m' p' X' Y' k, k ≤ C.1 2 ∧ fn_X0_makeVoidInOne (some 51) s a0 a1 b0 b1 (zC n m p) = some (nI (C.1 2 - k), zC n m' p') ∧ zCa m' p' X' Y' (zvoid C (zvb s a0 a1 b0 b1) k) E ∧ zE k (zKf C.2.1 (zvb s a0 a1 b0 b1)) ∧ ∀ a, a ≠ 51 → m' a = m a := by
  obtain ⟨m', p', X', Y', k, h1, h2, h3, h4⟩ := f_void (n := n) h s a0 a1 b0 b1
  have hP := h3.2.2.2
  rw [va_up_ne (j := 2) _ _ (by omega), va_up_self] at hP
  exact ⟨m', p', X', Y', k, h1, h2, h3, ⟨_, _, _, _, _, _, _, hP⟩, h4⟩
theorem f_makeVoid (s a0 a1 : Int32) : fn_X0_makeVoid (some 51) s a0 a1 (zC n m p) = fn_X0_makeVoidInOne (some 51) s a0 a1 1 0 (zC n m p) := by
  unfold fn_X0_makeVoid
  rw [z_cs, Option.bind_some]
  cases fn_X0_makeVoidInOne (some 51) s a0 a1 1 0 (zC n m p) <;> rfl
theorem zE_u {j k : Nat} (h : zE k K) (hP : ∃ X Y f v e W E, zP X Y j f v e K W E) : j = k := by
  obtain ⟨_, _, _, _, _, _, _, h1⟩ := h
  obtain ⟨_, _, _, _, _, _, _, h2⟩ := hP
  exact zP_sz h2 h1
def zhg (k q : Nat) : Int32 := if nI k = 0 then 999 else if nI k = 1 then 64 else if nI k = 4 then 3 else if nI k = 5 then (if nI q = 0 then 2 else if nI q = 3 then 99 else 255) else 255
theorem zhg_hi : ∀ k, k < 7 → ∀ q, q < zpn k → zhg k q = zhi k q := by decide +kernel
theorem zGC_set {w : Nat} {x : Int32} (h : zGC m 10 N V) (hN : N ≤ 12) (hi : i < N) (hf : ∀ a b, ¬ (a = 10 + 5 + 3 * i + (if w < 3 then 0 else if w < 6 then 1 else 2) ∧ b = (if w < 3 then w else if w < 6 then w - 3 else w - 6)) → m' a b = m a b) (hx : m' (10 + 5 + 3 * i + (if w < 3 then 0 else if w < 6 then 1 else 2)) (if w < 3 then w else if w < 6 then w - 3 else w - 6) = x) (hw : w < 10) : zGC m' 10 N (zVset V i w x) := by
  refine ⟨by rw [hf 10 1 (by omega)]; exact h.1, fun a v ha hv => ?_, fun a v ha hv => ?_, fun a v ha hv => ?_⟩
  · by_cases q : a = i ∧ v = w
    · obtain ⟨rfl, rfl⟩ := q
      rw [if_pos hv, if_pos hv] at hx
      exact hx.trans ax_u2_self.symm
    · rw [hf _ _ (by split <;> (try split) <;> omega), h.2.1 a v ha hv]
      exact (if_neg q).symm
  · by_cases q : a = i ∧ 3 + v = w
    · obtain ⟨rfl, rfl⟩ := q
      rw [if_neg (by omega), if_pos (by omega), if_neg (by omega), if_pos (by omega), show 3 + v - 3 = v by omega] at hx
      exact hx.trans ax_u2_self.symm
    · rw [hf _ _ (by split <;> (try split) <;> omega), h.2.2.1 a v ha hv]
      exact (if_neg q).symm
  · by_cases q : a = i ∧ 6 + v = w
    · obtain ⟨rfl, rfl⟩ := q
      rw [if_neg (by omega), if_neg (by omega), if_neg (by omega), if_neg (by omega), show 6 + v - 6 = v by omega] at hx
      exact hx.trans ax_u2_self.symm
    · rw [hf _ _ (by split <;> (try split) <;> omega), h.2.2.2 a v ha hv]
      exact (if_neg q).symm
end VOIDS
