/-! ===== calls: setRoom, append, clearText, addNode, save, restore ===== -/
section CALLS3
variable {n N L B : Nat} {m m' : Nat → Nat → Int32} {p X Y c T : Nat → Nat} {V : Nat → Nat → Int32} {C : zSt} {E K : Nat → Nat → Nat} {W : Nat → Nat → Nat → Int32} {x y : Int32} {S : Nat → Option (Nat × (Nat → Nat → Int32))}
theorem zE_pos {U s : Nat} (h : zE s K) (hU : zU K U) (h0 : 0 < s) : K (zmk K).1 (zmk K).2 ≠ 0 := by
  obtain ⟨X, Y, f, v, e, W, E, hP⟩ := h
  obtain ⟨a, b, e1, e2, e3⟩ := zmin_ex _ (X 0) (Y 0) rfl (hP.1 0 h0).2.2.2.2.1
  rw [zmk_is hU e1 e3]
  exact e1
theorem zrm_ok : ∀ (d : Nat) (c : Nat → Nat) (K : Nat → Nat → Nat), d ≤ c 2 → zU K (c 1) → zE (c 2) K → zU (zrmK d K) (c 1) ∧ zE (c 2 - d) (zrmK d K) ∧ (∀ y g, zrmK d K y g ≠ 0 → K y g ≠ 0) ∧ zrmC d c 1 = c 1 ∧ zrmC d c 2 = c 2 - d ∧ zrmC d c 3 = c 3 := by
  intro d
  induction d with
  | zero => intro c K _ hU hE; exact ⟨hU, hE, fun _ _ h => h, rfl, rfl, rfl⟩
  | succ d ih =>
    intro c K hd hU hE
    obtain ⟨z1, z2, z3⟩ := zdrC_1 c
    have hpos := zE_pos hE hU (by omega)
    obtain ⟨a1, a2, a3, a4, a5, a6⟩ := ih (zdrC c) (zdrK K) (by omega) (by rw [z1]; exact zU_rm hU) (by rw [z2]; exact (zE_rm hE hpos).2)
    refine ⟨by rw [← z1]; exact a1, ?_, fun y g h => ?_, a4.trans z1, ?_, a6.trans z3⟩
    · rw [show c 2 - (d + 1) = zdrC c 2 - d by omega]
      exact a2
    · have h1 := a3 y g h
      rw [zdrK_ne h1] at h1
      exact h1
    · show zrmC d (zdrC c) 2 = _
      rw [a5]
      omega
noncomputable def zrom (C : zSt) (r : Nat) : zSt := (zrmC (C.1 2 - r) (va_up C.1 3 r), zrmK (C.1 2 - r) C.2.1, C.2.2)
theorem zI5_rom {r : Nat} (h : zI5 N 0 (C.1 1) C) (h1 : 12 ≤ r) (h2 : r ≤ 48) : zI5 N 0 ((zrom C r).1 1) (zrom C r) ∧ (zrom C r).1 1 = C.1 1 := by
  obtain ⟨⟨hU, hU0⟩, hkey, hfr, hE, hS, hR, hR2⟩ := h
  have u1 : va_up C.1 3 r 1 = C.1 1 := va_up_ne _ _ (by omega)
  have u2 : va_up C.1 3 r 2 = C.1 2 := va_up_ne _ _ (by omega)
  have u3 : va_up C.1 3 r 3 = r := va_up_self _ _ _
  obtain ⟨a1, a2, a3, a4, a5, a6⟩ := zrm_ok (C.1 2 - r) (va_up C.1 3 r) C.2.1 (by omega) (by rw [u1]; exact hU) (by rw [u2]; exact hE)
  rw [u1] at a1 a4
  rw [u2] at a2 a5
  rw [u3] at a6
  have e1 : (zrom C r).1 1 = C.1 1 := a4
  have e2 : (zrom C r).1 2 = C.1 2 - (C.1 2 - r) := a5
  have e3 : (zrom C r).1 3 = r := a6
  refine ⟨⟨⟨by rw [e1]; exact a1, Nat.le_refl _⟩, fun y g hy => ?_, fun y g hy => ?_, by rw [e2]; exact a2, by omega, by omega, by omega⟩, e1⟩
  · obtain ⟨b1, b2, b3⟩ := hkey y g (a3 y g hy)
    exact ⟨b1, b2, b3⟩
  · have := a1.1 y g
    rw [e1] at hy
    have h' : C.1 1 < zrmK (C.1 2 - r) C.2.1 y g := hy
    omega
theorem z_t1 {k : Nat} : ax_gi (zC n m p) 5 k (some 150) = some (m 150 k) := z_gi (by omega) rfl
theorem z_t2 {k : Nat} : ax_pi (zC n m p) 5 k (some 150) x = some (zC n (ax_u2 m 150 k x) p) := z_pi (by omega) rfl
theorem z_t0 : ax_gr (zC n m p) 5 0 (some 150) = some (some 151) := z_gr (by omega) rfl
theorem z_ts {j : Nat} (hj : j < 80) : ax_as (zC n m p) 8 (some 151) (nI j) x = some (zC n (ax_u2 m 151 j x) p) := z_as (by omega) (by omega) rfl (by exact hj) (by omega)
theorem z_ta {j : Nat} (hj : j < 80) : ax_al (zC n m p) 8 (some 151) (nI j) = some (m 151 j) := z_al (by omega) rfl (by exact hj) (by omega)
theorem z_tsh : ax_sh (zC n m p) 5 (some 150) = some (150, 2) := z_sh (by omega) rfl
theorem z_rr {k : Nat} : ax_gr (zC n m p) 4 k (some 149) = some (zR p 149 k) := z_gr (by omega) rfl
theorem z_rd {k : Nat} : ax_gi (zC n m p) 4 k (some 149) = some (m 149 k) := z_gi (by omega) rfl
theorem z_rp {k : Nat} : ax_pi (zC n m p) 4 k (some 149) x = some (zC n (ax_u2 m 149 k x) p) := z_pi (by omega) rfl
theorem z_rsh : ax_sh (zC n m p) 4 (some 149) = some (149, 7) := z_sh (by omega) rfl
theorem z_byte : ∀ j : Nat, j < 128 → ((nI j).toInt8.toInt32).toInt8.toInt32 = nI j := by decide +kernel
theorem zCls0_t {L' : Nat} {T' : Nat → Nat} (h : zCls0 m N V L T S) (hf : ∀ a, a < 150 ∨ (151 < a ∧ a < 275) → m' a = m a) (t1 : m' 150 1 = nI L') (t2 : ∀ j, j < L' → m' 151 j = nI (T' j)) : zCls0 m' N V L' T' S := by
  obtain ⟨hT, ⟨hN, hG, hO⟩, hB, -, hS⟩ := h
  exact ⟨fun a j ha => by rw [hf a (by omega)]; exact hT a j ha, ⟨hN, zGC_f1 hG hN (fun a ha => hf a (by omega)), zOC_f1 hO (fun a ha => hf a (by omega))⟩, fun k hk => by rw [hf _ (by omega)]; exact hB k hk, ⟨t1, t2⟩, fun s hs => zSlC_cg hs (hS s hs) ⟨hf _ (by omega), fun a h1 h2 => hf a (by omega)⟩⟩
end CALLS3

