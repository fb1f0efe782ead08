/-! ===== the class asks: by rank ===== -/
section CASK2
variable {n N f U0 x e : Nat} {m : Nat → Nat → Int32} {p X Y : Nat → Nat} {E : Nat → Nat → Nat} {C : zSt} {V : Nat → Nat → Int32}
theorem zRef_mono {C C' : zSt} {E E' : Nat → Nat → Nat} {i r : Nat} (h : zRef N f U0 V C E x i r) (h1 : ∀ y, U0 < C.2.1 y f → U0 < C'.2.1 y f) (h2 : ∀ y, U0 < C.2.1 y f → E' y f = E y f) : zRef N f U0 V C' E' x i r := by
  rcases h with h | ⟨y, a, b, c, d⟩
  · exact Or.inl h
  · exact Or.inr ⟨y, a, b, h1 y c, by rw [h2 y c]; exact d⟩
theorem z_cr5 : ax_gr (zC n m p) 6 5 (some 9) = some (some 192) := by
  rw [z_cr]
  rfl
theorem f_ask_step {sa : Option Nat → Int32 → Int32 → Int32 → ax_S → Option (Option Nat × ax_S)} {rec : Nat → zSt → zSt} {rk : Nat → Nat} (hOK : zOK N V) (hrk : zrkOK N V rk) (hx : x < N) (hf : f < 100) (he : e < 12) (hrec : ∀ y C, y < N → rk y < rk x → zI5 N f U0 C → zR5 N f U0 rk y C (rec y C)) (hIH : zIH n N f U0 e V sa rec (fun y => rk y < rk x)) (hI : zI5 N f U0 C) (hk : C.2.1 x f = 0)
    (hb : (zadm (zin3 V f rec x C 3) x f (zpc V x (nI f) (zw V (zin3 V f rec x C 3) x f))).1 1 < 2 ^ 31) (hc : zCa m p X Y C E) (hv : zEnv m N V) :
    ∃ m' p' X' Y' E', fo_X9_ask sa (some 9) (nI x) (nI f) (nI e) (zC n m p) = some (some (54 + 2 * E' x f), zC n m' p') ∧ zCa m' p' X' Y' (zadm (zin3 V f rec x C 3) x f (zpc V x (nI f) (zw V (zin3 V f rec x C 3) x f))) E' ∧ zFc m m' ∧ ∀ z, U0 < C.2.1 z f → E' z f = E z f := by
  have hN := hOK.1
  obtain ⟨b1, hb1, q1, -⟩ := zin3_ok (f := f) (U0 := U0) (C := C) hOK hrk hx hrec hI 1 (by omega)
  obtain ⟨b2, hb2, q2, -⟩ := zin3_ok (f := f) (U0 := U0) (C := C) hOK hrk hx hrec hI 2 (by omega)
  obtain ⟨b3, hb3, q3, -⟩ := zin3_ok (f := f) (U0 := U0) (C := C) hOK hrk hx hrec hI 3 (by omega)
  have hk3 : (zin3 V f rec x C 3).2.1 x f = 0 := by
    by_cases hz : (zin3 V f rec x C 3).2.1 x f = 0
    · exact hz
    · have := (q3.2.2.1 x f hk hz).2
      omega
  -- uses only grow
  have hg : ∀ i, i < 3 → zI5 N f U0 (zin3 V f rec x C i) → (zin3 V f rec x C i).1 1 ≤ (zin3 V f rec x C (i + 1)).1 1 := by
    intro i hi h
    sorry
  sorry
end CASK2
