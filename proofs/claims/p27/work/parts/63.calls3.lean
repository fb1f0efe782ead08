/-! ===== calls: addNode, save, restore ===== -/
theorem zSlC_cg2 {m m' : Nat → Nat → Int32} {s : Nat} : ∀ {o : Option (Nat × (Nat → Nat → Int32))}, zSlC m s o → (m' 191 s = m 191 s ∧ ∀ a, 193 + 41 * s ≤ a → a < 193 + 41 * s + 41 → m' a = m a) → zSlC m' s o
  | none, h, hf => by show m' 191 s = 0; rw [hf.1]; exact h
  | some (N, V), h, hf => by show m' 191 s = 1 ∧ _; rw [hf.1]; exact ⟨h.1, h.2.1, zGC_cg h.2.2 h.2.1 (fun a ha hb => hf.2 a ha hb)⟩
section CALLS4
variable {n N L B s : Nat} {m m' : Nat → Nat → Int32} {p X Y c T : Nat → Nat} {V : Nat → Nat → Int32} {C : zSt} {E K : Nat → Nat → Nat} {W : Nat → Nat → Nat → Int32} {x y : Int32} {S : Nat → Option (Nat × (Nat → Nat → Int32))}
theorem zI5_N {N' f U : Nat} (h : zI5 N f U C) (hN : N ≤ N') : zI5 N' f U C := ⟨h.1, fun y g hk => ⟨by have := (h.2.1 y g hk).1; omega, (h.2.1 y g hk).2⟩, h.2.2⟩
theorem z_slot (hs : s < 2) : ax_ar (zC n m p) 11 (some 190) (nI s) = some (some (193 + 41 * s)) := by
  rw [z_ar (t := 11) (a := 190) (by omega) rfl (by exact hs) (by omega)]
  have hc : s = 0 ∨ s = 1 := by omega
  rcases hc with rfl | rfl <;> rfl
theorem z_sGB (hs : s < 2) : zGB (193 + 41 * s) := by
  have hc : s = 0 ∨ s = 1 := by omega
  rcases hc with rfl | rfl
  · exact Or.inr (Or.inl rfl)
  · exact Or.inr (Or.inr rfl)
theorem z_sv (hs : s < 2) : ax_as (zC n m p) 10 (some 191) (nI s) x = some (zC n (ax_u2 m 191 s x) p) := z_as (by omega) (by omega) rfl (by exact hs) (by omega)
theorem z_sr (hs : s < 2) : ax_al (zC n m p) 10 (some 191) (nI s) = some (m 191 s) := z_al (by omega) rfl (by exact hs) (by omega)
end CALLS4

