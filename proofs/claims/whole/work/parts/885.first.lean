/-! ===== the first store of the law's loop ===== -/
section FIRST
variable {m : Nat → Nat → Int32}
/-- the first store keeps the loop's state -/
theorem zLw_0 {xs : Nat → Int32} (h6 : m 6 = xs) (h7 : ∀ j, j < 8 → m 7 j = ax_chars.getD j 0) (hT : zT m) (h0 : ∀ a, 9 ≤ a → a ≠ 285 → a ≠ 286 → a ≠ 51 → a ≠ 275 → ∀ j, m a j = 0) (h51 : ∀ j, m 51 j = if j = 3 then 16 else 0) (h275 : ∀ j, m 275 j = if j = 3 then 16 else 0) (hMT : zMT m) : zLw xs m (fun j => j) 0 := by
  have hz : ∀ a, 9 ≤ a → a ≠ 285 → a ≠ 286 → a ≠ 51 → a ≠ 275 → ∀ j, m a j = nI 0 := fun a b c d e f j => h0 a b c d e f j
  refine ⟨h6, h7, ((0, fun _ _ => 0), (fun i => if i = 3 then 16 else 0, fun _ _ => 0, fun _ _ _ => 0), (0, fun _ => 0), fun _ => none), ?_, ?_, ?_⟩
  · refine ⟨⟨hT, ⟨Nat.zero_le _, ⟨hz _ (by omega) (by omega) (by omega) (by omega) (by omega) _, fun i w hi => absurd hi (by omega), fun i w hi => absurd hi (by omega), fun i w hi => absurd hi (by omega)⟩, fun t ht => absurd ht (by omega), fun _ => 0, fun i hi => absurd hi (by omega), fun i hi => absurd hi (by omega), fun i hi => absurd hi (by omega)⟩, fun k hk => h0 _ (by omega) (by omega) (by omega) (by omega) (by omega) _, ⟨hz _ (by omega) (by omega) (by omega) (by omega) (by omega) _, fun j hj => absurd hj (by omega)⟩, fun s hs => h0 _ (by omega) (by omega) (by omega) (by omega) (by omega) _⟩, fun _ => 0, fun _ => 0, fun _ _ => 0, ?_⟩
    refine ⟨⟨fun j hj => hj, fun i j _ _ h => h⟩, fun i h1 h2 => ?_, Nat.zero_le _, zP_0⟩
    rw [h51]
    show _ = nI (if i = 3 then 16 else 0)
    by_cases h3 : i = 3
    · rw [if_pos h3, if_pos h3]
      rfl
    · rw [if_neg h3, if_neg h3]
      rfl
  · refine ⟨⟨hMT, ⟨hz _ (by omega) (by omega) (by omega) (by omega) (by omega) _, fun i w hi => absurd hi (by omega), fun i w q hi => absurd hi (by omega)⟩, ⟨by rw [h275]; rfl, fun j hj => absurd hj (by omega)⟩, fun s hs => h0 _ (by omega) (by omega) (by omega) (by omega) (by omega) _⟩, fun _ => 0, fun _ => 0, ?_⟩
    exact ⟨⟨by rw [h275]; rfl, by rw [h275]; rfl, by rw [h275]; rfl⟩, ⟨hz _ (by omega) (by omega) (by omega) (by omega) (by omega) _, hz _ (by omega) (by omega) (by omega) (by omega) (by omega) _, hz _ (by omega) (by omega) (by omega) (by omega) (by omega) _, hz _ (by omega) (by omega) (by omega) (by omega) (by omega) _⟩, Nat.zero_le _, zP_0⟩
  · exact ⟨⟨Nat.zero_le _, fun i hi => absurd hi (by omega), fun _ => 0, fun i j k hi => absurd hi (by omega)⟩, zI5_0 (c := fun i => if i = 3 then 16 else 0) (Nat.le_of_ble_eq_true rfl) (Nat.le_of_ble_eq_true rfl) rfl, Nat.le_refl _, Nat.zero_le _, fun _ => by show 0 < 128; omega, fun s M W h => by cases h⟩
end FIRST
