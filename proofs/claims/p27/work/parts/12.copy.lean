/-! ===== System.arraycopy ===== -/
section AXY
variable {M : ax_M} {d bc bs pc index : Nat} {L : List (Option ax_V)} {st : List ax_V} {σ σ1 : ax_S} {z : Option ax_V × ax_S}
theorem ax_cy_of {r w : Option Nat} {sp dp n : Int32} (h : ax_cy σ r sp w dp n = some σ1) : ∃ a b na nb, r = some a ∧ w = some b ∧ 9 ≤ a ∧ 9 ≤ b ∧ a ≠ b ∧ σ.1[a]? = some (9, na) ∧ σ.1[b]? = some (9, nb) ∧ ¬ sp < 0 ∧ ¬ dp < 0 ∧ ¬ n < 0 ∧ sp.toNatClampNeg + n.toNatClampNeg ≤ na ∧ dp.toNatClampNeg + n.toNatClampNeg ≤ nb ∧ σ1 = (σ.1, (fun c k => if c = b then va_cpy (σ.2.1 a) (σ.2.1 b) sp.toNatClampNeg dp.toNatClampNeg n.toNatClampNeg k else σ.2.1 c k), σ.2.2) := by
  obtain ⟨⟨a, na⟩, h1, h2⟩ := Option.bind_eq_some_iff.mp h
  obtain ⟨⟨b, nb⟩, h3, h4⟩ := Option.bind_eq_some_iff.mp h2
  obtain ⟨e1, e2⟩ := ax_sh_of h1
  obtain ⟨e3, e4⟩ := ax_sh_of h3
  split at h4
  · cases h4
  · rename_i hn
    simp only [not_or] at hn
    obtain ⟨n1, n2, n3, n4, n5, n6, n7, n8⟩ := hn
    cases h4
    exact ⟨a, b, na, nb, e1, e3, by omega, by omega, n3, e2, e4, n4, n5, n6, by omega, by omega, rfl⟩
theorem ax_copy {r w : Option Nat} {sp dp n : Int32} (hd : decode M.2.1 pc = .ok (.invokestatic index, 3)) (hw1 : Cond.methodLink M.1 index arraycopyName ∈ ax_WS) (hw2 : Cond.native arraycopyName ∈ ax_WS) (hw3 : Cond.static arraycopyName ∈ ax_WS) (hw4 : Cond.initialized "java/lang/System" ∈ ax_WS) (hdd : 1 ≤ d) (hst : ax_wd st ≤ 8) (h : ax_cy σ r sp w dp n = some σ1)
    (kk : AW M d bc bs (pc + 3) L st σ1 z) : AW M d bc bs pc L (av_i n :: av_i dp :: av_r w :: av_i sp :: av_r r :: st) σ z := by
  intro X p l e R s m args below meth c H locs cells slots Q ls C hcs hs hH hS hL hE
  obtain ⟨hx, hb, hml, hown, hts, hret, hlk, hin, hdf, hdl, hok, hK, hG⟩ := id C
  obtain ⟨a, b, na, nb, rfl, rfl, ha8, hb8, hne, hsa, hsb, h1, h2, h3, h4, h5, rfl⟩ := ax_cy_of h
  have nn : ∀ z : Int32, ¬ z < 0 → z.toInt = (z.toNatClampNeg : Int) := by
    intro z hz
    have hz0 : (0 : Int) ≤ z.toInt := by
      have := Int32.not_lt.mp hz
      simpa using Int32.le_iff_toInt_le.mp this
    show z.toInt = ((z.toInt.toNat : Nat) : Int)
    omega
  have hI : ∀ k, ax_isI 9 k = true := fun k => rfl
  obtain ⟨ca, g1, g2, g3, g4, -, g6⟩ := ax_at_arr hK (hH.2.2 a _ na hsa) (by omega) (by omega)
  have g6 := g6 ha8
  obtain ⟨cb, f1, f2, f3, f4, -, f6⟩ := ax_at_arr hK (hH.2.2 b _ nb hsb) (by omega) (by omega)
  have f6 := f6 hb8
  have hca : ca = vp_cell (X.2.1 9) (na, .inl (σ.2.1 a)) := by
    rw [g6, vp_cell_i]
    congr 1
  have hcb : cb = vp_cell (X.2.1 9) (nb, .inl (σ.2.1 b)) := by
    rw [f6, vp_cell_i]
    congr 1
  subst hca
  subst hcb
  obtain ⟨-, k0, hk0, cm0, hkk0⟩ := (hK.2.1 9 (by omega) (by omega)).1 na (fun j => .int (σ.2.1 a j))
  intro T hT X0
  obtain ⟨vm', X', step⟩ := X0.arraycopy hx hown (hts _ hw1) (hts _ hw2) (hts _ hw3) (hts _ hw4) (src := ax_ρ X a) (dst := ax_ρ X b) (cs := vp_cell (X.2.1 9) (na, .inl (σ.2.1 a))) (cd := vp_cell (X.2.1 9) (nb, .inl (σ.2.1 b))) (srcPos := sp) (destPos := dp) (n := n) (by rw [hT]; exact g1) (by rw [hT]; exact f1)
    (fun _ h => by cases h) (fun _ h => by cases h) (fun h => by cases h) (fun h => by cases h) hk0 hk0 hkk0 hkk0 (by rfl) h1 h2 h3
    (by rw [nn sp h1, nn n h3]; show ¬ _ > ((arrV (X.2.1 9) na (fun j => .int (σ.2.1 a j))).slots.size : Int); rw [arrV_size]; omega)
    (by rw [nn dp h2, nn n h3]; show ¬ _ > ((arrV (X.2.1 9) nb (fun j => .int (σ.2.1 b j))).slots.size : Int); rw [arrV_size]; omega)
    (fun vm₁ _ i hi => by
      have e : (vp_cell (X.2.1 9) (na, .inl (σ.2.1 a))).slots.getD (sp.toNatClampNeg + i) .null = .int (σ.2.1 a (sp.toNatClampNeg + i)) := by
        show (arrV (X.2.1 9) na (fun j => .int (σ.2.1 a j))).slots.getD _ _ = _
        rw [Array.getD_eq_getD_getElem?, arrV_read _ _ (by omega)]
        rfl
      refine ⟨?_, ?_⟩
      · rw [e]
        rfl
      · rw [e]
        exact trivial)
    (g := F0 m pc ls (.int n :: .int dp :: .ref (ax_ρ X b) :: .int sp :: .ref (ax_ρ X a) :: st.map (ax_cv (ax_ρ X)))) rfl (by rw [hml]; exact hL.1) (rest := st.map (ax_cv (ax_ρ X))) rfl (by rw [hb]; exact hd) (by omega) (by
      rw [ax_wd_eq]
      have : nativeFrameWords "java/lang/System" "arraycopy" 5 ≤ 40 := by decide +kernel
      show 2 * 0 + _ + _ ≤ _
      omega)
  have e1 : copied (vp_cell (X.2.1 9) (na, .inl (σ.2.1 a))) (vp_cell (X.2.1 9) (nb, .inl (σ.2.1 b))) sp dp n = vp_cell (X.2.1 9) (nb, .inl (va_cpy (σ.2.1 a) (σ.2.1 b) sp.toNatClampNeg dp.toNatClampNeg n.toNatClampNeg)) := va_copied (fun z => .int z) (X.2.1 9) (X.2.1 9) (σ.2.1 a) (σ.2.1 b) h4
  rw [e1] at X' step
  have hl : ax_ρ X b < H.size := (Array.getElem?_eq_some_iff.mp f1).1
  generalize hnc : vp_cell (X.2.1 9) (nb, .inl (va_cpy (σ.2.1 a) (σ.2.1 b) sp.toNatClampNeg dp.toNatClampNeg n.toNatClampNeg)) = nc at X' step
  have hheap : ((T.setVm vm').setCell (ax_ρ X b) nc).heap = H.setIfInBounds (ax_ρ X b) nc := by rw [← hT]; rfl
  have oq : ∀ q : Nat, q ≠ ax_ρ X b → (H.setIfInBounds (ax_ρ X b) nc)[q]? = H[q]? := fun q hq => by simp [Array.getElem?_setIfInBounds, Ne.symm hq]
  have hself : (H.setIfInBounds (ax_ρ X b) nc)[ax_ρ X b]? = some nc := by simp [Array.getElem?_setIfInBounds, hl]
  have hH2 : ax_H X (σ.1, (fun c k => if c = b then va_cpy (σ.2.1 a) (σ.2.1 b) sp.toNatClampNeg dp.toNatClampNeg n.toNatClampNeg k else σ.2.1 c k), σ.2.2) (H.setIfInBounds (ax_ρ X b) nc) := by
    refine hH.upd hok hb8 rfl (by simp) oq (fun c hc k => if_neg hc) (fun c hc k => rfl) (fun t' n' hsh' => ?_)
    cases hsb.symm.trans hsh'
    unfold ax_at
    rw [if_neg (by omega), if_neg (by omega), if_neg (by omega)]
    refine ⟨by omega, hself.trans ?_⟩
    rw [← hnc, vp_cell_i]
    congr 2
    funext j
    simp [ax_sv, hI]
    rfl
  have hS2 : va_S (ax_A X) s.heap (H.setIfInBounds (ax_ρ X b) nc) locs := ⟨by simpa using hS.1, fun q g1 g2 => by
      rw [oq q (fun e => g2 (by rw [e]; exact ax_ρ_A hok hb8))]
      exact hS.2.1 q g1 g2, hS.2.2⟩
  obtain ⟨t, a1, b1⟩ := kk X p l e R s m args below meth c _ _ cells slots Q ls C hcs hs hH2 ⟨hS2.1, hS2.2.1, fun q hq => by
      rcases List.mem_append.mp hq with h | h
      · exact hS.2.2 q h
      · obtain ⟨z, -, hz⟩ := List.mem_map.mp h
        rw [← hz]
        exact ax_ρ_A hok hb8⟩ hL hE _ hheap X'
  exact ⟨t, step t a1, b1⟩
end AXY
