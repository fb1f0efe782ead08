/-! ===== build of an empty text ===== -/
section KB
variable {n N L B i f k : Nat} {m m' : Nat → Nat → Int32} {p X Y c T : Nat → Nat} {V : Nat → Nat → Int32} {C : zSt} {E K : Nat → Nat → Nat} {W : Nat → Nat → Nat → Int32} {x y z v w : Int32} {S : Nat → Option (Nat × (Nat → Nat → Int32))}
theorem zCls0_149 (h : zCls0 m N V L T S) (hf : ∀ a, a ≠ 149 → m' a = m a) : zCls0 m' N V L T S := by
  obtain ⟨hT, ⟨hN, hG, hO⟩, hB, ⟨t1, t2⟩, hS⟩ := h
  refine ⟨fun a j ha => by rw [hf a (by omega)]; exact hT a j ha, ⟨hN, zGC_f1 hG hN (fun a ha => hf a (by omega)), zOC_f1 hO (fun a ha => hf a (by omega))⟩, fun k hk => by rw [hf _ (by omega)]; exact hB k hk, ⟨by rw [hf _ (by omega)]; exact t1, fun j hj => by rw [hf _ (by omega)]; exact t2 j hj⟩, fun s hs => zSlC_cg hs (hS s hs) ⟨hf _ (by omega), fun a h1 h2 => hf a (by omega)⟩⟩
theorem f_at_end (hm : m 150 1 = 0) : fn_X8_at (some 150) 0 (zC n m p) = some (-1, zC n m p) := by
  unfold fn_X8_at
  rw [z_t1, hm, Option.bind_some, f_isIn, zB_f (by decide), Option.bind_some]
  dsimp only
  rw [if_pos rfl]
theorem f_kind_end (hm : m 150 1 = 0) (hp : m 149 5 = 0) : fn_X6_kindHere (some 149) (zC n m p) = some (-1005, zC n m p) := by
  unfold fn_X6_kindHere
  rw [z_rr, show zR p 149 0 = some 150 from rfl, Option.bind_some, z_rd, hp, Option.bind_some, z_tsh, Option.bind_some, f_at_end hm, Option.bind_some]
  dsimp only
  rw [if_neg (by decide)]
  unfold fb_X6_kindHere_27
  rw [if_neg (by decide)]
theorem f_expr_end (hm : m 150 1 = 0) (hp : m 149 5 = 0) (h6 : m 149 6 = 0) : fn_X6_expression (some 149) 0 (zC n m p) = some (-1005, zC n (ax_u2 m 149 6 1) p) := by
  show fo_X6_expression (fr_X6_expression 9) (some 149) 0 (zC n m p) = _
  unfold fo_X6_expression
  rw [z_rsh, Option.bind_some, f_kind_end hm hp, Option.bind_some]
  dsimp only
  rw [z_rd, h6, Option.bind_some, if_pos rfl, if_pos rfl]
  unfold fb_X6_expression_25
  rw [z_rp, Option.bind_some]
theorem k_build (h1 : zCls m p ((N, V), C, (0, T), S)) (h3 : zAbs B ((N, V), C, (0, T), S)) : zgo n m p B (fn_X9_build (some 9)) (-1003) ((N, V), C, (0, T), S) := by
  obtain ⟨h10, X, Y, E, hc⟩ := id h1
  have hm : m 150 1 = 0 := h10.2.2.2.1.1.trans nI_0
  have hg := h10.2.1.2.1.1
  have e : ∀ a, a ≠ 149 → ax_u2 (ax_u2 (ax_u2 (ax_u2 (ax_u2 m 149 4 (nI N)) 149 3 0) 149 5 0) 149 6 0) 149 6 1 a = m a := fun a ha => by rw [zu2_row ha, zu2_row ha, zu2_row ha, zu2_row ha, zu2_row ha]
  have e4 : ∀ a, a ≠ 149 → ax_u2 (ax_u2 (ax_u2 (ax_u2 m 149 4 (nI N)) 149 3 0) 149 5 0) 149 6 0 a = m a := fun a ha => by rw [zu2_row ha, zu2_row ha, zu2_row ha, zu2_row ha]
  have e5 : ax_u2 (ax_u2 (ax_u2 (ax_u2 m 149 4 (nI N)) 149 3 0) 149 5 0) 149 6 0 149 5 = 0 := by rw [ax_u2_nk (by omega), ax_u2_self]
  refine ⟨ax_u2 (ax_u2 (ax_u2 (ax_u2 (ax_u2 m 149 4 (nI N)) 149 3 0) 149 5 0) 149 6 0) 149 6 1, p, ?_, fun a ha => e a (by omega), ⟨zCls0_149 h10 e, X, Y, E, zCX_fr hc (fun a h1 h2 => e a (by omega))⟩, zAbs_mono h3 (by omega)⟩
  have hr : fn_X6_read (some 149) (nI N) (zC n m p) = some (-1005, zC n (ax_u2 (ax_u2 (ax_u2 (ax_u2 (ax_u2 m 149 4 (nI N)) 149 3 0) 149 5 0) 149 6 0) 149 6 1) p) := by
    unfold fn_X6_read
    rw [z_rp, Option.bind_some, z_rp, Option.bind_some, z_rp, Option.bind_some, z_rp, Option.bind_some, z_rsh, Option.bind_some, f_expr_end (by rw [e4 150 (by omega)]; exact hm) e5 ax_u2_self, Option.bind_some]
    dsimp only
    rw [z_rd, ax_u2_nk (by omega), e5, Option.bind_some, z_rr, show zR p 149 0 = some 150 from rfl, Option.bind_some, z_t1, e 150 (by omega), hm, Option.bind_some, if_pos (by decide)]
  unfold fn_X9_build
  rw [z_cr, show zR p 9 2 = some 149 from rfl, Option.bind_some, z_cr, show zR p 9 0 = some 10 from rfl, Option.bind_some, z_g1, hg, Option.bind_some, z_rsh, Option.bind_some, hr, Option.bind_some]
  dsimp only
  rw [z_cr, show zR p 9 2 = some 149 from rfl, Option.bind_some, z_rd, ax_u2_self, Option.bind_some, if_neg (by decide)]
end KB
