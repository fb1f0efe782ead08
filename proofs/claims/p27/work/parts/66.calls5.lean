/-! ===== calls: setRange, connect ===== -/
section CALLS6
variable {n N L B i k : Nat} {m m' : Nat → Nat → Int32} {p X Y c T : Nat → Nat} {V : Nat → Nat → Int32} {C : zSt} {E K : Nat → Nat → Nat} {W : Nat → Nat → Nat → Int32} {x y z : Int32} {S : Nat → Option (Nat × (Nat → Nat → Int32))}
/-- the range of frames that a new connection concerns -/
def zr0 (V : Nat → Nat → Int32) (i c : Nat) : Int32 := if c = 0 then 0 else V i 1
def zr1 (V : Nat → Nat → Int32) (i c : Nat) : Int32 := if c = 0 then 99 else V i 2
def zbc9 (N : Nat) (V : Nat → Nat → Int32) (i c : Nat) : Nat → Nat → Bool := zvb (zfd N V i N) (zr0 V i c) (zr1 V i c) 1 0
theorem zIlink {d : Nat} : ∀ b k, b ≠ i → k < 3 → zI (zVset V i (3 + d) x) b k = zI V b k := fun b k hb _ => ax_u2_ne hb _
theorem f_conn64 {d : Nat} (hT : zT m) (hG : zGC m 10 N V) (h : zOK N V) (hi : i < N) (hk : k < 7) (hV : V i 0 = nI k) (hd : d < zin k) (hd3 : d < 3) (hx : x = -1005 ∨ ∃ j, j < N ∧ x = nI j ∧ ¬ zdep N V i j) (hc : zCa m p X Y C E) : ∃ m' p' X' Y' kk, kk ≤ C.1 2 ∧ fb_X9_connect_64 (some 9) (nI i) (nI d) x (zfd N V i N) (zC n m p) = some (nI (C.1 2 - kk), zC n m' p') ∧ zCa m' p' X' Y' (zvoid C (zbc9 N V i d) kk) E ∧ zE kk (zKf C.2.1 (zbc9 N V i d)) ∧ (∀ a, a < 10 ∨ 149 ≤ a → m' a = m a) ∧ zGC m' 10 N (zVset V i (3 + d) x) ∧ zOC m' 10 N (zVset V i (3 + d) x) := by
  have hN := h.1
  obtain ⟨m1, l1, l2, l3, l4⟩ := f_link (n := n) (p := p) z10 hT hG h hi hk hV hd hd3 hx
  obtain ⟨m2, p2, X2, Y2, kk, k0, v1, v2, v3, v4⟩ := f_void9 (n := n) (zCX_fr (m' := m1) hc (fun a ha _ => l2 a (by omega))) (zfd N V i N) (zr0 V i d) (zr1 V i d) 1 0
  refine ⟨m2, p2, X2, Y2, kk, k0, ?_, v2, v3, fun a ha => by rw [v4 a (by omega), l2 a (by omega)], zGC_f1 l3 hN (fun a ha => v4 a (by omega)), zOC_f1 l4 (fun a ha => v4 a (by omega))⟩
  obtain ⟨hb, -⟩ := zGB_node (p := p) z10 (show i < 12 by omega)
  obtain ⟨b9, b1, t0, t1, t2, q3, q4⟩ := zNB_ok (n := n) (p := p) hb
  unfold fb_X9_connect_64
  rw [z_cr, show zR p 9 0 = some 10 from rfl, Option.bind_some, z_gs, Option.bind_some, l1, Option.bind_some]
  by_cases hd0 : d = 0
  · subst hd0
    have r0 : zr0 V i 0 = 0 := if_pos rfl
    have r1 : zr1 V i 0 = 99 := if_pos rfl
    rw [r0, r1] at v1
    rw [if_pos nI_0, z_cr, show zR p 9 1 = some 51 from rfl, Option.bind_some, z_cs, Option.bind_some, f_makeVoid, v1, Option.bind_some]
  · have r0 : zr0 V i d = V i 1 := if_neg hd0
    have r1 : zr1 V i d = V i 2 := if_neg hd0
    rw [r0, r1] at v1
    have g1 : m1 (10 + 5 + 3 * i) 1 = V i 1 := (l3.2.1 i 1 hi (by omega)).trans (ax_u2_nk (by omega))
    have g2 : m1 (10 + 5 + 3 * i) 2 = V i 2 := (l3.2.1 i 2 hi (by omega)).trans (ax_u2_nk (by omega))
    rw [if_neg (show ¬ nI d = 0 from nI_ne0 (by omega) (by omega)), z_cr, show zR p 9 0 = some 10 from rfl, Option.bind_some, z_gr0, show zR p 10 0 = some (10 + 1) from rfl, Option.bind_some, z_nodes z10 (by omega), Option.bind_some, z_cr, show zR p 9 1 = some 51 from rfl, Option.bind_some, z_gi (a := 10 + 5 + 3 * i) (t := 2) (k := 1) (by omega) (by rw [t0]), g1, Option.bind_some, z_gi (a := 10 + 5 + 3 * i) (t := 2) (k := 2) (by omega) (by rw [t0]), g2, Option.bind_some, z_cs, Option.bind_some, f_makeVoid, v1, Option.bind_some]
end CALLS6
