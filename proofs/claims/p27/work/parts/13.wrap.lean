/-! ===== calls without new cells, in the form that the program lays them; words by their places ===== -/
theorem ax_wi {w : Cond} (i : Nat) (h : lw_tbl[i]? = some w) (hg : goodWord w = true) : w ∈ ax_WS := List.mem_filter.mpr ⟨List.mem_of_getElem? h, hg⟩
theorem ax_wn {w : Cond} (i : Nat) (h : lw_tbl[i]? = some w) (hg : ax_isN w = true) : w ∈ ax_NW := List.mem_filter.mpr ⟨List.mem_of_getElem? h, hg⟩
section AXD
variable {M M2 : ax_M} {y : MethodName} {d d2 pc index : Nat} {L : List (Option ax_V)} {st S As : List ax_V} {σ σ1 : ax_S} {z : Option ax_V × ax_S} {r : Option ax_V}
theorem ax_cV {t : Nat} {th : Option Nat} {a : Nat × Nat} (hd : decode M.2.1 pc = .ok (.invokevirtual index, 3)) (hsh : ax_sh σ t th = some a) (hC : AC M2 y d2 0 0 (av_r th :: As) σ (r, σ1)) (hcl : (vwCl[t]?).map (fun q => q.1) = some y.cls)
    (hw1 : ax_cw M2 y) (hw2 : Cond.methodLink M.1 index y ∈ ax_WS) (hw3 : Cond.instanceMethod y ∈ ax_WS) (hw4 : Cond.selects y.cls y y ∈ ax_WS) (hy : ax_cy0 y As.length) (hdd : d2 + 1 ≤ d) (hml2 : M2.2.2.2.1 ≤ 40) (hst : ax_wd st ≤ 8) (hS0 : S = As.reverse ++ av_r th :: st)
    (kk : AW M d 0 0 (pc + 3) L (r.toList ++ st) σ1 z) : AW M d 0 0 pc L S σ z := by
  obtain ⟨a, n⟩ := a
  obtain ⟨rfl, -⟩ := ax_sh_of hsh
  exact ax_invV (bc := 0) (bs := 0) (kc := 0) (ks := 0) hd hC hsh hcl hw1 hw2 hw3 hw4 hy hdd hml2 hst hS0 kk
theorem ax_cS (hd : decode M.2.1 pc = .ok (.invokestatic index, 3)) (hC : AC M2 y d2 0 0 As σ (r, σ1)) (hw1 : ax_cw M2 y) (hw2 : Cond.methodLink M.1 index y ∈ ax_WS) (hw3 : Cond.static y ∈ ax_WS) (hy : ax_cy0 y As.length) (hdd : d2 + 1 ≤ d) (hml2 : M2.2.2.2.1 ≤ 40) (hst : ax_wd st ≤ 8) (hS0 : S = As.reverse ++ st)
    (kk : AW M d 0 0 (pc + 3) L (r.toList ++ st) σ1 z) : AW M d 0 0 pc L S σ z := ax_invS (bc := 0) (bs := 0) (kc := 0) (ks := 0) hd hC hw1 hw2 hw3 hy hdd hml2 hst hS0 kk
theorem ax_cSN {host : String} (hd : decode M.2.1 pc = .ok (.invokestatic index, 3)) (hC : AC M2 y d2 0 0 As σ (r, σ1)) (hw1 : ax_cw M2 y) (hw2 : Cond.methodLinkNest M.1 index y host ∈ ax_NW) (hw3 : Cond.static y ∈ ax_WS) (hy : ax_cy0 y As.length) (hdd : d2 + 1 ≤ d) (hml2 : M2.2.2.2.1 ≤ 40) (hst : ax_wd st ≤ 8) (hS0 : S = As.reverse ++ st)
    (kk : AW M d 0 0 (pc + 3) L (r.toList ++ st) σ1 z) : AW M d 0 0 pc L S σ z := ax_invSN (bc := 0) (bs := 0) (kc := 0) (ks := 0) hd hC hw1 hw2 hw3 hy hdd hml2 hst hS0 kk
theorem ax_cVS (hd : decode M.2.1 pc = .ok (.invokevirtual index, 3)) (hC : AC M2 y d2 0 0 (av_r (some 8) :: As) σ (r, σ1)) (hcl : y.cls = "java/lang/String")
    (hw1 : ax_cw M2 y) (hw2 : Cond.methodLink M.1 index y ∈ ax_WS) (hw3 : Cond.instanceMethod y ∈ ax_WS) (hw4 : Cond.selects y.cls y y ∈ ax_WS) (hy : ax_cy0 y As.length) (hdd : d2 + 1 ≤ d) (hml2 : M2.2.2.2.1 ≤ 40) (hst : ax_wd st ≤ 8) (hS0 : S = As.reverse ++ av_r (some 8) :: st)
    (kk : AW M d 0 0 (pc + 3) L (r.toList ++ st) σ1 z) : AW M d 0 0 pc L S σ z := ax_invVS (bc := 0) (bs := 0) (kc := 0) (ks := 0) hd hC hcl hw1 hw2 hw3 hw4 hy hdd hml2 hst hS0 kk
/-- a constructor's call: the receiver is an object of this kind -/
theorem ax_cI {bc bs kc ks : Nat} {th : Option Nat} {t : Nat} {a : Nat × Nat} (hd : decode M.2.1 pc = .ok (.invokespecial index, 3)) (hsh : ax_sh σ t th = some a) (hC : AC M2 y d2 kc ks (av_r th :: As) σ (none, σ1)) (hn : y.name = "<init>") (hr2 : M2.2.2.1 = none)
    (hw1 : ax_cw M2 y) (hw2 : Cond.methodLink M.1 index y ∈ ax_WS) (hw3 : Cond.instanceMethod y ∈ ax_WS) (hy : ax_cy0 y As.length) (hdd : d2 + 1 ≤ d) (hml2 : M2.2.2.2.1 ≤ 40) (hst : ax_wd st ≤ 8) (hS0 : S = As.reverse ++ av_r th :: st)
    (kk : AW M d bc bs (pc + 3) L st σ1 z) : AW M d (bc + kc) (bs + ks) pc L S σ z := by
  obtain ⟨a, n⟩ := a
  obtain ⟨rfl, -⟩ := ax_sh_of hsh
  exact ax_invI hd hC hn hr2 hw1 hw2 hw3 hy hdd hml2 hst hS0 kk
theorem ax_cIN {bc bs kc ks : Nat} {th : Option Nat} {t : Nat} {a : Nat × Nat} {host : String} (hd : decode M.2.1 pc = .ok (.invokespecial index, 3)) (hsh : ax_sh σ t th = some a) (hC : AC M2 y d2 kc ks (av_r th :: As) σ (none, σ1)) (hn : y.name = "<init>") (hr2 : M2.2.2.1 = none)
    (hw1 : ax_cw M2 y) (hw2 : Cond.methodLinkNest M.1 index y host ∈ ax_NW) (hw3 : Cond.instanceMethod y ∈ ax_WS) (hy : ax_cy0 y As.length) (hdd : d2 + 1 ≤ d) (hml2 : M2.2.2.2.1 ≤ 40) (hst : ax_wd st ≤ 8) (hS0 : S = As.reverse ++ av_r th :: st)
    (kk : AW M d bc bs (pc + 3) L st σ1 z) : AW M d (bc + kc) (bs + ks) pc L S σ z := by
  obtain ⟨a, n⟩ := a
  obtain ⟨rfl, -⟩ := ax_sh_of hsh
  exact ax_invIN hd hC hn hr2 hw1 hw2 hw3 hy hdd hml2 hst hS0 kk
theorem ax_cO {bc bs : Nat} {th : Option Nat} {t : Nat} {a : Nat × Nat} (hd : decode M.2.1 pc = .ok (.invokespecial index, 3)) (hsh : ax_sh σ t th = some a) (hw1 : Cond.methodLink M.1 index Lib.objectInit ∈ ax_WS) (hw2 : Cond.instanceMethod Lib.objectInit ∈ ax_WS) (hw3 : Cond.code Lib.objectInit ⟨#[0xb1]⟩ 1 none ∈ ax_WS) (hdd : 1 ≤ d) (hst : ax_wd st ≤ 8)
    (kk : AW M d bc bs (pc + 3) L st σ z) : AW M d bc bs pc L (av_r th :: st) σ z := by
  obtain ⟨a, n⟩ := a
  obtain ⟨rfl, -⟩ := ax_sh_of hsh
  exact ax_obj hd hw1 hw2 hw3 hdd hst kk
/-- an answer of a boolean method is 0 or 1 -/
def ax_bz (o : Option (Int32 × ax_S)) : Option (Int32 × ax_S) := o.bind (fun q => if q.1 = 0 ∨ q.1 = 1 then some q else none)
theorem ax_bz_of {o : Option (Int32 × ax_S)} {q : Int32 × ax_S} (h : ax_bz o = some q) : o = some q ∧ narrow .boolean (.int q.1) = .int q.1 := by
  obtain ⟨q', h1, h2⟩ := Option.bind_eq_some_iff.mp h
  split at h2
  · rename_i hc
    cases h2
    refine ⟨h1, ?_⟩
    rcases hc with hc | hc <;> rw [hc] <;> rfl
  · cases h2
def ax_by (o : Option (Int32 × ax_S)) : Option (Int32 × ax_S) := o.bind (fun q => if q.1.toInt8.toInt32 = q.1 then some q else none)
theorem ax_by_of {o : Option (Int32 × ax_S)} {q : Int32 × ax_S} (h : ax_by o = some q) : o = some q ∧ narrow .byte (.int q.1) = .int q.1 := by
  obtain ⟨q', h1, h2⟩ := Option.bind_eq_some_iff.mp h
  split at h2
  · rename_i hc
    cases h2
    exact ⟨h1, by show Value.int q.1.toInt8.toInt32 = _; rw [hc]⟩
  · cases h2
theorem ax_01_of {x y : Int32} (h : ax_01 x = some y) : narrow .boolean (.int x) = .int x ∧ fits .boolean (.int x) = true := by
  unfold ax_01 at h
  split at h
  · rename_i hc
    rcases hc with hc | hc <;> rw [hc] <;> exact ⟨rfl, rfl⟩
  · cases h
end AXD
