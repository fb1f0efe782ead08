section AXR
variable {M : ax_M} {d bc bs pc : Nat} {L : List (Option ax_V)} {st : List ax_V} {σ : ax_S} {z : Option ax_V × ax_S}

theorem ax_iconst {n : Int} {v : Int32} (hd : decode M.2.1 pc = .ok (.iconst n, 1)) (hv : Int32.ofInt n = v)
    (kk : AW M d bc bs (pc + 1) L (av_i v :: st) σ z) : AW M d bc bs pc L st σ z := by
  intro X p l e R s m args below meth c H locs cells slots Q ls C hc hs hH hS hL hE
  obtain ⟨hx, hb, hml, hown, hts, hret, hlk, hin, hdf, hdl, hok, hK, hG⟩ := id C
  exact lv_iconst hx hb hd hv (kk X p l e R s m args below meth c H locs cells slots Q ls C hc hs hH hS hL hE)

theorem ax_bipush {n : Int} {v : Int32} (hd : decode M.2.1 pc = .ok (.bipush n, 2)) (hv : (Int8.ofInt n).toInt32 = v)
    (kk : AW M d bc bs (pc + 2) L (av_i v :: st) σ z) : AW M d bc bs pc L st σ z := by
  intro X p l e R s m args below meth c H locs cells slots Q ls C hc hs hH hS hL hE
  obtain ⟨hx, hb, hml, hown, hts, hret, hlk, hin, hdf, hdl, hok, hK, hG⟩ := id C
  exact lv_bipush hx hb hd hv (kk X p l e R s m args below meth c H locs cells slots Q ls C hc hs hH hS hL hE)

theorem ax_sipush {n : Int} {v : Int32} (hd : decode M.2.1 pc = .ok (.sipush n, 3)) (hv : (Int16.ofInt n).toInt32 = v)
    (kk : AW M d bc bs (pc + 3) L (av_i v :: st) σ z) : AW M d bc bs pc L st σ z := by
  intro X p l e R s m args below meth c H locs cells slots Q ls C hc hs hH hS hL hE
  obtain ⟨hx, hb, hml, hown, hts, hret, hlk, hin, hdf, hdl, hok, hK, hG⟩ := id C
  exact lv_sipush hx hb hd hv (kk X p l e R s m args below meth c H locs cells slots Q ls C hc hs hH hS hL hE)

theorem ax_ldc2 {index : Nat} {v : Int64} (hd : decode M.2.1 pc = .ok (.ldc2_w index, 3)) (hw : Cond.constantLong M.1 index v ∈ ax_WS)
    (kk : AW M d bc bs (pc + 3) L (av_l v :: st) σ z) : AW M d bc bs pc L st σ z := by
  intro X p l e R s m args below meth c H locs cells slots Q ls C hc hs hH hS hL hE
  obtain ⟨hx, hb, hml, hown, hts, hret, hlk, hin, hdf, hdl, hok, hK, hG⟩ := id C
  exact lv_ldc2 hx hb hown (hts _ hw) hd (kk X p l e R s m args below meth c H locs cells slots Q ls C hc hs hH hS hL hE)

theorem ax_null (hd : decode M.2.1 pc = .ok (.aconst_null, 1))
    (kk : AW M d bc bs (pc + 1) L (av_r none :: st) σ z) : AW M d bc bs pc L st σ z := by
  intro X p l e R s m args below meth c H locs cells slots Q ls C hc hs hH hS hL hE
  obtain ⟨hx, hb, hml, hown, hts, hret, hlk, hin, hdf, hdl, hok, hK, hG⟩ := id C
  exact lv_null hx hb hd (kk X p l e R s m args below meth c H locs cells slots Q ls C hc hs hH hS hL hE)

theorem ax_iload_n {k : Fin 4} {i : Nat} {x : Int32} (hd : decode M.2.1 pc = .ok (.iload_n k, 1)) (hi : (k : Nat) = i) (hv : L[i]? = some (some (av_i x)))
    (kk : AW M d bc bs (pc + 1) L (av_i x :: st) σ z) : AW M d bc bs pc L st σ z := by
  intro X p l e R s m args below meth c H locs cells slots Q ls C hc hs hH hS hL hE
  obtain ⟨hx, hb, hml, hown, hts, hret, hlk, hin, hdf, hdl, hok, hK, hG⟩ := id C
  exact lv_iload_n hx hb hd hi (hL.2.2 i _ hv) (kk X p l e R s m args below meth c H locs cells slots Q ls C hc hs hH hS hL hE)

theorem ax_iload {i : Nat} {x : Int32} (hd : decode M.2.1 pc = .ok (.iload i, 2)) (hv : L[i]? = some (some (av_i x)))
    (kk : AW M d bc bs (pc + 2) L (av_i x :: st) σ z) : AW M d bc bs pc L st σ z := by
  intro X p l e R s m args below meth c H locs cells slots Q ls C hc hs hH hS hL hE
  obtain ⟨hx, hb, hml, hown, hts, hret, hlk, hin, hdf, hdl, hok, hK, hG⟩ := id C
  exact lv_iload hx hb hd (hL.2.2 i _ hv) (kk X p l e R s m args below meth c H locs cells slots Q ls C hc hs hH hS hL hE)

theorem ax_lload_n {k : Fin 4} {i : Nat} {x : Int64} (hd : decode M.2.1 pc = .ok (.lload_n k, 1)) (hi : (k : Nat) = i) (hv : L[i]? = some (some (av_l x)))
    (kk : AW M d bc bs (pc + 1) L (av_l x :: st) σ z) : AW M d bc bs pc L st σ z := by
  intro X p l e R s m args below meth c H locs cells slots Q ls C hc hs hH hS hL hE
  obtain ⟨hx, hb, hml, hown, hts, hret, hlk, hin, hdf, hdl, hok, hK, hG⟩ := id C
  exact lv_lload_n hx hb hd hi (hL.2.2 i _ hv) (kk X p l e R s m args below meth c H locs cells slots Q ls C hc hs hH hS hL hE)

theorem ax_lload {i : Nat} {x : Int64} (hd : decode M.2.1 pc = .ok (.lload i, 2)) (hv : L[i]? = some (some (av_l x)))
    (kk : AW M d bc bs (pc + 2) L (av_l x :: st) σ z) : AW M d bc bs pc L st σ z := by
  intro X p l e R s m args below meth c H locs cells slots Q ls C hc hs hH hS hL hE
  obtain ⟨hx, hb, hml, hown, hts, hret, hlk, hin, hdf, hdl, hok, hK, hG⟩ := id C
  exact lv_lload hx hb hd (hL.2.2 i _ hv) (kk X p l e R s m args below meth c H locs cells slots Q ls C hc hs hH hS hL hE)

theorem ax_aload_n {k : Fin 4} {i : Nat} {r : Option Nat} (hd : decode M.2.1 pc = .ok (.aload_n k, 1)) (hi : (k : Nat) = i) (hv : L[i]? = some (some (av_r r)))
    (kk : AW M d bc bs (pc + 1) L (av_r r :: st) σ z) : AW M d bc bs pc L st σ z := by
  intro X p l e R s m args below meth c H locs cells slots Q ls C hc hs hH hS hL hE
  obtain ⟨hx, hb, hml, hown, hts, hret, hlk, hin, hdf, hdl, hok, hK, hG⟩ := id C
  have h1 := hL.2.2 i _ hv
  have k1 := kk X p l e R s m args below meth c H locs cells slots Q ls C hc hs hH hS hL hE
  cases r with
  | none => exact lv_aload_nN hx hb hd hi h1 k1
  | some q => exact lv_aload_n hx hb hd hi h1 k1

theorem ax_aload {i : Nat} {r : Option Nat} (hd : decode M.2.1 pc = .ok (.aload i, 2)) (hv : L[i]? = some (some (av_r r)))
    (kk : AW M d bc bs (pc + 2) L (av_r r :: st) σ z) : AW M d bc bs pc L st σ z := by
  intro X p l e R s m args below meth c H locs cells slots Q ls C hc hs hH hS hL hE
  obtain ⟨hx, hb, hml, hown, hts, hret, hlk, hin, hdf, hdl, hok, hK, hG⟩ := id C
  have h1 := hL.2.2 i _ hv
  have k1 := kk X p l e R s m args below meth c H locs cells slots Q ls C hc hs hH hS hL hE
  cases r with
  | none => exact lv_aloadN hx hb hd  h1 k1
  | some q => exact lv_aload hx hb hd  h1 k1

theorem ax_istore_n {k : Fin 4} {i : Nat} {x : Int32} (hd : decode M.2.1 pc = .ok (.istore_n k, 1)) (hi : (k : Nat) = i) (hn : i < M.2.2.2.1) (hk : ax_st L i = true) {L2 : List (Option ax_V)} (hL2 : L.set i (some (av_i x)) = L2)
    (kk : AW M d bc bs (pc + 1) L2 st σ z) : AW M d bc bs pc L (av_i x :: st) σ z := by
  intro X p l e R s m args below meth c H locs cells slots Q ls C hc hs hH hS hL hE
  obtain ⟨hx, hb, hml, hown, hts, hret, hlk, hin, hdf, hdl, hok, hK, hG⟩ := id C
  exact lv_istore_n hx hb hd hi (ax_lv_has hL) hn rfl (fun ls' h' => kk X p l e R s m args below meth c H locs cells slots Q ls' C hc hs hH hS (hL2 ▸ ax_L.set1 hk h') hE)

theorem ax_istore {i : Nat} {x : Int32} (hd : decode M.2.1 pc = .ok (.istore i, 2)) (hn : i < M.2.2.2.1) (hk : ax_st L i = true) {L2 : List (Option ax_V)} (hL2 : L.set i (some (av_i x)) = L2)
    (kk : AW M d bc bs (pc + 2) L2 st σ z) : AW M d bc bs pc L (av_i x :: st) σ z := by
  intro X p l e R s m args below meth c H locs cells slots Q ls C hc hs hH hS hL hE
  obtain ⟨hx, hb, hml, hown, hts, hret, hlk, hin, hdf, hdl, hok, hK, hG⟩ := id C
  exact lv_istore hx hb hd (ax_lv_has hL) hn rfl (fun ls' h' => kk X p l e R s m args below meth c H locs cells slots Q ls' C hc hs hH hS (hL2 ▸ ax_L.set1 hk h') hE)

theorem ax_astore_n {k : Fin 4} {i : Nat} {r : Option Nat} (hd : decode M.2.1 pc = .ok (.astore_n k, 1)) (hi : (k : Nat) = i) (hn : i < M.2.2.2.1) (hk : ax_st L i = true) {L2 : List (Option ax_V)} (hL2 : L.set i (some (av_r r)) = L2)
    (kk : AW M d bc bs (pc + 1) L2 st σ z) : AW M d bc bs pc L (av_r r :: st) σ z := by
  intro X p l e R s m args below meth c H locs cells slots Q ls C hc hs hH hS hL hE
  obtain ⟨hx, hb, hml, hown, hts, hret, hlk, hin, hdf, hdl, hok, hK, hG⟩ := id C
  cases r with
  | none => exact lv_astore_nN hx hb hd hi (ax_lv_has hL) hn rfl (fun ls' h' => kk X p l e R s m args below meth c H locs cells slots Q ls' C hc hs hH hS (hL2 ▸ ax_L.set1 hk h') hE)
  | some q => exact lv_astore_n hx hb hd hi (ax_lv_has hL) hn rfl (fun ls' h' => kk X p l e R s m args below meth c H locs cells slots Q ls' C hc hs hH hS (hL2 ▸ ax_L.set1 hk h') hE)

theorem ax_astore {i : Nat} {r : Option Nat} (hd : decode M.2.1 pc = .ok (.astore i, 2)) (hn : i < M.2.2.2.1) (hk : ax_st L i = true) {L2 : List (Option ax_V)} (hL2 : L.set i (some (av_r r)) = L2)
    (kk : AW M d bc bs (pc + 2) L2 st σ z) : AW M d bc bs pc L (av_r r :: st) σ z := by
  intro X p l e R s m args below meth c H locs cells slots Q ls C hc hs hH hS hL hE
  obtain ⟨hx, hb, hml, hown, hts, hret, hlk, hin, hdf, hdl, hok, hK, hG⟩ := id C
  cases r with
  | none => exact lv_astoreN hx hb hd (ax_lv_has hL) hn rfl (fun ls' h' => kk X p l e R s m args below meth c H locs cells slots Q ls' C hc hs hH hS (hL2 ▸ ax_L.set1 hk h') hE)
  | some q => exact lv_astore hx hb hd (ax_lv_has hL) hn rfl (fun ls' h' => kk X p l e R s m args below meth c H locs cells slots Q ls' C hc hs hH hS (hL2 ▸ ax_L.set1 hk h') hE)

theorem ax_lstore_n {k : Fin 4} {i : Nat} {x : Int64} (hd : decode M.2.1 pc = .ok (.lstore_n k, 1)) (hi : (k : Nat) = i) (hn : i + 1 < M.2.2.2.1) (hk : ax_st L i = true) {L2 : List (Option ax_V)} (hL2 : (L.set i (some (av_l x))).set (i + 1) none = L2)
    (kk : AW M d bc bs (pc + 1) L2 st σ z) : AW M d bc bs pc L (av_l x :: st) σ z := by
  intro X p l e R s m args below meth c H locs cells slots Q ls C hc hs hH hS hL hE
  obtain ⟨hx, hb, hml, hown, hts, hret, hlk, hin, hdf, hdl, hok, hK, hG⟩ := id C
  exact lv_lstore_n hx hb hd hi (ax_lv_has hL) hn rfl (fun ls' h' => kk X p l e R s m args below meth c H locs cells slots Q ls' C hc hs hH hS (hL2 ▸ ax_L.set2 hk h') hE)

theorem ax_lstore {i : Nat} {x : Int64} (hd : decode M.2.1 pc = .ok (.lstore i, 2)) (hn : i + 1 < M.2.2.2.1) (hk : ax_st L i = true) {L2 : List (Option ax_V)} (hL2 : (L.set i (some (av_l x))).set (i + 1) none = L2)
    (kk : AW M d bc bs (pc + 2) L2 st σ z) : AW M d bc bs pc L (av_l x :: st) σ z := by
  intro X p l e R s m args below meth c H locs cells slots Q ls C hc hs hH hS hL hE
  obtain ⟨hx, hb, hml, hown, hts, hret, hlk, hin, hdf, hdl, hok, hK, hG⟩ := id C
  exact lv_lstore hx hb hd (ax_lv_has hL) hn rfl (fun ls' h' => kk X p l e R s m args below meth c H locs cells slots Q ls' C hc hs hH hS (hL2 ▸ ax_L.set2 hk h') hE)

theorem ax_iinc {i : Nat} {n : Int} {x v : Int32} (hd : decode M.2.1 pc = .ok (.iinc i n, 3)) (hv : L[i]? = some (some (av_i x))) (hv2 : x + Int32.ofInt n = v) (hn : i < M.2.2.2.1) (hk : ax_st L i = true) {L2 : List (Option ax_V)} (hL2 : L.set i (some (av_i v)) = L2)
    (kk : AW M d bc bs (pc + 3) L2 st σ z) : AW M d bc bs pc L st σ z := by
  intro X p l e R s m args below meth c H locs cells slots Q ls C hc hs hH hS hL hE
  obtain ⟨hx, hb, hml, hown, hts, hret, hlk, hin, hdf, hdl, hok, hK, hG⟩ := id C
  obtain ⟨k, hk2⟩ := List.getElem?_of_mem (ax_lv_mem.mpr ⟨_, hv, rfl⟩ : (i, Value.int x) ∈ ax_lv (ax_ρ X) L)
  exact lv_iinc hx hb hd (ax_lv_has hL) hk2 hv2 hn rfl (fun ls' h' => kk X p l e R s m args below meth c H locs cells slots Q ls' C hc hs hH hS (hL2 ▸ ax_L.set1 hk h') hE)

theorem ax_iadd {x y : Int32} (hd : decode M.2.1 pc = .ok (.iadd, 1))
    (kk : AW M d bc bs (pc + 1) L (av_i (x + y) :: st) σ z) : AW M d bc bs pc L (av_i y :: av_i x :: st) σ z := by
  intro X p l e R s m args below meth c H locs cells slots Q ls C hc hs hH hS hL hE
  obtain ⟨hx, hb, hml, hown, hts, hret, hlk, hin, hdf, hdl, hok, hK, hG⟩ := id C
  exact lv_iadd hx hb hd (kk X p l e R s m args below meth c H locs cells slots Q ls C hc hs hH hS hL hE)

theorem ax_isub {x y : Int32} (hd : decode M.2.1 pc = .ok (.isub, 1))
    (kk : AW M d bc bs (pc + 1) L (av_i (x - y) :: st) σ z) : AW M d bc bs pc L (av_i y :: av_i x :: st) σ z := by
  intro X p l e R s m args below meth c H locs cells slots Q ls C hc hs hH hS hL hE
  obtain ⟨hx, hb, hml, hown, hts, hret, hlk, hin, hdf, hdl, hok, hK, hG⟩ := id C
  exact lv_isub hx hb hd (kk X p l e R s m args below meth c H locs cells slots Q ls C hc hs hH hS hL hE)

theorem ax_imul {x y : Int32} (hd : decode M.2.1 pc = .ok (.imul, 1))
    (kk : AW M d bc bs (pc + 1) L (av_i (x * y) :: st) σ z) : AW M d bc bs pc L (av_i y :: av_i x :: st) σ z := by
  intro X p l e R s m args below meth c H locs cells slots Q ls C hc hs hH hS hL hE
  obtain ⟨hx, hb, hml, hown, hts, hret, hlk, hin, hdf, hdl, hok, hK, hG⟩ := id C
  exact lv_imul hx hb hd (kk X p l e R s m args below meth c H locs cells slots Q ls C hc hs hH hS hL hE)

theorem ax_iand {x y : Int32} (hd : decode M.2.1 pc = .ok (.iand, 1))
    (kk : AW M d bc bs (pc + 1) L (av_i (x &&& y) :: st) σ z) : AW M d bc bs pc L (av_i y :: av_i x :: st) σ z := by
  intro X p l e R s m args below meth c H locs cells slots Q ls C hc hs hH hS hL hE
  obtain ⟨hx, hb, hml, hown, hts, hret, hlk, hin, hdf, hdl, hok, hK, hG⟩ := id C
  exact lv_iand hx hb hd (kk X p l e R s m args below meth c H locs cells slots Q ls C hc hs hH hS hL hE)

theorem ax_ior {x y : Int32} (hd : decode M.2.1 pc = .ok (.ior, 1))
    (kk : AW M d bc bs (pc + 1) L (av_i (x ||| y) :: st) σ z) : AW M d bc bs pc L (av_i y :: av_i x :: st) σ z := by
  intro X p l e R s m args below meth c H locs cells slots Q ls C hc hs hH hS hL hE
  obtain ⟨hx, hb, hml, hown, hts, hret, hlk, hin, hdf, hdl, hok, hK, hG⟩ := id C
  exact lv_ior hx hb hd (kk X p l e R s m args below meth c H locs cells slots Q ls C hc hs hH hS hL hE)

theorem ax_ixor {x y : Int32} (hd : decode M.2.1 pc = .ok (.ixor, 1))
    (kk : AW M d bc bs (pc + 1) L (av_i (x ^^^ y) :: st) σ z) : AW M d bc bs pc L (av_i y :: av_i x :: st) σ z := by
  intro X p l e R s m args below meth c H locs cells slots Q ls C hc hs hH hS hL hE
  obtain ⟨hx, hb, hml, hown, hts, hret, hlk, hin, hdf, hdl, hok, hK, hG⟩ := id C
  exact lv_ixor hx hb hd (kk X p l e R s m args below meth c H locs cells slots Q ls C hc hs hH hS hL hE)

theorem ax_ishl {x y : Int32} (hd : decode M.2.1 pc = .ok (.ishl, 1))
    (kk : AW M d bc bs (pc + 1) L (av_i (x <<< (y &&& 31)) :: st) σ z) : AW M d bc bs pc L (av_i y :: av_i x :: st) σ z := by
  intro X p l e R s m args below meth c H locs cells slots Q ls C hc hs hH hS hL hE
  obtain ⟨hx, hb, hml, hown, hts, hret, hlk, hin, hdf, hdl, hok, hK, hG⟩ := id C
  exact lv_ishl hx hb hd (kk X p l e R s m args below meth c H locs cells slots Q ls C hc hs hH hS hL hE)

theorem ax_ishr {x y : Int32} (hd : decode M.2.1 pc = .ok (.ishr, 1))
    (kk : AW M d bc bs (pc + 1) L (av_i (x >>> (y &&& 31)) :: st) σ z) : AW M d bc bs pc L (av_i y :: av_i x :: st) σ z := by
  intro X p l e R s m args below meth c H locs cells slots Q ls C hc hs hH hS hL hE
  obtain ⟨hx, hb, hml, hown, hts, hret, hlk, hin, hdf, hdl, hok, hK, hG⟩ := id C
  exact lv_ishr hx hb hd (kk X p l e R s m args below meth c H locs cells slots Q ls C hc hs hH hS hL hE)

theorem ax_iushr {x y : Int32} (hd : decode M.2.1 pc = .ok (.iushr, 1))
    (kk : AW M d bc bs (pc + 1) L (av_i (x.toUInt32 >>> (y.toUInt32 &&& Int32.toUInt32 31)).toInt32 :: st) σ z) : AW M d bc bs pc L (av_i y :: av_i x :: st) σ z := by
  intro X p l e R s m args below meth c H locs cells slots Q ls C hc hs hH hS hL hE
  obtain ⟨hx, hb, hml, hown, hts, hret, hlk, hin, hdf, hdl, hok, hK, hG⟩ := id C
  exact lv_iushr hx hb hd rfl (kk X p l e R s m args below meth c H locs cells slots Q ls C hc hs hH hS hL hE)

theorem ax_ldc {index : Nat} {v : Int32} (hd : decode M.2.1 pc = .ok (.ldc index, 2)) (hw : Cond.constant M.1 index v ∈ ax_WS)
    (kk : AW M d bc bs (pc + 2) L (av_i v :: st) σ z) : AW M d bc bs pc L st σ z := by
  intro X p l e R s m args below meth c H locs cells slots Q ls C hc hs hH hS hL hE
  obtain ⟨hx, hb, hml, hown, hts, hret, hlk, hin, hdf, hdl, hok, hK, hG⟩ := id C
  exact lv_ldc hx hb hown (hts _ hw) hd (kk X p l e R s m args below meth c H locs cells slots Q ls C hc hs hH hS hL hE)

theorem ax_ldcw {index : Nat} {v : Int32} (hd : decode M.2.1 pc = .ok (.ldc_w index, 3)) (hw : Cond.constant M.1 index v ∈ ax_WS)
    (kk : AW M d bc bs (pc + 3) L (av_i v :: st) σ z) : AW M d bc bs pc L st σ z := by
  intro X p l e R s m args below meth c H locs cells slots Q ls C hc hs hH hS hL hE
  obtain ⟨hx, hb, hml, hown, hts, hret, hlk, hin, hdf, hdl, hok, hK, hG⟩ := id C
  exact lv_ldcw hx hb hown (hts _ hw) hd (kk X p l e R s m args below meth c H locs cells slots Q ls C hc hs hH hS hL hE)

theorem ax_idiv {x y : Int32} (hd : decode M.2.1 pc = .ok (.idiv, 1)) (h0 : ¬ y = 0)
    (kk : AW M d bc bs (pc + 1) L (av_i (x / y) :: st) σ z) : AW M d bc bs pc L (av_i y :: av_i x :: st) σ z := by
  intro X p l e R s m args below meth c H locs cells slots Q ls C hc hs hH hS hL hE
  obtain ⟨hx, hb, hml, hown, hts, hret, hlk, hin, hdf, hdl, hok, hK, hG⟩ := id C
  exact lv_idiv hx hb hd h0 (kk X p l e R s m args below meth c H locs cells slots Q ls C hc hs hH hS hL hE)

theorem ax_irem {x y : Int32} (hd : decode M.2.1 pc = .ok (.irem, 1)) (h0 : ¬ y = 0)
    (kk : AW M d bc bs (pc + 1) L (av_i (x - x / y * y) :: st) σ z) : AW M d bc bs pc L (av_i y :: av_i x :: st) σ z := by
  intro X p l e R s m args below meth c H locs cells slots Q ls C hc hs hH hS hL hE
  obtain ⟨hx, hb, hml, hown, hts, hret, hlk, hin, hdf, hdl, hok, hK, hG⟩ := id C
  exact lv_irem hx hb hd h0 (kk X p l e R s m args below meth c H locs cells slots Q ls C hc hs hH hS hL hE)

theorem ax_ineg {x : Int32} (hd : decode M.2.1 pc = .ok (.ineg, 1))
    (kk : AW M d bc bs (pc + 1) L (av_i (-x) :: st) σ z) : AW M d bc bs pc L (av_i x :: st) σ z := by
  intro X p l e R s m args below meth c H locs cells slots Q ls C hc hs hH hS hL hE
  obtain ⟨hx, hb, hml, hown, hts, hret, hlk, hin, hdf, hdl, hok, hK, hG⟩ := id C
  exact lv_ineg hx hb hd (kk X p l e R s m args below meth c H locs cells slots Q ls C hc hs hH hS hL hE)

theorem ax_ladd {x y : Int64} (hd : decode M.2.1 pc = .ok (.ladd, 1))
    (kk : AW M d bc bs (pc + 1) L (av_l (x + y) :: st) σ z) : AW M d bc bs pc L (av_l y :: av_l x :: st) σ z := by
  intro X p l e R s m args below meth c H locs cells slots Q ls C hc hs hH hS hL hE
  obtain ⟨hx, hb, hml, hown, hts, hret, hlk, hin, hdf, hdl, hok, hK, hG⟩ := id C
  exact lv_ladd hx hb hd (kk X p l e R s m args below meth c H locs cells slots Q ls C hc hs hH hS hL hE)

theorem ax_lmul {x y : Int64} (hd : decode M.2.1 pc = .ok (.lmul, 1))
    (kk : AW M d bc bs (pc + 1) L (av_l (x * y) :: st) σ z) : AW M d bc bs pc L (av_l y :: av_l x :: st) σ z := by
  intro X p l e R s m args below meth c H locs cells slots Q ls C hc hs hH hS hL hE
  obtain ⟨hx, hb, hml, hown, hts, hret, hlk, hin, hdf, hdl, hok, hK, hG⟩ := id C
  exact lv_lmul hx hb hd (kk X p l e R s m args below meth c H locs cells slots Q ls C hc hs hH hS hL hE)

theorem ax_lcmp {x y : Int64} (hd : decode M.2.1 pc = .ok (.lcmp, 1))
    (kk : AW M d bc bs (pc + 1) L (av_i (lg_cmp x y) :: st) σ z) : AW M d bc bs pc L (av_l y :: av_l x :: st) σ z := by
  intro X p l e R s m args below meth c H locs cells slots Q ls C hc hs hH hS hL hE
  obtain ⟨hx, hb, hml, hown, hts, hret, hlk, hin, hdf, hdl, hok, hK, hG⟩ := id C
  exact W.lcmp hx hb hd (kk X p l e R s m args below meth c H locs cells slots Q ls C hc hs hH hS hL hE)

theorem ax_i2l {x : Int32} (hd : decode M.2.1 pc = .ok (.i2l, 1))
    (kk : AW M d bc bs (pc + 1) L (av_l x.toInt64 :: st) σ z) : AW M d bc bs pc L (av_i x :: st) σ z := by
  intro X p l e R s m args below meth c H locs cells slots Q ls C hc hs hH hS hL hE
  obtain ⟨hx, hb, hml, hown, hts, hret, hlk, hin, hdf, hdl, hok, hK, hG⟩ := id C
  exact lv_i2l hx hb hd rfl (kk X p l e R s m args below meth c H locs cells slots Q ls C hc hs hH hS hL hE)

theorem ax_i2b {x : Int32} (hd : decode M.2.1 pc = .ok (.i2b, 1))
    (kk : AW M d bc bs (pc + 1) L (av_i x.toInt8.toInt32 :: st) σ z) : AW M d bc bs pc L (av_i x :: st) σ z := by
  intro X p l e R s m args below meth c H locs cells slots Q ls C hc hs hH hS hL hE
  obtain ⟨hx, hb, hml, hown, hts, hret, hlk, hin, hdf, hdl, hok, hK, hG⟩ := id C
  exact lv_i2b hx hb hd rfl (kk X p l e R s m args below meth c H locs cells slots Q ls C hc hs hH hS hL hE)

theorem ax_i2c {x : Int32} (hd : decode M.2.1 pc = .ok (.i2c, 1))
    (kk : AW M d bc bs (pc + 1) L (av_i (x.toUInt32 % 65536).toInt32 :: st) σ z) : AW M d bc bs pc L (av_i x :: st) σ z := by
  intro X p l e R s m args below meth c H locs cells slots Q ls C hc hs hH hS hL hE
  obtain ⟨hx, hb, hml, hown, hts, hret, hlk, hin, hdf, hdl, hok, hK, hG⟩ := id C
  exact lv_i2c hx hb hd rfl (kk X p l e R s m args below meth c H locs cells slots Q ls C hc hs hH hS hL hE)

theorem ax_dup {v : ax_V} (hd : decode M.2.1 pc = .ok (.dup, 1)) (h1 : (match v with | .inr (.inl _) => False | _ => True))
    (kk : AW M d bc bs (pc + 1) L (v :: v :: st) σ z) : AW M d bc bs pc L (v :: st) σ z := by
  intro X p l e R s m args below meth c H locs cells slots Q ls C hc hs hH hS hL hE
  obtain ⟨hx, hb, hml, hown, hts, hret, hlk, hin, hdf, hdl, hok, hK, hG⟩ := id C
  have hcat : (ax_cv (ax_ρ X) v).category = 1 := by
    rw [ax_cat]
    rcases v with x | x | r
    · rfl
    · exact absurd h1 id
    · rfl
  exact lv_dup hx hb hd hcat (kk X p l e R s m args below meth c H locs cells slots Q ls C hc hs hH hS hL hE)

theorem ax_pop {v : ax_V} (hd : decode M.2.1 pc = .ok (.pop, 1)) (h1 : (match v with | .inr (.inl _) => False | _ => True))
    (kk : AW M d bc bs (pc + 1) L st σ z) : AW M d bc bs pc L (v :: st) σ z := by
  intro X p l e R s m args below meth c H locs cells slots Q ls C hc hs hH hS hL hE
  obtain ⟨hx, hb, hml, hown, hts, hret, hlk, hin, hdf, hdl, hok, hK, hG⟩ := id C
  have hcat : (ax_cv (ax_ρ X) v).category = 1 := by
    rw [ax_cat]
    rcases v with x | x | r
    · rfl
    · exact absurd h1 id
    · rfl
  exact lv_pop hx hb hd hcat (kk X p l e R s m args below meth c H locs cells slots Q ls C hc hs hH hS hL hE)

theorem ax_dup2 {v w : ax_V} (hd : decode M.2.1 pc = .ok (.dup2, 1)) (h1 : (match v with | .inr (.inl _) => False | _ => True)) (h2 : (match w with | .inr (.inl _) => False | _ => True))
    (kk : AW M d bc bs (pc + 1) L (v :: w :: v :: w :: st) σ z) : AW M d bc bs pc L (v :: w :: st) σ z := by
  intro X p l e R s m args below meth c H locs cells slots Q ls C hc hs hH hS hL hE
  obtain ⟨hx, hb, hml, hown, hts, hret, hlk, hin, hdf, hdl, hok, hK, hG⟩ := id C
  have hcat : (ax_cv (ax_ρ X) v).category = 1 := by
    rw [ax_cat]
    rcases v with x | x | r
    · rfl
    · exact absurd h1 id
    · rfl
  have hcat2 : (ax_cv (ax_ρ X) w).category = 1 := by
    rw [ax_cat]
    rcases w with x | x | r
    · rfl
    · exact absurd h2 id
    · rfl
  exact lv_dup2_11 hx hb hd hcat hcat2 (kk X p l e R s m args below meth c H locs cells slots Q ls C hc hs hH hS hL hE)

theorem ax_dup_x1 {v w : ax_V} (hd : decode M.2.1 pc = .ok (.dup_x1, 1)) (h1 : (match v with | .inr (.inl _) => False | _ => True)) (h2 : (match w with | .inr (.inl _) => False | _ => True))
    (kk : AW M d bc bs (pc + 1) L (v :: w :: v :: st) σ z) : AW M d bc bs pc L (v :: w :: st) σ z := by
  intro X p l e R s m args below meth c H locs cells slots Q ls C hc hs hH hS hL hE
  obtain ⟨hx, hb, hml, hown, hts, hret, hlk, hin, hdf, hdl, hok, hK, hG⟩ := id C
  have hcat : (ax_cv (ax_ρ X) v).category = 1 := by
    rw [ax_cat]
    rcases v with x | x | r
    · rfl
    · exact absurd h1 id
    · rfl
  have hcat2 : (ax_cv (ax_ρ X) w).category = 1 := by
    rw [ax_cat]
    rcases w with x | x | r
    · rfl
    · exact absurd h2 id
    · rfl
  exact lv_dup_x1 hx hb hd hcat hcat2 (kk X p l e R s m args below meth c H locs cells slots Q ls C hc hs hH hS hL hE)

theorem ax_if_eq {x : Int32} {off : Int} {tgt : Nat} (hd : decode M.2.1 pc = .ok (.ifCond .eq off, 3)) (ht : (pc : Int) + off = (tgt : Int))
    (kt : x = 0 → AW M d bc bs tgt L st σ z) (kf : ¬ (x = 0) → AW M d bc bs (pc + 3) L st σ z) : AW M d bc bs pc L (av_i x :: st) σ z := by
  intro X p l e R s m args below meth c H locs cells slots Q ls C hc hs hH hS hL hE
  obtain ⟨hx, hb, hml, hown, hts, hret, hlk, hin, hdf, hdl, hok, hK, hG⟩ := id C
  exact lv_if_eq hx hb hd ht (fun h => kt h X p l e R s m args below meth c H locs cells slots Q ls C hc hs hH hS hL hE) (fun h => kf h X p l e R s m args below meth c H locs cells slots Q ls C hc hs hH hS hL hE)

theorem ax_if_ne {x : Int32} {off : Int} {tgt : Nat} (hd : decode M.2.1 pc = .ok (.ifCond .ne off, 3)) (ht : (pc : Int) + off = (tgt : Int))
    (kt : ¬ x = 0 → AW M d bc bs tgt L st σ z) (kf : x = 0 → AW M d bc bs (pc + 3) L st σ z) : AW M d bc bs pc L (av_i x :: st) σ z := by
  intro X p l e R s m args below meth c H locs cells slots Q ls C hc hs hH hS hL hE
  obtain ⟨hx, hb, hml, hown, hts, hret, hlk, hin, hdf, hdl, hok, hK, hG⟩ := id C
  exact lv_if_ne hx hb hd ht (fun h => kt h X p l e R s m args below meth c H locs cells slots Q ls C hc hs hH hS hL hE) (fun h => kf h X p l e R s m args below meth c H locs cells slots Q ls C hc hs hH hS hL hE)

theorem ax_if_lt {x : Int32} {off : Int} {tgt : Nat} (hd : decode M.2.1 pc = .ok (.ifCond .lt off, 3)) (ht : (pc : Int) + off = (tgt : Int))
    (kt : x < 0 → AW M d bc bs tgt L st σ z) (kf : ¬ (x < 0) → AW M d bc bs (pc + 3) L st σ z) : AW M d bc bs pc L (av_i x :: st) σ z := by
  intro X p l e R s m args below meth c H locs cells slots Q ls C hc hs hH hS hL hE
  obtain ⟨hx, hb, hml, hown, hts, hret, hlk, hin, hdf, hdl, hok, hK, hG⟩ := id C
  exact lv_if_lt hx hb hd ht (fun h => kt h X p l e R s m args below meth c H locs cells slots Q ls C hc hs hH hS hL hE) (fun h => kf h X p l e R s m args below meth c H locs cells slots Q ls C hc hs hH hS hL hE)

theorem ax_if_ge {x : Int32} {off : Int} {tgt : Nat} (hd : decode M.2.1 pc = .ok (.ifCond .ge off, 3)) (ht : (pc : Int) + off = (tgt : Int))
    (kt : 0 ≤ x → AW M d bc bs tgt L st σ z) (kf : ¬ (0 ≤ x) → AW M d bc bs (pc + 3) L st σ z) : AW M d bc bs pc L (av_i x :: st) σ z := by
  intro X p l e R s m args below meth c H locs cells slots Q ls C hc hs hH hS hL hE
  obtain ⟨hx, hb, hml, hown, hts, hret, hlk, hin, hdf, hdl, hok, hK, hG⟩ := id C
  exact lv_if_ge hx hb hd ht (fun h => kt h X p l e R s m args below meth c H locs cells slots Q ls C hc hs hH hS hL hE) (fun h => kf h X p l e R s m args below meth c H locs cells slots Q ls C hc hs hH hS hL hE)

theorem ax_if_gt {x : Int32} {off : Int} {tgt : Nat} (hd : decode M.2.1 pc = .ok (.ifCond .gt off, 3)) (ht : (pc : Int) + off = (tgt : Int))
    (kt : 0 < x → AW M d bc bs tgt L st σ z) (kf : ¬ (0 < x) → AW M d bc bs (pc + 3) L st σ z) : AW M d bc bs pc L (av_i x :: st) σ z := by
  intro X p l e R s m args below meth c H locs cells slots Q ls C hc hs hH hS hL hE
  obtain ⟨hx, hb, hml, hown, hts, hret, hlk, hin, hdf, hdl, hok, hK, hG⟩ := id C
  exact lv_if_gt hx hb hd ht (fun h => kt h X p l e R s m args below meth c H locs cells slots Q ls C hc hs hH hS hL hE) (fun h => kf h X p l e R s m args below meth c H locs cells slots Q ls C hc hs hH hS hL hE)

theorem ax_if_le {x : Int32} {off : Int} {tgt : Nat} (hd : decode M.2.1 pc = .ok (.ifCond .le off, 3)) (ht : (pc : Int) + off = (tgt : Int))
    (kt : x ≤ 0 → AW M d bc bs tgt L st σ z) (kf : ¬ (x ≤ 0) → AW M d bc bs (pc + 3) L st σ z) : AW M d bc bs pc L (av_i x :: st) σ z := by
  intro X p l e R s m args below meth c H locs cells slots Q ls C hc hs hH hS hL hE
  obtain ⟨hx, hb, hml, hown, hts, hret, hlk, hin, hdf, hdl, hok, hK, hG⟩ := id C
  exact lv_if_le hx hb hd ht (fun h => kt h X p l e R s m args below meth c H locs cells slots Q ls C hc hs hH hS hL hE) (fun h => kf h X p l e R s m args below meth c H locs cells slots Q ls C hc hs hH hS hL hE)

theorem ax_icmp_eq {x y : Int32} {off : Int} {tgt : Nat} (hd : decode M.2.1 pc = .ok (.if_icmp .eq off, 3)) (ht : (pc : Int) + off = (tgt : Int))
    (kt : x = y → AW M d bc bs tgt L st σ z) (kf : ¬ (x = y) → AW M d bc bs (pc + 3) L st σ z) : AW M d bc bs pc L (av_i y :: av_i x :: st) σ z := by
  intro X p l e R s m args below meth c H locs cells slots Q ls C hc hs hH hS hL hE
  obtain ⟨hx, hb, hml, hown, hts, hret, hlk, hin, hdf, hdl, hok, hK, hG⟩ := id C
  exact lv_icmp_eq hx hb hd ht (fun h => kt h X p l e R s m args below meth c H locs cells slots Q ls C hc hs hH hS hL hE) (fun h => kf h X p l e R s m args below meth c H locs cells slots Q ls C hc hs hH hS hL hE)

theorem ax_icmp_ne {x y : Int32} {off : Int} {tgt : Nat} (hd : decode M.2.1 pc = .ok (.if_icmp .ne off, 3)) (ht : (pc : Int) + off = (tgt : Int))
    (kt : ¬ x = y → AW M d bc bs tgt L st σ z) (kf : x = y → AW M d bc bs (pc + 3) L st σ z) : AW M d bc bs pc L (av_i y :: av_i x :: st) σ z := by
  intro X p l e R s m args below meth c H locs cells slots Q ls C hc hs hH hS hL hE
  obtain ⟨hx, hb, hml, hown, hts, hret, hlk, hin, hdf, hdl, hok, hK, hG⟩ := id C
  exact lv_icmp_ne hx hb hd ht (fun h => kt h X p l e R s m args below meth c H locs cells slots Q ls C hc hs hH hS hL hE) (fun h => kf h X p l e R s m args below meth c H locs cells slots Q ls C hc hs hH hS hL hE)

theorem ax_icmp_lt {x y : Int32} {off : Int} {tgt : Nat} (hd : decode M.2.1 pc = .ok (.if_icmp .lt off, 3)) (ht : (pc : Int) + off = (tgt : Int))
    (kt : x < y → AW M d bc bs tgt L st σ z) (kf : ¬ (x < y) → AW M d bc bs (pc + 3) L st σ z) : AW M d bc bs pc L (av_i y :: av_i x :: st) σ z := by
  intro X p l e R s m args below meth c H locs cells slots Q ls C hc hs hH hS hL hE
  obtain ⟨hx, hb, hml, hown, hts, hret, hlk, hin, hdf, hdl, hok, hK, hG⟩ := id C
  exact lv_icmp_lt hx hb hd ht (fun h => kt h X p l e R s m args below meth c H locs cells slots Q ls C hc hs hH hS hL hE) (fun h => kf h X p l e R s m args below meth c H locs cells slots Q ls C hc hs hH hS hL hE)

theorem ax_icmp_ge {x y : Int32} {off : Int} {tgt : Nat} (hd : decode M.2.1 pc = .ok (.if_icmp .ge off, 3)) (ht : (pc : Int) + off = (tgt : Int))
    (kt : y ≤ x → AW M d bc bs tgt L st σ z) (kf : ¬ (y ≤ x) → AW M d bc bs (pc + 3) L st σ z) : AW M d bc bs pc L (av_i y :: av_i x :: st) σ z := by
  intro X p l e R s m args below meth c H locs cells slots Q ls C hc hs hH hS hL hE
  obtain ⟨hx, hb, hml, hown, hts, hret, hlk, hin, hdf, hdl, hok, hK, hG⟩ := id C
  exact lv_icmp_ge hx hb hd ht (fun h => kt h X p l e R s m args below meth c H locs cells slots Q ls C hc hs hH hS hL hE) (fun h => kf h X p l e R s m args below meth c H locs cells slots Q ls C hc hs hH hS hL hE)

theorem ax_icmp_gt {x y : Int32} {off : Int} {tgt : Nat} (hd : decode M.2.1 pc = .ok (.if_icmp .gt off, 3)) (ht : (pc : Int) + off = (tgt : Int))
    (kt : y < x → AW M d bc bs tgt L st σ z) (kf : ¬ (y < x) → AW M d bc bs (pc + 3) L st σ z) : AW M d bc bs pc L (av_i y :: av_i x :: st) σ z := by
  intro X p l e R s m args below meth c H locs cells slots Q ls C hc hs hH hS hL hE
  obtain ⟨hx, hb, hml, hown, hts, hret, hlk, hin, hdf, hdl, hok, hK, hG⟩ := id C
  exact lv_icmp_gt hx hb hd ht (fun h => kt h X p l e R s m args below meth c H locs cells slots Q ls C hc hs hH hS hL hE) (fun h => kf h X p l e R s m args below meth c H locs cells slots Q ls C hc hs hH hS hL hE)

theorem ax_icmp_le {x y : Int32} {off : Int} {tgt : Nat} (hd : decode M.2.1 pc = .ok (.if_icmp .le off, 3)) (ht : (pc : Int) + off = (tgt : Int))
    (kt : x ≤ y → AW M d bc bs tgt L st σ z) (kf : ¬ (x ≤ y) → AW M d bc bs (pc + 3) L st σ z) : AW M d bc bs pc L (av_i y :: av_i x :: st) σ z := by
  intro X p l e R s m args below meth c H locs cells slots Q ls C hc hs hH hS hL hE
  obtain ⟨hx, hb, hml, hown, hts, hret, hlk, hin, hdf, hdl, hok, hK, hG⟩ := id C
  exact lv_icmp_le hx hb hd ht (fun h => kt h X p l e R s m args below meth c H locs cells slots Q ls C hc hs hH hS hL hE) (fun h => kf h X p l e R s m args below meth c H locs cells slots Q ls C hc hs hH hS hL hE)

theorem ax_goto {off : Int} {tgt : Nat} (hd : decode M.2.1 pc = .ok (.goto off, 3)) (ht : (pc : Int) + off = (tgt : Int)) (kk : AW M d bc bs tgt L st σ z) : AW M d bc bs pc L st σ z := by
  intro X p l e R s m args below meth c H locs cells slots Q ls C hc hs hH hS hL hE
  obtain ⟨hx, hb, hml, hown, hts, hret, hlk, hin, hdf, hdl, hok, hK, hG⟩ := id C
  exact lv_goto hx hb hd ht (kk X p l e R s m args below meth c H locs cells slots Q ls C hc hs hH hS hL hE)
theorem ax_ifnull {r : Option Nat} {off : Int} {tgt : Nat} (hd : decode M.2.1 pc = .ok (.ifnull off, 3)) (ht : (pc : Int) + off = (tgt : Int)) (kt : r = none → AW M d bc bs tgt L st σ z) (kf : ¬ (r = none) → AW M d bc bs (pc + 3) L st σ z) : AW M d bc bs pc L (av_r r :: st) σ z := by
  intro X p l e R s m args below meth c H locs cells slots Q ls C hc hs hH hS hL hE
  obtain ⟨hx, hb, hml, hown, hts, hret, hlk, hin, hdf, hdl, hok, hK, hG⟩ := id C
  cases r with
  | none => exact lv_ifnullN hx hb hd ht (kt rfl X p l e R s m args below meth c H locs cells slots Q ls C hc hs hH hS hL hE)
  | some q => exact lv_ifnull hx hb hd (kf (fun h => by cases h) X p l e R s m args below meth c H locs cells slots Q ls C hc hs hH hS hL hE)
theorem ax_ifnonnull {r : Option Nat} {off : Int} {tgt : Nat} (hd : decode M.2.1 pc = .ok (.ifnonnull off, 3)) (ht : (pc : Int) + off = (tgt : Int)) (kt : ¬ (r = none) → AW M d bc bs tgt L st σ z) (kf : ¬ ¬ (r = none) → AW M d bc bs (pc + 3) L st σ z) : AW M d bc bs pc L (av_r r :: st) σ z := by
  intro X p l e R s m args below meth c H locs cells slots Q ls C hc hs hH hS hL hE
  obtain ⟨hx, hb, hml, hown, hts, hret, hlk, hin, hdf, hdl, hok, hK, hG⟩ := id C
  cases r with
  | none => exact lv_ifnonnullN hx hb hd (kf (fun h => h rfl) X p l e R s m args below meth c H locs cells slots Q ls C hc hs hH hS hL hE)
  | some q => exact lv_ifnonnull hx hb hd ht (kt (fun h => by cases h) X p l e R s m args below meth c H locs cells slots Q ls C hc hs hH hS hL hE)
theorem ax_swOut {dflt lo hi : Int} {offs : Array Int} {len : Nat} {x : Int32} {tgt : Nat} (hd : decode M.2.1 pc = .ok (.tableswitch dflt lo hi offs, len)) (h : x.toInt < lo ∨ hi < x.toInt) (ht : (pc : Int) + dflt = (tgt : Int)) (kk : AW M d bc bs tgt L st σ z) : AW M d bc bs pc L (av_i x :: st) σ z := by
  intro X p l e R s m args below meth c H locs cells slots Q ls C hc hs hH hS hL hE
  obtain ⟨hx, hb, hml, hown, hts, hret, hlk, hin, hdf, hdl, hok, hK, hG⟩ := id C
  exact lv_tableOut hx hb hd h ht (kk X p l e R s m args below meth c H locs cells slots Q ls C hc hs hH hS hL hE)
theorem ax_swIn {dflt lo hi : Int} {offs : Array Int} {len : Nat} {x : Int32} {off : Int} {tgt : Nat} (hd : decode M.2.1 pc = .ok (.tableswitch dflt lo hi offs, len)) (h1 : ¬ x.toInt < lo) (h2 : ¬ hi < x.toInt) (ho : offs[(x.toInt - lo).toNat]? = some off) (ht : (pc : Int) + off = (tgt : Int)) (kk : AW M d bc bs tgt L st σ z) : AW M d bc bs pc L (av_i x :: st) σ z := by
  intro X p l e R s m args below meth c H locs cells slots Q ls C hc hs hH hS hL hE
  obtain ⟨hx, hb, hml, hown, hts, hret, hlk, hin, hdf, hdl, hok, hK, hG⟩ := id C
  exact lv_tableIn hx hb hd h1 h2 ho ht (kk X p l e R s m args below meth c H locs cells slots Q ls C hc hs hH hS hL hE)
/-- fewer known locals -/
def ax_sub : List (Option ax_V) → List (Option ax_V) → Prop
  | [], _ => True
  | none :: t, u => ax_sub t u.tail
  | some v :: t, u => u.head? = some (some v) ∧ ax_sub t u.tail
theorem ax_sub_at : ∀ {A B : List (Option ax_V)}, ax_sub A B → ∀ (i : Nat) (v : ax_V), A[i]? = some (some v) → B[i]? = some (some v)
  | [], _, _, i, v, h => by simp at h
  | none :: t, B, hs, i, v, h => by
    cases i with
    | zero => simp at h
    | succ j =>
      have h1 := ax_sub_at (A := t) (B := B.tail) hs j v h
      cases B with
      | nil => simp at h1
      | cons w u => exact h1
  | some a :: t, B, hs, i, v, h => by
    obtain ⟨h0, h2⟩ := hs
    cases B with
    | nil => simp at h0
    | cons w u =>
      cases i with
      | zero =>
        rw [List.getElem?_cons_zero] at h ⊢
        cases h
        exact h0
      | succ j => exact ax_sub_at (A := t) (B := u) h2 j v h
theorem ax_less {L' : List (Option ax_V)} (h : ax_sub L' L) (kk : AW M d bc bs pc L' st σ z) : AW M d bc bs pc L st σ z := by
  intro X p l e R s m args below meth c H locs cells slots Q ls C hc hs hH hS hL hE
  obtain ⟨hx, hb, hml, hown, hts, hret, hlk, hin, hdf, hdl, hok, hK, hG⟩ := id C
  exact kk X p l e R s m args below meth c H locs cells slots Q ls C hc hs hH hS ⟨hL.1, hL.2.1, fun i v hv => hL.2.2 i v (ax_sub_at h i v hv)⟩ hE
theorem ax_at_pc {pc2 : Nat} (h : pc2 = pc) (kk : AW M d bc bs pc2 L st σ z) : AW M d bc bs pc L st σ z := h ▸ kk
/-- a smaller room is enough -/
theorem ax_wide {bc2 bs2 : Nat} (h1 : bc2 ≤ bc) (h2 : bs2 ≤ bs) (kk : AW M d bc2 bs2 pc L st σ z) : AW M d bc bs pc L st σ z := by
  intro X p l e R s m args below meth c H locs cells slots Q ls C hc hs hH hS hL hE
  obtain ⟨hx, hb, hml, hown, hts, hret, hlk, hin, hdf, hdl, hok, hK, hG⟩ := id C
  exact kk X p l e R s m args below meth c H locs cells slots Q ls C (by omega) (by omega) hH hS hL hE
/-- the end -/
theorem ax_ret (hd : decode M.2.1 pc = .ok (ax_ri M.2.2.1, 1)) (h : (st, σ) = (z.1.toList, z.2)) : AW M d bc bs pc L st σ z := by
  intro X p l e R s m args below meth c H locs cells slots Q ls C hc hs hH hS hL hE
  obtain ⟨hx, hb, hml, hown, hts, hret, hlk, hin, hdf, hdl, hok, hK, hG⟩ := id C
  cases h
  exact W.widen (by omega) (by omega) (hE pc ls H locs hH hS hd)
/-- a store into a local, the locals as they are then -/
def ax_bd {α β : Type} (x : α) (f : α → β) : β := f x
theorem ax_bdI {ρ : Type} {q : ρ} {e : Int32} {f : Int32 → Option ρ} (h : ax_bd e f = some q) (kk : ∀ x : Int32, f x = some q → AW M d bc bs pc L (av_i x :: st) σ z) : AW M d bc bs pc L (av_i e :: st) σ z := kk e h
theorem ax_bdL {ρ : Type} {q : ρ} {e : Int64} {f : Int64 → Option ρ} (h : ax_bd e f = some q) (kk : ∀ x : Int64, f x = some q → AW M d bc bs pc L (av_l x :: st) σ z) : AW M d bc bs pc L (av_l e :: st) σ z := kk e h
theorem ax_bdR {ρ : Type} {q : ρ} {e : Option Nat} {f : Option Nat → Option ρ} (h : ax_bd e f = some q) (kk : ∀ x : Option Nat, f x = some q → AW M d bc bs pc L (av_r x :: st) σ z) : AW M d bc bs pc L (av_r e :: st) σ z := kk e h
theorem ax_bdS {ρ : Type} {q : ρ} {e : ax_S} {f : ax_S → Option ρ} (h : ax_bd e f = some q) (kk : ∀ x : ax_S, f x = some q → AW M d bc bs pc L st x z) : AW M d bc bs pc L st e z := kk e h
theorem ax_no {ρ : Type} {q : ρ} {P : Prop} (h : (none : Option ρ) = some q) : P := by cases h
theorem ax_reti {x : Int32} {q : Int32 × ax_S} (hd : decode M.2.1 pc = .ok (ax_ri M.2.2.1, 1)) (h : some (x, σ) = some q) : AW M d bc bs pc L [av_i x] σ (some (av_i q.1), q.2) := by
  cases h
  exact ax_ret hd rfl
theorem ax_retl {x : Int64} {q : Int64 × ax_S} (hd : decode M.2.1 pc = .ok (ax_ri M.2.2.1, 1)) (h : some (x, σ) = some q) : AW M d bc bs pc L [av_l x] σ (some (av_l q.1), q.2) := by
  cases h
  exact ax_ret hd rfl
theorem ax_retr {x : Option Nat} {q : Option Nat × ax_S} (hd : decode M.2.1 pc = .ok (ax_ri M.2.2.1, 1)) (h : some (x, σ) = some q) : AW M d bc bs pc L [av_r x] σ (some (av_r q.1), q.2) := by
  cases h
  exact ax_ret hd rfl
theorem ax_retv {q : ax_S} (hd : decode M.2.1 pc = .ok (ax_ri M.2.2.1, 1)) (h : some σ = some q) : AW M d bc bs pc L [] σ (none, q) := by
  cases h
  exact ax_ret hd rfl
theorem ax_swC {dflt lo hi : Int} {offs : Array Int} {len : Nat} {x v : Int32} {c off : Int} {tgt : Nat} (hd : decode M.2.1 pc = .ok (.tableswitch dflt lo hi offs, len)) (hxv : x = v) (hv : v.toInt = c) (h1 : lo ≤ c) (h2 : c ≤ hi) (ho : offs[(c - lo).toNat]? = some off) (ht : (pc : Int) + off = (tgt : Int)) (kk : AW M d bc bs tgt L st σ z) : AW M d bc bs pc L (av_i x :: st) σ z := by
  subst hxv
  subst hv
  exact ax_swIn hd (by omega) (by omega) ho ht kk
theorem ax_swD {dflt lo hi : Int} {offs : Array Int} {len : Nat} {x : Int32} {tgt : Nat} (hd : decode M.2.1 pc = .ok (.tableswitch dflt lo hi offs, len)) (hall : ∀ c : Int, lo ≤ c → c ≤ hi → offs[(c - lo).toNat]? = some dflt ∨ x ≠ Int32.ofInt c) (ht : (pc : Int) + dflt = (tgt : Int)) (kk : AW M d bc bs tgt L st σ z) : AW M d bc bs pc L (av_i x :: st) σ z := by
  by_cases h1 : x.toInt < lo ∨ hi < x.toInt
  · exact ax_swOut hd h1 ht kk
  · rcases hall x.toInt (by omega) (by omega) with h | h
    · exact ax_swIn hd (by omega) (by omega) h ht kk
    · exact absurd (Int32.ofInt_toInt x).symm h
theorem ax_ne_of {x : Int32} {u : Unit} (h : (if x = 0 then none else some ()) = some u) : ¬ x = 0 := by
  intro e
  rw [if_pos e] at h
  cases h
end AXR
