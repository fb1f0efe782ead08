/-! X4_paintAmounts -/
abbrev mm_X4_paintAmounts : ax_M := (RX4, cX4_paintAmounts, none, 6, false)
def fb_X4_paintAmounts_45 (k2 : Option Nat → Option Nat → Option Nat → Int32 → ax_S → Option (ax_S)) (a0 : Option Nat) (a1 : Option Nat) (a2 : Option Nat) (a3 : Int32) (b0 : Int32) (s : ax_S) : Option (ax_S) :=
  (ax_as s 9 a2 a3 (if (0) < (if b0 < (255) then b0 else (255)) then (if b0 < (255) then b0 else (255)) else (0))).bind fun s1 =>
  k2 a0 a1 a2 (a3 + (1)) s1
set_option maxRecDepth 100000 in
set_option maxHeartbeats 4000000 in
theorem tb_X4_paintAmounts_45 {q : ax_S} {k2 : Option Nat → Option Nat → Option Nat → Int32 → ax_S → Option (ax_S)} (hk2 : ∀ (a0 : Option Nat) (a1 : Option Nat) (a2 : Option Nat) (a3 : Int32) (s : ax_S), k2 a0 a1 a2 a3 s = some q → AW mm_X4_paintAmounts 1 0 0 2 [(some (av_r a0)), (some (av_r a1)), (some (av_r a2)), (some (av_i a3)), none, none] [] s (none, q)) {a0 : Option Nat} {a1 : Option Nat} {a2 : Option Nat} {a3 : Int32} {b0 : Int32} {s : ax_S} (h : fb_X4_paintAmounts_45 k2 a0 a1 a2 a3 b0 s = some q) : AW mm_X4_paintAmounts 1 0 0 45 [(some (av_r a0)), (some (av_r a1)), (some (av_r a2)), (some (av_i a3)), none, none] [av_i b0] s (none, q) := by
  unfold fb_X4_paintAmounts_45 at h
  refine ax_istore (i := 5) (L2 := [some (av_r a0), some (av_r a1), some (av_r a2), some (av_i a3), none, some (av_i b0)]) dX4_paintAmounts_45 (by decide) rfl rfl ?_
  refine ax_aload_n (i := 2) dX4_paintAmounts_47 rfl rfl ?_
  refine ax_iload_n (i := 3) dX4_paintAmounts_48 rfl rfl ?_
  refine ax_iconst (v := (0)) dX4_paintAmounts_49 rfl ?_
  refine ax_sipush (v := (255)) dX4_paintAmounts_50 rfl ?_
  refine ax_iload (i := 5) dX4_paintAmounts_53 rfl ?_
  refine ax_min dX4_paintAmounts_55 wd_388 wd_389 wd_26 wd_390 (by omega) (Nat.le_of_ble_eq_true rfl) ?_
  refine ax_max dX4_paintAmounts_58 wd_391 wd_300 wd_26 wd_301 (by omega) (Nat.le_of_ble_eq_true rfl) ?_
  obtain ⟨s1, gs1, h⟩ := Option.bind_eq_some_iff.mp h
  refine ax_iast dX4_paintAmounts_61 gs1 ?_
  refine ax_iinc (i := 3) (v := (a3 + (1))) (L2 := [some (av_r a0), some (av_r a1), some (av_r a2), some (av_i (a3 + (1))), none, some (av_i b0)]) dX4_paintAmounts_62 rfl rfl (by decide) rfl rfl ?_
  refine ax_goto (tgt := 2) dX4_paintAmounts_65 (by decide) ?_
  exact ax_less (L' := [(some (av_r a0)), (some (av_r a1)), (some (av_r a2)), (some (av_i (a3 + (1)))), none, none]) ⟨rfl, rfl, rfl, rfl, trivial⟩ (hk2 _ _ _ _ _ h)
def fb_X4_paintAmounts_2 : Nat → Option Nat → Option Nat → Option Nat → Int32 → ax_S → Option (ax_S)
  | 0, _, _, _, _, _ => none
  | n + 1, a0, a1, a2, a3, s =>
    if (96) ≤ a3 then
      some s
    else
      (ax_gr s 2 4 a0).bind fun r3 =>
      (ax_al s 9 r3 (a3 / (32))).bind fun x4 =>
      (ax_gi s 2 0 a0).bind fun x5 =>
      if x5 = (1) then
        (ax_al s 9 a1 a3).bind fun x8 =>
        fb_X4_paintAmounts_45 (fb_X4_paintAmounts_2 n) a0 a1 a2 a3 ((x8 * x4) / (16)) s
      else
        (ax_al s 9 a1 a3).bind fun x7 =>
        fb_X4_paintAmounts_45 (fb_X4_paintAmounts_2 n) a0 a1 a2 a3 (x7 + x4) s
set_option maxRecDepth 100000 in
set_option maxHeartbeats 4000000 in
theorem tb_X4_paintAmounts_2 {q : ax_S} : ∀ (n : Nat) (a0 : Option Nat) (a1 : Option Nat) (a2 : Option Nat) (a3 : Int32) (s : ax_S) (h : fb_X4_paintAmounts_2 n a0 a1 a2 a3 s = some q), AW mm_X4_paintAmounts 1 0 0 2 [(some (av_r a0)), (some (av_r a1)), (some (av_r a2)), (some (av_i a3)), none, none] [] s (none, q) := by
  intro n
  induction n with
  | zero =>
    intro a0 a1 a2 a3 s h
    exact ax_no h
  | succ n ih =>
    intro a0 a1 a2 a3 s h
    unfold fb_X4_paintAmounts_2 at h
    refine ax_iload_n (i := 3) dX4_paintAmounts_2 rfl rfl ?_
    refine ax_bipush (v := (96)) dX4_paintAmounts_3 rfl ?_
    refine ax_icmp_ge (tgt := 68) dX4_paintAmounts_5 (by decide) (fun c2 => ?_) (fun c2 => ?_)
    · rw [if_pos c2] at h
      exact ax_retv dX4_paintAmounts_68 h
    · rw [if_neg c2] at h
      refine ax_aload_n (i := 0) dX4_paintAmounts_8 rfl rfl ?_
      obtain ⟨r3, gr3, h⟩ := Option.bind_eq_some_iff.mp h
      refine ax_getR (q := (RX3, TX3, 5)) (t := 2) (k := 4) dX4_paintAmounts_9 rfl (by decide) wd_70 rfl gr3 ?_
      refine ax_iload_n (i := 3) dX4_paintAmounts_12 rfl rfl ?_
      refine ax_bipush (v := (32)) dX4_paintAmounts_13 rfl ?_
      refine ax_idiv dX4_paintAmounts_15 (by decide) ?_
      obtain ⟨x4, gx4, h⟩ := Option.bind_eq_some_iff.mp h
      refine ax_iald dX4_paintAmounts_16 gx4 ?_
      refine ax_istore (i := 4) (L2 := [some (av_r a0), some (av_r a1), some (av_r a2), some (av_i a3), some (av_i x4), none]) dX4_paintAmounts_17 (by decide) rfl rfl ?_
      refine ax_aload_n (i := 0) dX4_paintAmounts_19 rfl rfl ?_
      obtain ⟨x5, gx5, h⟩ := Option.bind_eq_some_iff.mp h
      refine ax_getI (q := (RX3, TX3, 5)) (t := 2) (k := 0) dX4_paintAmounts_20 rfl (by decide) wd_57 rfl gx5 ?_
      refine ax_iconst (v := (1)) dX4_paintAmounts_23 rfl ?_
      refine ax_icmp_ne (tgt := 39) dX4_paintAmounts_24 (by decide) (fun c6 => ?_) (fun c6 => ?_)
      · rw [if_neg c6] at h
        refine ax_aload_n (i := 1) dX4_paintAmounts_39 rfl rfl ?_
        refine ax_iload_n (i := 3) dX4_paintAmounts_40 rfl rfl ?_
        obtain ⟨x7, gx7, h⟩ := Option.bind_eq_some_iff.mp h
        refine ax_iald dX4_paintAmounts_41 gx7 ?_
        refine ax_iload (i := 4) dX4_paintAmounts_42 rfl ?_
        refine ax_iadd dX4_paintAmounts_44 ?_
        exact ax_less (L' := [(some (av_r a0)), (some (av_r a1)), (some (av_r a2)), (some (av_i a3)), none, none]) ⟨rfl, rfl, rfl, rfl, trivial⟩ (tb_X4_paintAmounts_45 ih h)
      · rw [if_pos c6] at h
        refine ax_aload_n (i := 1) dX4_paintAmounts_27 rfl rfl ?_
        refine ax_iload_n (i := 3) dX4_paintAmounts_28 rfl rfl ?_
        obtain ⟨x8, gx8, h⟩ := Option.bind_eq_some_iff.mp h
        refine ax_iald dX4_paintAmounts_29 gx8 ?_
        refine ax_iload (i := 4) dX4_paintAmounts_30 rfl ?_
        refine ax_imul dX4_paintAmounts_32 ?_
        refine ax_bipush (v := (16)) dX4_paintAmounts_33 rfl ?_
        refine ax_idiv dX4_paintAmounts_35 (by decide) ?_
        refine ax_goto (tgt := 45) dX4_paintAmounts_36 (by decide) ?_
        exact ax_less (L' := [(some (av_r a0)), (some (av_r a1)), (some (av_r a2)), (some (av_i a3)), none, none]) ⟨rfl, rfl, rfl, rfl, trivial⟩ (tb_X4_paintAmounts_45 ih h)
def fn_X4_paintAmounts (a0 : Option Nat) (a1 : Option Nat) (a2 : Option Nat) (s : ax_S) : Option (ax_S) :=
  fb_X4_paintAmounts_2 10000 a0 a1 a2 (0) s
set_option maxRecDepth 100000 in
set_option maxHeartbeats 4000000 in
theorem tw_X4_paintAmounts {q : ax_S} {a0 : Option Nat} {a1 : Option Nat} {a2 : Option Nat} {s : ax_S} (h : fn_X4_paintAmounts a0 a1 a2 s = some q) : AW mm_X4_paintAmounts 1 0 0 0 [some (av_r a0), some (av_r a1), some (av_r a2), none, none, none] [] s (none, q) := by
  unfold fn_X4_paintAmounts at h
  refine ax_iconst (v := (0)) dX4_paintAmounts_0 rfl ?_
  refine ax_istore_n (i := 3) (L2 := [some (av_r a0), some (av_r a1), some (av_r a2), some (av_i (0)), none, none]) dX4_paintAmounts_1 rfl (by decide) rfl rfl ?_
  exact ax_less (L' := [(some (av_r a0)), (some (av_r a1)), (some (av_r a2)), (some (av_i (0))), none, none]) ⟨rfl, rfl, rfl, rfl, trivial⟩ (tb_X4_paintAmounts_2  _ _ _ _ _ _ h)
set_option maxRecDepth 100000 in
set_option maxHeartbeats 4000000 in
theorem th_X4_paintAmounts {q : ax_S} {a0 : Option Nat} {a1 : Option Nat} {a2 : Option Nat} {s : ax_S} (h : fn_X4_paintAmounts a0 a1 a2 s = some q) : AC mm_X4_paintAmounts yX4_paintAmounts 1 0 0 [av_r a0, av_r a1, av_r a2] s (none, q) := by
  exact ax_met (L0 := [some (av_r a0), some (av_r a1), some (av_r a2), none, none, none]) (by decide +kernel) rfl (fun h => absurd h (by decide)) ⟨rfl, rfl, rfl, trivial⟩ (Nat.le_of_ble_eq_true rfl) trivial (tw_X4_paintAmounts h)
/-! X4_paintBlend -/
abbrev mm_X4_paintBlend : ax_M := (RX4, cX4_paintBlend, none, 6, false)
def fb_X4_paintBlend_3 : Nat → Option Nat → Option Nat → Option Nat → Option Nat → Int32 → ax_S → Option (ax_S)
  | 0, _, _, _, _, _, _ => none
  | n + 1, a0, a1, a2, a3, a4, s =>
    if (96) ≤ a4 then
      some s
    else
      (ax_al s 9 a2 a4).bind fun x2 =>
      (ax_al s 9 a0 a4).bind fun x3 =>
      (ax_al s 9 a1 a4).bind fun x4 =>
      (ax_as s 9 a3 a4 (((x3 * ((255) - x2)) + (x4 * x2)) / (255))).bind fun s5 =>
      (fb_X4_paintBlend_3 n) a0 a1 a2 a3 (a4 + (1)) s5
set_option maxRecDepth 100000 in
set_option maxHeartbeats 4000000 in
theorem tb_X4_paintBlend_3 {q : ax_S} : ∀ (n : Nat) (a0 : Option Nat) (a1 : Option Nat) (a2 : Option Nat) (a3 : Option Nat) (a4 : Int32) (s : ax_S) (h : fb_X4_paintBlend_3 n a0 a1 a2 a3 a4 s = some q), AW mm_X4_paintBlend 0 0 0 3 [(some (av_r a0)), (some (av_r a1)), (some (av_r a2)), (some (av_r a3)), (some (av_i a4)), none] [] s (none, q) := by
  intro n
  induction n with
  | zero =>
    intro a0 a1 a2 a3 a4 s h
    exact ax_no h
  | succ n ih =>
    intro a0 a1 a2 a3 a4 s h
    unfold fb_X4_paintBlend_3 at h
    refine ax_iload (i := 4) dX4_paintBlend_3 rfl ?_
    refine ax_bipush (v := (96)) dX4_paintBlend_5 rfl ?_
    refine ax_icmp_ge (tgt := 49) dX4_paintBlend_7 (by decide) (fun c1 => ?_) (fun c1 => ?_)
    · rw [if_pos c1] at h
      exact ax_retv dX4_paintBlend_49 h
    · rw [if_neg c1] at h
      refine ax_aload_n (i := 2) dX4_paintBlend_10 rfl rfl ?_
      refine ax_iload (i := 4) dX4_paintBlend_11 rfl ?_
      obtain ⟨x2, gx2, h⟩ := Option.bind_eq_some_iff.mp h
      refine ax_iald dX4_paintBlend_13 gx2 ?_
      refine ax_istore (i := 5) (L2 := [some (av_r a0), some (av_r a1), some (av_r a2), some (av_r a3), some (av_i a4), some (av_i x2)]) dX4_paintBlend_14 (by decide) rfl rfl ?_
      refine ax_aload_n (i := 3) dX4_paintBlend_16 rfl rfl ?_
      refine ax_iload (i := 4) dX4_paintBlend_17 rfl ?_
      refine ax_aload_n (i := 0) dX4_paintBlend_19 rfl rfl ?_
      refine ax_iload (i := 4) dX4_paintBlend_20 rfl ?_
      obtain ⟨x3, gx3, h⟩ := Option.bind_eq_some_iff.mp h
      refine ax_iald dX4_paintBlend_22 gx3 ?_
      refine ax_sipush (v := (255)) dX4_paintBlend_23 rfl ?_
      refine ax_iload (i := 5) dX4_paintBlend_26 rfl ?_
      refine ax_isub dX4_paintBlend_28 ?_
      refine ax_imul dX4_paintBlend_29 ?_
      refine ax_aload_n (i := 1) dX4_paintBlend_30 rfl rfl ?_
      refine ax_iload (i := 4) dX4_paintBlend_31 rfl ?_
      obtain ⟨x4, gx4, h⟩ := Option.bind_eq_some_iff.mp h
      refine ax_iald dX4_paintBlend_33 gx4 ?_
      refine ax_iload (i := 5) dX4_paintBlend_34 rfl ?_
      refine ax_imul dX4_paintBlend_36 ?_
      refine ax_iadd dX4_paintBlend_37 ?_
      refine ax_sipush (v := (255)) dX4_paintBlend_38 rfl ?_
      refine ax_idiv dX4_paintBlend_41 (by decide) ?_
      obtain ⟨s5, gs5, h⟩ := Option.bind_eq_some_iff.mp h
      refine ax_iast dX4_paintBlend_42 gs5 ?_
      refine ax_iinc (i := 4) (v := (a4 + (1))) (L2 := [some (av_r a0), some (av_r a1), some (av_r a2), some (av_r a3), some (av_i (a4 + (1))), some (av_i x2)]) dX4_paintBlend_43 rfl rfl (by decide) rfl rfl ?_
      refine ax_goto (tgt := 3) dX4_paintBlend_46 (by decide) ?_
      exact ax_less (L' := [(some (av_r a0)), (some (av_r a1)), (some (av_r a2)), (some (av_r a3)), (some (av_i (a4 + (1)))), none]) ⟨rfl, rfl, rfl, rfl, rfl, trivial⟩ (ih _ _ _ _ _ _ h)
def fn_X4_paintBlend (a0 : Option Nat) (a1 : Option Nat) (a2 : Option Nat) (a3 : Option Nat) (s : ax_S) : Option (ax_S) :=
  fb_X4_paintBlend_3 10000 a0 a1 a2 a3 (0) s
set_option maxRecDepth 100000 in
set_option maxHeartbeats 4000000 in
theorem tw_X4_paintBlend {q : ax_S} {a0 : Option Nat} {a1 : Option Nat} {a2 : Option Nat} {a3 : Option Nat} {s : ax_S} (h : fn_X4_paintBlend a0 a1 a2 a3 s = some q) : AW mm_X4_paintBlend 0 0 0 0 [some (av_r a0), some (av_r a1), some (av_r a2), some (av_r a3), none, none] [] s (none, q) := by
  unfold fn_X4_paintBlend at h
  refine ax_iconst (v := (0)) dX4_paintBlend_0 rfl ?_
  refine ax_istore (i := 4) (L2 := [some (av_r a0), some (av_r a1), some (av_r a2), some (av_r a3), some (av_i (0)), none]) dX4_paintBlend_1 (by decide) rfl rfl ?_
  exact ax_less (L' := [(some (av_r a0)), (some (av_r a1)), (some (av_r a2)), (some (av_r a3)), (some (av_i (0))), none]) ⟨rfl, rfl, rfl, rfl, rfl, trivial⟩ (tb_X4_paintBlend_3  _ _ _ _ _ _ _ h)
set_option maxRecDepth 100000 in
set_option maxHeartbeats 4000000 in
theorem th_X4_paintBlend {q : ax_S} {a0 : Option Nat} {a1 : Option Nat} {a2 : Option Nat} {a3 : Option Nat} {s : ax_S} (h : fn_X4_paintBlend a0 a1 a2 a3 s = some q) : AC mm_X4_paintBlend yX4_paintBlend 0 0 0 [av_r a0, av_r a1, av_r a2, av_r a3] s (none, q) := by
  exact ax_met (L0 := [some (av_r a0), some (av_r a1), some (av_r a2), some (av_r a3), none, none]) (by decide +kernel) rfl (fun h => absurd h (by decide)) ⟨rfl, rfl, rfl, rfl, trivial⟩ (Nat.le_of_ble_eq_true rfl) trivial (tw_X4_paintBlend h)
/-! X4_paintBlur -/
abbrev mm_X4_paintBlur : ax_M := (RX4, cX4_paintBlur, none, 10, false)
def fb_X4_paintBlur_45 (k2 : Int32 → Option Nat → Option Nat → Int32 → ax_S → Option (ax_S)) : Nat → Int32 → Option Nat → Option Nat → Int32 → Int32 → Int32 → Int32 → Int32 → ax_S → Option (ax_S)
  | 0, _, _, _, _, _, _, _, _, _ => none
  | n + 1, a0, a1, a2, a3, a6, a7, a8, a9, s =>
    if a6 < a9 then
      if a8 = 0 then
        (ax_as s 9 a2 a3 (0)).bind fun s5 =>
        k2 a0 a1 a2 (a3 + (1)) s5
      else
        (if a8 = 0 then none else some ()).bind fun u3 =>
        (ax_as s 9 a2 a3 (a7 / a8)).bind fun s4 =>
        k2 a0 a1 a2 (a3 + (1)) s4
    else
      (ax_al s 9 a1 (a3 + a9)).bind fun x6 =>
      ax_bd ((a7 + x6)) fun v7 =>
      (fb_X4_paintBlur_45 k2 n) a0 a1 a2 a3 a6 v7 (a8 + (1)) (a9 + (1)) s
set_option maxRecDepth 100000 in
set_option maxHeartbeats 4000000 in
theorem tb_X4_paintBlur_45 {q : ax_S} {k2 : Int32 → Option Nat → Option Nat → Int32 → ax_S → Option (ax_S)} (hk2 : ∀ (a0 : Int32) (a1 : Option Nat) (a2 : Option Nat) (a3 : Int32) (s : ax_S), k2 a0 a1 a2 a3 s = some q → AW mm_X4_paintBlur 1 0 0 2 [(some (av_i a0)), (some (av_r a1)), (some (av_r a2)), (some (av_i a3)), none, none, none, none, none, none] [] s (none, q)) : ∀ (n : Nat) (a0 : Int32) (a1 : Option Nat) (a2 : Option Nat) (a3 : Int32) (a6 : Int32) (a7 : Int32) (a8 : Int32) (a9 : Int32) (s : ax_S) (h : fb_X4_paintBlur_45 k2 n a0 a1 a2 a3 a6 a7 a8 a9 s = some q), AW mm_X4_paintBlur 1 0 0 45 [(some (av_i a0)), (some (av_r a1)), (some (av_r a2)), (some (av_i a3)), none, none, (some (av_i a6)), (some (av_i a7)), (some (av_i a8)), (some (av_i a9))] [] s (none, q) := by
  intro n
  induction n with
  | zero =>
    intro a0 a1 a2 a3 a6 a7 a8 a9 s h
    exact ax_no h
  | succ n ih =>
    intro a0 a1 a2 a3 a6 a7 a8 a9 s h
    unfold fb_X4_paintBlur_45 at h
    refine ax_iload (i := 9) dX4_paintBlur_45 rfl ?_
    refine ax_iload (i := 6) dX4_paintBlur_47 rfl ?_
    refine ax_icmp_gt (tgt := 72) dX4_paintBlur_49 (by decide) (fun c1 => ?_) (fun c1 => ?_)
    · rw [if_pos c1] at h
      refine ax_aload_n (i := 2) dX4_paintBlur_72 rfl rfl ?_
      refine ax_iload_n (i := 3) dX4_paintBlur_73 rfl rfl ?_
      refine ax_iload (i := 8) dX4_paintBlur_74 rfl ?_
      refine ax_if_ne (tgt := 83) dX4_paintBlur_76 (by decide) (fun c2 => ?_) (fun c2 => ?_)
      · rw [if_neg c2] at h
        refine ax_iload (i := 7) dX4_paintBlur_83 rfl ?_
        refine ax_iload (i := 8) dX4_paintBlur_85 rfl ?_
        obtain ⟨u3, gu3, h⟩ := Option.bind_eq_some_iff.mp h
        refine ax_idiv dX4_paintBlur_87 (ax_ne_of gu3) ?_
        obtain ⟨s4, gs4, h⟩ := Option.bind_eq_some_iff.mp h
        refine ax_iast dX4_paintBlur_88 gs4 ?_
        refine ax_iinc (i := 3) (v := (a3 + (1))) (L2 := [some (av_i a0), some (av_r a1), some (av_r a2), some (av_i (a3 + (1))), none, none, some (av_i a6), some (av_i a7), some (av_i a8), some (av_i a9)]) dX4_paintBlur_89 rfl rfl (by decide) rfl rfl ?_
        refine ax_goto (tgt := 2) dX4_paintBlur_92 (by decide) ?_
        exact ax_less (L' := [(some (av_i a0)), (some (av_r a1)), (some (av_r a2)), (some (av_i (a3 + (1)))), none, none, none, none, none, none]) ⟨rfl, rfl, rfl, rfl, trivial⟩ (hk2 _ _ _ _ _ h)
      · rw [if_pos c2] at h
        refine ax_iconst (v := (0)) dX4_paintBlur_79 rfl ?_
        refine ax_goto (tgt := 88) dX4_paintBlur_80 (by decide) ?_
        obtain ⟨s5, gs5, h⟩ := Option.bind_eq_some_iff.mp h
        refine ax_iast dX4_paintBlur_88 gs5 ?_
        refine ax_iinc (i := 3) (v := (a3 + (1))) (L2 := [some (av_i a0), some (av_r a1), some (av_r a2), some (av_i (a3 + (1))), none, none, some (av_i a6), some (av_i a7), some (av_i a8), some (av_i a9)]) dX4_paintBlur_89 rfl rfl (by decide) rfl rfl ?_
        refine ax_goto (tgt := 2) dX4_paintBlur_92 (by decide) ?_
        exact ax_less (L' := [(some (av_i a0)), (some (av_r a1)), (some (av_r a2)), (some (av_i (a3 + (1)))), none, none, none, none, none, none]) ⟨rfl, rfl, rfl, rfl, trivial⟩ (hk2 _ _ _ _ _ h)
    · rw [if_neg c1] at h
      refine ax_iload (i := 7) dX4_paintBlur_52 rfl ?_
      refine ax_aload_n (i := 1) dX4_paintBlur_54 rfl rfl ?_
      refine ax_iload_n (i := 3) dX4_paintBlur_55 rfl rfl ?_
      refine ax_iload (i := 9) dX4_paintBlur_56 rfl ?_
      refine ax_iadd dX4_paintBlur_58 ?_
      obtain ⟨x6, gx6, h⟩ := Option.bind_eq_some_iff.mp h
      refine ax_iald dX4_paintBlur_59 gx6 ?_
      refine ax_iadd dX4_paintBlur_60 ?_
      refine ax_bdI h (fun v7 h => ?_)
      refine ax_istore (i := 7) (L2 := [some (av_i a0), some (av_r a1), some (av_r a2), some (av_i a3), none, none, some (av_i a6), some (av_i v7), some (av_i a8), some (av_i a9)]) dX4_paintBlur_61 (by decide) rfl rfl ?_
      refine ax_iinc (i := 8) (v := (a8 + (1))) (L2 := [some (av_i a0), some (av_r a1), some (av_r a2), some (av_i a3), none, none, some (av_i a6), some (av_i v7), some (av_i (a8 + (1))), some (av_i a9)]) dX4_paintBlur_63 rfl rfl (by decide) rfl rfl ?_
      refine ax_iinc (i := 9) (v := (a9 + (1))) (L2 := [some (av_i a0), some (av_r a1), some (av_r a2), some (av_i a3), none, none, some (av_i a6), some (av_i v7), some (av_i (a8 + (1))), some (av_i (a9 + (1)))]) dX4_paintBlur_66 rfl rfl (by decide) rfl rfl ?_
      refine ax_goto (tgt := 45) dX4_paintBlur_69 (by decide) ?_
      exact ax_less (L' := [(some (av_i a0)), (some (av_r a1)), (some (av_r a2)), (some (av_i a3)), none, none, (some (av_i a6)), (some (av_i v7)), (some (av_i (a8 + (1)))), (some (av_i (a9 + (1))))]) ⟨rfl, rfl, rfl, rfl, rfl, rfl, rfl, rfl, trivial⟩ (ih _ _ _ _ _ _ _ _ _ h)
def fb_X4_paintBlur_2 : Nat → Int32 → Option Nat → Option Nat → Int32 → ax_S → Option (ax_S)
  | 0, _, _, _, _, _ => none
  | n + 1, a0, a1, a2, a3, s =>
    if (96) ≤ a3 then
      some s
    else
      ax_bd ((a3 - a3 / (8) * (8))) fun v9 =>
      ax_bd ((if (-a0) < (-v9) then (-v9) else (-a0))) fun v10 =>
      ax_bd ((if ((7) - v9) < a0 then ((7) - v9) else a0)) fun v11 =>
      fb_X4_paintBlur_45 (fb_X4_paintBlur_2 n) 10000 a0 a1 a2 a3 v11 (0) (0) v10 s
set_option maxRecDepth 100000 in
set_option maxHeartbeats 4000000 in
theorem tb_X4_paintBlur_2 {q : ax_S} : ∀ (n : Nat) (a0 : Int32) (a1 : Option Nat) (a2 : Option Nat) (a3 : Int32) (s : ax_S) (h : fb_X4_paintBlur_2 n a0 a1 a2 a3 s = some q), AW mm_X4_paintBlur 1 0 0 2 [(some (av_i a0)), (some (av_r a1)), (some (av_r a2)), (some (av_i a3)), none, none, none, none, none, none] [] s (none, q) := by
  intro n
  induction n with
  | zero =>
    intro a0 a1 a2 a3 s h
    exact ax_no h
  | succ n ih =>
    intro a0 a1 a2 a3 s h
    unfold fb_X4_paintBlur_2 at h
    refine ax_iload_n (i := 3) dX4_paintBlur_2 rfl rfl ?_
    refine ax_bipush (v := (96)) dX4_paintBlur_3 rfl ?_
    refine ax_icmp_ge (tgt := 95) dX4_paintBlur_5 (by decide) (fun c8 => ?_) (fun c8 => ?_)
    · rw [if_pos c8] at h
      exact ax_retv dX4_paintBlur_95 h
    · rw [if_neg c8] at h
      refine ax_iload_n (i := 3) dX4_paintBlur_8 rfl rfl ?_
      refine ax_bipush (v := (8)) dX4_paintBlur_9 rfl ?_
      refine ax_irem dX4_paintBlur_11 (by decide) ?_
      refine ax_bdI h (fun v9 h => ?_)
      refine ax_istore (i := 4) (L2 := [some (av_i a0), some (av_r a1), some (av_r a2), some (av_i a3), some (av_i v9), none, none, none, none, none]) dX4_paintBlur_12 (by decide) rfl rfl ?_
      refine ax_iload_n (i := 0) dX4_paintBlur_14 rfl rfl ?_
      refine ax_ineg dX4_paintBlur_15 ?_
      refine ax_iload (i := 4) dX4_paintBlur_16 rfl ?_
      refine ax_ineg dX4_paintBlur_18 ?_
      refine ax_max dX4_paintBlur_19 wd_391 wd_300 wd_26 wd_301 (by omega) (Nat.le_of_ble_eq_true rfl) ?_
      refine ax_bdI h (fun v10 h => ?_)
      refine ax_istore (i := 5) (L2 := [some (av_i a0), some (av_r a1), some (av_r a2), some (av_i a3), some (av_i v9), some (av_i v10), none, none, none, none]) dX4_paintBlur_22 (by decide) rfl rfl ?_
      refine ax_iload_n (i := 0) dX4_paintBlur_24 rfl rfl ?_
      refine ax_bipush (v := (7)) dX4_paintBlur_25 rfl ?_
      refine ax_iload (i := 4) dX4_paintBlur_27 rfl ?_
      refine ax_isub dX4_paintBlur_29 ?_
      refine ax_min dX4_paintBlur_30 wd_388 wd_389 wd_26 wd_390 (by omega) (Nat.le_of_ble_eq_true rfl) ?_
      refine ax_bdI h (fun v11 h => ?_)
      refine ax_istore (i := 6) (L2 := [some (av_i a0), some (av_r a1), some (av_r a2), some (av_i a3), some (av_i v9), some (av_i v10), some (av_i v11), none, none, none]) dX4_paintBlur_33 (by decide) rfl rfl ?_
      refine ax_iconst (v := (0)) dX4_paintBlur_35 rfl ?_
      refine ax_istore (i := 7) (L2 := [some (av_i a0), some (av_r a1), some (av_r a2), some (av_i a3), some (av_i v9), some (av_i v10), some (av_i v11), some (av_i (0)), none, none]) dX4_paintBlur_36 (by decide) rfl rfl ?_
      refine ax_iconst (v := (0)) dX4_paintBlur_38 rfl ?_
      refine ax_istore (i := 8) (L2 := [some (av_i a0), some (av_r a1), some (av_r a2), some (av_i a3), some (av_i v9), some (av_i v10), some (av_i v11), some (av_i (0)), some (av_i (0)), none]) dX4_paintBlur_39 (by decide) rfl rfl ?_
      refine ax_iload (i := 5) dX4_paintBlur_41 rfl ?_
      refine ax_istore (i := 9) (L2 := [some (av_i a0), some (av_r a1), some (av_r a2), some (av_i a3), some (av_i v9), some (av_i v10), some (av_i v11), some (av_i (0)), some (av_i (0)), some (av_i v10)]) dX4_paintBlur_43 (by decide) rfl rfl ?_
      exact ax_less (L' := [(some (av_i a0)), (some (av_r a1)), (some (av_r a2)), (some (av_i a3)), none, none, (some (av_i v11)), (some (av_i (0))), (some (av_i (0))), (some (av_i v10))]) ⟨rfl, rfl, rfl, rfl, rfl, rfl, rfl, rfl, trivial⟩ (tb_X4_paintBlur_45 ih _ _ _ _ _ _ _ _ _ _ h)
def fn_X4_paintBlur (a0 : Int32) (a1 : Option Nat) (a2 : Option Nat) (s : ax_S) : Option (ax_S) :=
  fb_X4_paintBlur_2 10000 a0 a1 a2 (0) s
set_option maxRecDepth 100000 in
set_option maxHeartbeats 4000000 in
theorem tw_X4_paintBlur {q : ax_S} {a0 : Int32} {a1 : Option Nat} {a2 : Option Nat} {s : ax_S} (h : fn_X4_paintBlur a0 a1 a2 s = some q) : AW mm_X4_paintBlur 1 0 0 0 [some (av_i a0), some (av_r a1), some (av_r a2), none, none, none, none, none, none, none] [] s (none, q) := by
  unfold fn_X4_paintBlur at h
  refine ax_iconst (v := (0)) dX4_paintBlur_0 rfl ?_
  refine ax_istore_n (i := 3) (L2 := [some (av_i a0), some (av_r a1), some (av_r a2), some (av_i (0)), none, none, none, none, none, none]) dX4_paintBlur_1 rfl (by decide) rfl rfl ?_
  exact ax_less (L' := [(some (av_i a0)), (some (av_r a1)), (some (av_r a2)), (some (av_i (0))), none, none, none, none, none, none]) ⟨rfl, rfl, rfl, rfl, trivial⟩ (tb_X4_paintBlur_2  _ _ _ _ _ _ h)
set_option maxRecDepth 100000 in
set_option maxHeartbeats 4000000 in
theorem th_X4_paintBlur {q : ax_S} {a0 : Int32} {a1 : Option Nat} {a2 : Option Nat} {s : ax_S} (h : fn_X4_paintBlur a0 a1 a2 s = some q) : AC mm_X4_paintBlur yX4_paintBlur 1 0 0 [av_i a0, av_r a1, av_r a2] s (none, q) := by
  exact ax_met (L0 := [some (av_i a0), some (av_r a1), some (av_r a2), none, none, none, none, none, none, none]) (by decide +kernel) rfl (fun h => absurd h (by decide)) ⟨rfl, rfl, rfl, trivial⟩ (Nat.le_of_ble_eq_true rfl) trivial (tw_X4_paintBlur h)
/-! X4_paintInverse -/
abbrev mm_X4_paintInverse : ax_M := (RX4, cX4_paintInverse, none, 3, false)
def fb_X4_paintInverse_2 : Nat → Option Nat → Option Nat → Int32 → ax_S → Option (ax_S)
  | 0, _, _, _, _ => none
  | n + 1, a0, a1, a2, s =>
    if (96) ≤ a2 then
      some s
    else
      (ax_al s 9 a0 a2).bind fun x2 =>
      (ax_as s 9 a1 a2 ((255) - x2)).bind fun s3 =>
      (fb_X4_paintInverse_2 n) a0 a1 (a2 + (1)) s3
set_option maxRecDepth 100000 in
set_option maxHeartbeats 4000000 in
theorem tb_X4_paintInverse_2 {q : ax_S} : ∀ (n : Nat) (a0 : Option Nat) (a1 : Option Nat) (a2 : Int32) (s : ax_S) (h : fb_X4_paintInverse_2 n a0 a1 a2 s = some q), AW mm_X4_paintInverse 0 0 0 2 [(some (av_r a0)), (some (av_r a1)), (some (av_i a2))] [] s (none, q) := by
  intro n
  induction n with
  | zero =>
    intro a0 a1 a2 s h
    exact ax_no h
  | succ n ih =>
    intro a0 a1 a2 s h
    unfold fb_X4_paintInverse_2 at h
    refine ax_iload_n (i := 2) dX4_paintInverse_2 rfl rfl ?_
    refine ax_bipush (v := (96)) dX4_paintInverse_3 rfl ?_
    refine ax_icmp_ge (tgt := 24) dX4_paintInverse_5 (by decide) (fun c1 => ?_) (fun c1 => ?_)
    · rw [if_pos c1] at h
      exact ax_retv dX4_paintInverse_24 h
    · rw [if_neg c1] at h
      refine ax_aload_n (i := 1) dX4_paintInverse_8 rfl rfl ?_
      refine ax_iload_n (i := 2) dX4_paintInverse_9 rfl rfl ?_
      refine ax_sipush (v := (255)) dX4_paintInverse_10 rfl ?_
      refine ax_aload_n (i := 0) dX4_paintInverse_13 rfl rfl ?_
      refine ax_iload_n (i := 2) dX4_paintInverse_14 rfl rfl ?_
      obtain ⟨x2, gx2, h⟩ := Option.bind_eq_some_iff.mp h
      refine ax_iald dX4_paintInverse_15 gx2 ?_
      refine ax_isub dX4_paintInverse_16 ?_
      obtain ⟨s3, gs3, h⟩ := Option.bind_eq_some_iff.mp h
      refine ax_iast dX4_paintInverse_17 gs3 ?_
      refine ax_iinc (i := 2) (v := (a2 + (1))) (L2 := [some (av_r a0), some (av_r a1), some (av_i (a2 + (1)))]) dX4_paintInverse_18 rfl rfl (by decide) rfl rfl ?_
      refine ax_goto (tgt := 2) dX4_paintInverse_21 (by decide) ?_
      exact ax_less (L' := [(some (av_r a0)), (some (av_r a1)), (some (av_i (a2 + (1))))]) ⟨rfl, rfl, rfl, trivial⟩ (ih _ _ _ _ h)
def fn_X4_paintInverse (a0 : Option Nat) (a1 : Option Nat) (s : ax_S) : Option (ax_S) :=
  fb_X4_paintInverse_2 10000 a0 a1 (0) s
set_option maxRecDepth 100000 in
set_option maxHeartbeats 4000000 in
theorem tw_X4_paintInverse {q : ax_S} {a0 : Option Nat} {a1 : Option Nat} {s : ax_S} (h : fn_X4_paintInverse a0 a1 s = some q) : AW mm_X4_paintInverse 0 0 0 0 [some (av_r a0), some (av_r a1), none] [] s (none, q) := by
  unfold fn_X4_paintInverse at h
  refine ax_iconst (v := (0)) dX4_paintInverse_0 rfl ?_
  refine ax_istore_n (i := 2) (L2 := [some (av_r a0), some (av_r a1), some (av_i (0))]) dX4_paintInverse_1 rfl (by decide) rfl rfl ?_
  exact ax_less (L' := [(some (av_r a0)), (some (av_r a1)), (some (av_i (0)))]) ⟨rfl, rfl, rfl, trivial⟩ (tb_X4_paintInverse_2  _ _ _ _ _ h)
set_option maxRecDepth 100000 in
set_option maxHeartbeats 4000000 in
theorem th_X4_paintInverse {q : ax_S} {a0 : Option Nat} {a1 : Option Nat} {s : ax_S} (h : fn_X4_paintInverse a0 a1 s = some q) : AC mm_X4_paintInverse yX4_paintInverse 0 0 0 [av_r a0, av_r a1] s (none, q) := by
  exact ax_met (L0 := [some (av_r a0), some (av_r a1), none]) (by decide +kernel) rfl (fun h => absurd h (by decide)) ⟨rfl, rfl, trivial⟩ (Nat.le_of_ble_eq_true rfl) trivial (tw_X4_paintInverse h)
/-! X4_mask -/
abbrev mm_X4_mask : ax_M := (RX4, cX4_mask, (some .int), 5, false)
def fn_X4_mask (a0 : Int32) (a1 : Int32) (a2 : Int32) (a3 : Int32) (s : ax_S) : Option (Int32 × ax_S) :=
  if a1 ≤ a2 then
    ax_bd ((if (0) < (if (a1 - a0) < (a0 - a2) then (a0 - a2) else (a1 - a0)) then (if (a1 - a0) < (a0 - a2) then (a0 - a2) else (a1 - a0)) else (0))) fun v2 =>
    if v2 ≤ a3 then
      (if (a3 + (1)) = 0 then none else some ()).bind fun u4 =>
      some (((255) - (((255) * v2) / (a3 + (1)))), s)
    else
      some ((0), s)
  else
    some ((0), s)
set_option maxRecDepth 100000 in
set_option maxHeartbeats 4000000 in
theorem tw_X4_mask {q : Int32 × ax_S} {a0 : Int32} {a1 : Int32} {a2 : Int32} {a3 : Int32} {s : ax_S} (h : fn_X4_mask a0 a1 a2 a3 s = some q) : AW mm_X4_mask 1 0 0 0 [some (av_i a0), some (av_i a1), some (av_i a2), some (av_i a3), none] [] s (some (av_i q.1), q.2) := by
  unfold fn_X4_mask at h
  refine ax_iload_n (i := 1) dX4_mask_0 rfl rfl ?_
  refine ax_iload_n (i := 2) dX4_mask_1 rfl rfl ?_
  refine ax_icmp_le (tgt := 7) dX4_mask_2 (by decide) (fun c1 => ?_) (fun c1 => ?_)
  · rw [if_pos c1] at h
    refine ax_iconst (v := (0)) dX4_mask_7 rfl ?_
    refine ax_iload_n (i := 1) dX4_mask_8 rfl rfl ?_
    refine ax_iload_n (i := 0) dX4_mask_9 rfl rfl ?_
    refine ax_isub dX4_mask_10 ?_
    refine ax_iload_n (i := 0) dX4_mask_11 rfl rfl ?_
    refine ax_iload_n (i := 2) dX4_mask_12 rfl rfl ?_
    refine ax_isub dX4_mask_13 ?_
    refine ax_max dX4_mask_14 wd_391 wd_300 wd_26 wd_301 (by omega) (Nat.le_of_ble_eq_true rfl) ?_
    refine ax_max dX4_mask_17 wd_391 wd_300 wd_26 wd_301 (by omega) (Nat.le_of_ble_eq_true rfl) ?_
    refine ax_bdI h (fun v2 h => ?_)
    refine ax_istore (i := 4) (L2 := [some (av_i a0), some (av_i a1), some (av_i a2), some (av_i a3), some (av_i v2)]) dX4_mask_20 (by decide) rfl rfl ?_
    refine ax_iload (i := 4) dX4_mask_22 rfl ?_
    refine ax_iload_n (i := 3) dX4_mask_24 rfl rfl ?_
    refine ax_icmp_le (tgt := 30) dX4_mask_25 (by decide) (fun c3 => ?_) (fun c3 => ?_)
    · rw [if_pos c3] at h
      refine ax_sipush (v := (255)) dX4_mask_30 rfl ?_
      refine ax_sipush (v := (255)) dX4_mask_33 rfl ?_
      refine ax_iload (i := 4) dX4_mask_36 rfl ?_
      refine ax_imul dX4_mask_38 ?_
      refine ax_iload_n (i := 3) dX4_mask_39 rfl rfl ?_
      refine ax_iconst (v := (1)) dX4_mask_40 rfl ?_
      refine ax_iadd dX4_mask_41 ?_
      obtain ⟨u4, gu4, h⟩ := Option.bind_eq_some_iff.mp h
      refine ax_idiv dX4_mask_42 (ax_ne_of gu4) ?_
      refine ax_isub dX4_mask_43 ?_
      exact ax_reti dX4_mask_44 h
    · rw [if_neg c3] at h
      refine ax_iconst (v := (0)) dX4_mask_28 rfl ?_
      exact ax_reti dX4_mask_29 h
  · rw [if_neg c1] at h
    refine ax_iconst (v := (0)) dX4_mask_5 rfl ?_
    exact ax_reti dX4_mask_6 h
set_option maxRecDepth 100000 in
set_option maxHeartbeats 4000000 in
theorem th_X4_mask {q : Int32 × ax_S} {a0 : Int32} {a1 : Int32} {a2 : Int32} {a3 : Int32} {s : ax_S} (h : fn_X4_mask a0 a1 a2 a3 s = some q) : AC mm_X4_mask yX4_mask 1 0 0 [av_i a0, av_i a1, av_i a2, av_i a3] s (some (av_i q.1), q.2) := by
  exact ax_met (L0 := [some (av_i a0), some (av_i a1), some (av_i a2), some (av_i a3), none]) (by decide +kernel) rfl (fun h => absurd h (by decide)) ⟨rfl, rfl, rfl, rfl, trivial⟩ (Nat.le_of_ble_eq_true rfl) trivial (tw_X4_mask h)
/-! X4_paintKey -/
abbrev mm_X4_paintKey : ax_M := (RX4, cX4_paintKey, none, 7, false)
def fb_X4_paintKey_40 (k10 : Option Nat → Option Nat → Option Nat → Int32 → Int32 → ax_S → Option (ax_S)) : Nat → Option Nat → Option Nat → Option Nat → Int32 → Int32 → Int32 → Int32 → ax_S → Option (ax_S)
  | 0, _, _, _, _, _, _, _, _ => none
  | n + 1, a0, a1, a2, a3, a4, a5, a6, s =>
    if (3) ≤ a6 then
      k10 a0 a1 a2 a3 (a4 + (1)) s
    else
      (ax_as s 9 a2 ((a6 * (32)) + a4) a5).bind fun s2 =>
      (fb_X4_paintKey_40 k10 n) a0 a1 a2 a3 a4 a5 (a6 + (1)) s2
set_option maxRecDepth 100000 in
set_option maxHeartbeats 4000000 in
theorem tb_X4_paintKey_40 {q : ax_S} {k10 : Option Nat → Option Nat → Option Nat → Int32 → Int32 → ax_S → Option (ax_S)} (hk10 : ∀ (a0 : Option Nat) (a1 : Option Nat) (a2 : Option Nat) (a3 : Int32) (a4 : Int32) (s : ax_S), k10 a0 a1 a2 a3 a4 s = some q → AW mm_X4_paintKey 2 0 0 10 [(some (av_r a0)), (some (av_r a1)), (some (av_r a2)), (some (av_i a3)), (some (av_i a4)), none, none] [] s (none, q)) : ∀ (n : Nat) (a0 : Option Nat) (a1 : Option Nat) (a2 : Option Nat) (a3 : Int32) (a4 : Int32) (a5 : Int32) (a6 : Int32) (s : ax_S) (h : fb_X4_paintKey_40 k10 n a0 a1 a2 a3 a4 a5 a6 s = some q), AW mm_X4_paintKey 2 0 0 40 [(some (av_r a0)), (some (av_r a1)), (some (av_r a2)), (some (av_i a3)), (some (av_i a4)), (some (av_i a5)), (some (av_i a6))] [] s (none, q) := by
  intro n
  induction n with
  | zero =>
    intro a0 a1 a2 a3 a4 a5 a6 s h
    exact ax_no h
  | succ n ih =>
    intro a0 a1 a2 a3 a4 a5 a6 s h
    unfold fb_X4_paintKey_40 at h
    refine ax_iload (i := 6) dX4_paintKey_40 rfl ?_
    refine ax_iconst (v := (3)) dX4_paintKey_42 rfl ?_
    refine ax_icmp_ge (tgt := 64) dX4_paintKey_43 (by decide) (fun c1 => ?_) (fun c1 => ?_)
    · rw [if_pos c1] at h
      refine ax_iinc (i := 4) (v := (a4 + (1))) (L2 := [some (av_r a0), some (av_r a1), some (av_r a2), some (av_i a3), some (av_i (a4 + (1))), some (av_i a5), some (av_i a6)]) dX4_paintKey_64 rfl rfl (by decide) rfl rfl ?_
      refine ax_goto (tgt := 10) dX4_paintKey_67 (by decide) ?_
      exact ax_less (L' := [(some (av_r a0)), (some (av_r a1)), (some (av_r a2)), (some (av_i a3)), (some (av_i (a4 + (1)))), none, none]) ⟨rfl, rfl, rfl, rfl, rfl, trivial⟩ (hk10 _ _ _ _ _ _ h)
    · rw [if_neg c1] at h
      refine ax_aload_n (i := 2) dX4_paintKey_46 rfl rfl ?_
      refine ax_iload (i := 6) dX4_paintKey_47 rfl ?_
      refine ax_bipush (v := (32)) dX4_paintKey_49 rfl ?_
      refine ax_imul dX4_paintKey_51 ?_
      refine ax_iload (i := 4) dX4_paintKey_52 rfl ?_
      refine ax_iadd dX4_paintKey_54 ?_
      refine ax_iload (i := 5) dX4_paintKey_55 rfl ?_
      obtain ⟨s2, gs2, h⟩ := Option.bind_eq_some_iff.mp h
      refine ax_iast dX4_paintKey_57 gs2 ?_
      refine ax_iinc (i := 6) (v := (a6 + (1))) (L2 := [some (av_r a0), some (av_r a1), some (av_r a2), some (av_i a3), some (av_i a4), some (av_i a5), some (av_i (a6 + (1)))]) dX4_paintKey_58 rfl rfl (by decide) rfl rfl ?_
      refine ax_goto (tgt := 40) dX4_paintKey_61 (by decide) ?_
      exact ax_less (L' := [(some (av_r a0)), (some (av_r a1)), (some (av_r a2)), (some (av_i a3)), (some (av_i a4)), (some (av_i a5)), (some (av_i (a6 + (1))))]) ⟨rfl, rfl, rfl, rfl, rfl, rfl, rfl, trivial⟩ (ih _ _ _ _ _ _ _ _ h)
def fb_X4_paintKey_10 : Nat → Option Nat → Option Nat → Option Nat → Int32 → Int32 → ax_S → Option (ax_S)
  | 0, _, _, _, _, _, _ => none
  | n + 1, a0, a1, a2, a3, a4, s =>
    if (32) ≤ a4 then
      some s
    else
      (ax_al s 9 a1 (a3 + a4)).bind fun x4 =>
      (ax_al s 9 a0 (1)).bind fun x5 =>
      (ax_al s 9 a0 (2)).bind fun x6 =>
      (ax_al s 9 a0 (3)).bind fun x7 =>
      (fn_X4_mask x4 x5 x6 x7 s).bind fun q8 =>
      fb_X4_paintKey_40 (fb_X4_paintKey_10 n) 10000 a0 a1 a2 a3 a4 q8.1 (0) q8.2
set_option maxRecDepth 100000 in
set_option maxHeartbeats 4000000 in
theorem tb_X4_paintKey_10 {q : ax_S} : ∀ (n : Nat) (a0 : Option Nat) (a1 : Option Nat) (a2 : Option Nat) (a3 : Int32) (a4 : Int32) (s : ax_S) (h : fb_X4_paintKey_10 n a0 a1 a2 a3 a4 s = some q), AW mm_X4_paintKey 2 0 0 10 [(some (av_r a0)), (some (av_r a1)), (some (av_r a2)), (some (av_i a3)), (some (av_i a4)), none, none] [] s (none, q) := by
  intro n
  induction n with
  | zero =>
    intro a0 a1 a2 a3 a4 s h
    exact ax_no h
  | succ n ih =>
    intro a0 a1 a2 a3 a4 s h
    unfold fb_X4_paintKey_10 at h
    refine ax_iload (i := 4) dX4_paintKey_10 rfl ?_
    refine ax_bipush (v := (32)) dX4_paintKey_12 rfl ?_
    refine ax_icmp_ge (tgt := 70) dX4_paintKey_14 (by decide) (fun c3 => ?_) (fun c3 => ?_)
    · rw [if_pos c3] at h
      exact ax_retv dX4_paintKey_70 h
    · rw [if_neg c3] at h
      refine ax_aload_n (i := 1) dX4_paintKey_17 rfl rfl ?_
      refine ax_iload_n (i := 3) dX4_paintKey_18 rfl rfl ?_
      refine ax_iload (i := 4) dX4_paintKey_19 rfl ?_
      refine ax_iadd dX4_paintKey_21 ?_
      obtain ⟨x4, gx4, h⟩ := Option.bind_eq_some_iff.mp h
      refine ax_iald dX4_paintKey_22 gx4 ?_
      refine ax_aload_n (i := 0) dX4_paintKey_23 rfl rfl ?_
      refine ax_iconst (v := (1)) dX4_paintKey_24 rfl ?_
      obtain ⟨x5, gx5, h⟩ := Option.bind_eq_some_iff.mp h
      refine ax_iald dX4_paintKey_25 gx5 ?_
      refine ax_aload_n (i := 0) dX4_paintKey_26 rfl rfl ?_
      refine ax_iconst (v := (2)) dX4_paintKey_27 rfl ?_
      obtain ⟨x6, gx6, h⟩ := Option.bind_eq_some_iff.mp h
      refine ax_iald dX4_paintKey_28 gx6 ?_
      refine ax_aload_n (i := 0) dX4_paintKey_29 rfl rfl ?_
      refine ax_iconst (v := (3)) dX4_paintKey_30 rfl ?_
      obtain ⟨x7, gx7, h⟩ := Option.bind_eq_some_iff.mp h
      refine ax_iald dX4_paintKey_31 gx7 ?_
      obtain ⟨q8, gq8, h⟩ := Option.bind_eq_some_iff.mp h
      refine ax_cS (As := [av_i x4, av_i x5, av_i x6, av_i x7]) dX4_paintKey_32 (th_X4_mask gq8) (And.intro wd_403 wd_34) wd_401 wd_402 cy_X4_mask (by omega) (by decide) (Nat.le_of_ble_eq_true rfl) rfl ?_
      refine ax_istore (i := 5) (L2 := [some (av_r a0), some (av_r a1), some (av_r a2), some (av_i a3), some (av_i a4), some (av_i q8.1), none]) dX4_paintKey_35 (by decide) rfl rfl ?_
      refine ax_iconst (v := (0)) dX4_paintKey_37 rfl ?_
      refine ax_istore (i := 6) (L2 := [some (av_r a0), some (av_r a1), some (av_r a2), some (av_i a3), some (av_i a4), some (av_i q8.1), some (av_i (0))]) dX4_paintKey_38 (by decide) rfl rfl ?_
      exact ax_less (L' := [(some (av_r a0)), (some (av_r a1)), (some (av_r a2)), (some (av_i a3)), (some (av_i a4)), (some (av_i q8.1)), (some (av_i (0)))]) ⟨rfl, rfl, rfl, rfl, rfl, rfl, rfl, trivial⟩ (tb_X4_paintKey_40 ih _ _ _ _ _ _ _ _ _ h)
def fn_X4_paintKey (a0 : Option Nat) (a1 : Option Nat) (a2 : Option Nat) (s : ax_S) : Option (ax_S) :=
  (ax_al s 9 a0 (0)).bind fun x9 =>
  ax_bd ((x9 * (32))) fun v10 =>
  fb_X4_paintKey_10 10000 a0 a1 a2 v10 (0) s
set_option maxRecDepth 100000 in
set_option maxHeartbeats 4000000 in
theorem tw_X4_paintKey {q : ax_S} {a0 : Option Nat} {a1 : Option Nat} {a2 : Option Nat} {s : ax_S} (h : fn_X4_paintKey a0 a1 a2 s = some q) : AW mm_X4_paintKey 2 0 0 0 [some (av_r a0), some (av_r a1), some (av_r a2), none, none, none, none] [] s (none, q) := by
  unfold fn_X4_paintKey at h
  refine ax_aload_n (i := 0) dX4_paintKey_0 rfl rfl ?_
  refine ax_iconst (v := (0)) dX4_paintKey_1 rfl ?_
  obtain ⟨x9, gx9, h⟩ := Option.bind_eq_some_iff.mp h
  refine ax_iald dX4_paintKey_2 gx9 ?_
  refine ax_bipush (v := (32)) dX4_paintKey_3 rfl ?_
  refine ax_imul dX4_paintKey_5 ?_
  refine ax_bdI h (fun v10 h => ?_)
  refine ax_istore_n (i := 3) (L2 := [some (av_r a0), some (av_r a1), some (av_r a2), some (av_i v10), none, none, none]) dX4_paintKey_6 rfl (by decide) rfl rfl ?_
  refine ax_iconst (v := (0)) dX4_paintKey_7 rfl ?_
  refine ax_istore (i := 4) (L2 := [some (av_r a0), some (av_r a1), some (av_r a2), some (av_i v10), some (av_i (0)), none, none]) dX4_paintKey_8 (by decide) rfl rfl ?_
  exact ax_less (L' := [(some (av_r a0)), (some (av_r a1)), (some (av_r a2)), (some (av_i v10)), (some (av_i (0))), none, none]) ⟨rfl, rfl, rfl, rfl, rfl, trivial⟩ (tb_X4_paintKey_10  _ _ _ _ _ _ _ h)
set_option maxRecDepth 100000 in
set_option maxHeartbeats 4000000 in
theorem th_X4_paintKey {q : ax_S} {a0 : Option Nat} {a1 : Option Nat} {a2 : Option Nat} {s : ax_S} (h : fn_X4_paintKey a0 a1 a2 s = some q) : AC mm_X4_paintKey yX4_paintKey 2 0 0 [av_r a0, av_r a1, av_r a2] s (none, q) := by
  exact ax_met (L0 := [some (av_r a0), some (av_r a1), some (av_r a2), none, none, none, none]) (by decide +kernel) rfl (fun h => absurd h (by decide)) ⟨rfl, rfl, rfl, trivial⟩ (Nat.le_of_ble_eq_true rfl) trivial (tw_X4_paintKey h)
/-! X4_paintSource -/
abbrev mm_X4_paintSource : ax_M := (RX4, cX4_paintSource, none, 8, false)
def fb_X4_paintSource_2 : Nat → Int32 → Int32 → Option Nat → Int32 → ax_S → Option (ax_S)
  | 0, _, _, _, _, _ => none
  | n + 1, a0, a1, a2, a3, s =>
    if (96) ≤ a3 then
      some s
    else
      ax_bd ((a3 - a3 / (8) * (8))) fun v2 =>
      ax_bd (((a3 / (8)) - (a3 / (8)) / (4) * (4))) fun v3 =>
      ax_bd ((a3 / (32))) fun v4 =>
      ax_bd ((((((((7) * a0) + ((31) * v2)) + ((17) * v3)) + ((11) * a1)) + ((53) * v4)) + ((v2 * v3) * a1))) fun v5 =>
      (ax_as s 9 a2 a3 (v5 - v5 / (256) * (256))).bind fun s6 =>
      (fb_X4_paintSource_2 n) a0 a1 a2 (a3 + (1)) s6
set_option maxRecDepth 100000 in
set_option maxHeartbeats 4000000 in
theorem tb_X4_paintSource_2 {q : ax_S} : ∀ (n : Nat) (a0 : Int32) (a1 : Int32) (a2 : Option Nat) (a3 : Int32) (s : ax_S) (h : fb_X4_paintSource_2 n a0 a1 a2 a3 s = some q), AW mm_X4_paintSource 0 0 0 2 [(some (av_i a0)), (some (av_i a1)), (some (av_r a2)), (some (av_i a3)), none, none, none, none] [] s (none, q) := by
  intro n
  induction n with
  | zero =>
    intro a0 a1 a2 a3 s h
    exact ax_no h
  | succ n ih =>
    intro a0 a1 a2 a3 s h
    unfold fb_X4_paintSource_2 at h
    refine ax_iload_n (i := 3) dX4_paintSource_2 rfl rfl ?_
    refine ax_bipush (v := (96)) dX4_paintSource_3 rfl ?_
    refine ax_icmp_ge (tgt := 80) dX4_paintSource_5 (by decide) (fun c1 => ?_) (fun c1 => ?_)
    · rw [if_pos c1] at h
      exact ax_retv dX4_paintSource_80 h
    · rw [if_neg c1] at h
      refine ax_iload_n (i := 3) dX4_paintSource_8 rfl rfl ?_
      refine ax_bipush (v := (8)) dX4_paintSource_9 rfl ?_
      refine ax_irem dX4_paintSource_11 (by decide) ?_
      refine ax_bdI h (fun v2 h => ?_)
      refine ax_istore (i := 4) (L2 := [some (av_i a0), some (av_i a1), some (av_r a2), some (av_i a3), some (av_i v2), none, none, none]) dX4_paintSource_12 (by decide) rfl rfl ?_
      refine ax_iload_n (i := 3) dX4_paintSource_14 rfl rfl ?_
      refine ax_bipush (v := (8)) dX4_paintSource_15 rfl ?_
      refine ax_idiv dX4_paintSource_17 (by decide) ?_
      refine ax_iconst (v := (4)) dX4_paintSource_18 rfl ?_
      refine ax_irem dX4_paintSource_19 (by decide) ?_
      refine ax_bdI h (fun v3 h => ?_)
      refine ax_istore (i := 5) (L2 := [some (av_i a0), some (av_i a1), some (av_r a2), some (av_i a3), some (av_i v2), some (av_i v3), none, none]) dX4_paintSource_20 (by decide) rfl rfl ?_
      refine ax_iload_n (i := 3) dX4_paintSource_22 rfl rfl ?_
      refine ax_bipush (v := (32)) dX4_paintSource_23 rfl ?_
      refine ax_idiv dX4_paintSource_25 (by decide) ?_
      refine ax_bdI h (fun v4 h => ?_)
      refine ax_istore (i := 6) (L2 := [some (av_i a0), some (av_i a1), some (av_r a2), some (av_i a3), some (av_i v2), some (av_i v3), some (av_i v4), none]) dX4_paintSource_26 (by decide) rfl rfl ?_
      refine ax_bipush (v := (7)) dX4_paintSource_28 rfl ?_
      refine ax_iload_n (i := 0) dX4_paintSource_30 rfl rfl ?_
      refine ax_imul dX4_paintSource_31 ?_
      refine ax_bipush (v := (31)) dX4_paintSource_32 rfl ?_
      refine ax_iload (i := 4) dX4_paintSource_34 rfl ?_
      refine ax_imul dX4_paintSource_36 ?_
      refine ax_iadd dX4_paintSource_37 ?_
      refine ax_bipush (v := (17)) dX4_paintSource_38 rfl ?_
      refine ax_iload (i := 5) dX4_paintSource_40 rfl ?_
      refine ax_imul dX4_paintSource_42 ?_
      refine ax_iadd dX4_paintSource_43 ?_
      refine ax_bipush (v := (11)) dX4_paintSource_44 rfl ?_
      refine ax_iload_n (i := 1) dX4_paintSource_46 rfl rfl ?_
      refine ax_imul dX4_paintSource_47 ?_
      refine ax_iadd dX4_paintSource_48 ?_
      refine ax_bipush (v := (53)) dX4_paintSource_49 rfl ?_
      refine ax_iload (i := 6) dX4_paintSource_51 rfl ?_
      refine ax_imul dX4_paintSource_53 ?_
      refine ax_iadd dX4_paintSource_54 ?_
      refine ax_iload (i := 4) dX4_paintSource_55 rfl ?_
      refine ax_iload (i := 5) dX4_paintSource_57 rfl ?_
      refine ax_imul dX4_paintSource_59 ?_
      refine ax_iload_n (i := 1) dX4_paintSource_60 rfl rfl ?_
      refine ax_imul dX4_paintSource_61 ?_
      refine ax_iadd dX4_paintSource_62 ?_
      refine ax_bdI h (fun v5 h => ?_)
      refine ax_istore (i := 7) (L2 := [some (av_i a0), some (av_i a1), some (av_r a2), some (av_i a3), some (av_i v2), some (av_i v3), some (av_i v4), some (av_i v5)]) dX4_paintSource_63 (by decide) rfl rfl ?_
      refine ax_aload_n (i := 2) dX4_paintSource_65 rfl rfl ?_
      refine ax_iload_n (i := 3) dX4_paintSource_66 rfl rfl ?_
      refine ax_iload (i := 7) dX4_paintSource_67 rfl ?_
      refine ax_sipush (v := (256)) dX4_paintSource_69 rfl ?_
      refine ax_irem dX4_paintSource_72 (by decide) ?_
      obtain ⟨s6, gs6, h⟩ := Option.bind_eq_some_iff.mp h
      refine ax_iast dX4_paintSource_73 gs6 ?_
      refine ax_iinc (i := 3) (v := (a3 + (1))) (L2 := [some (av_i a0), some (av_i a1), some (av_r a2), some (av_i (a3 + (1))), some (av_i v2), some (av_i v3), some (av_i v4), some (av_i v5)]) dX4_paintSource_74 rfl rfl (by decide) rfl rfl ?_
      refine ax_goto (tgt := 2) dX4_paintSource_77 (by decide) ?_
      exact ax_less (L' := [(some (av_i a0)), (some (av_i a1)), (some (av_r a2)), (some (av_i (a3 + (1)))), none, none, none, none]) ⟨rfl, rfl, rfl, rfl, trivial⟩ (ih _ _ _ _ _ h)
def fn_X4_paintSource (a0 : Int32) (a1 : Int32) (a2 : Option Nat) (s : ax_S) : Option (ax_S) :=
  fb_X4_paintSource_2 10000 a0 a1 a2 (0) s
set_option maxRecDepth 100000 in
set_option maxHeartbeats 4000000 in
theorem tw_X4_paintSource {q : ax_S} {a0 : Int32} {a1 : Int32} {a2 : Option Nat} {s : ax_S} (h : fn_X4_paintSource a0 a1 a2 s = some q) : AW mm_X4_paintSource 0 0 0 0 [some (av_i a0), some (av_i a1), some (av_r a2), none, none, none, none, none] [] s (none, q) := by
  unfold fn_X4_paintSource at h
  refine ax_iconst (v := (0)) dX4_paintSource_0 rfl ?_
  refine ax_istore_n (i := 3) (L2 := [some (av_i a0), some (av_i a1), some (av_r a2), some (av_i (0)), none, none, none, none]) dX4_paintSource_1 rfl (by decide) rfl rfl ?_
  exact ax_less (L' := [(some (av_i a0)), (some (av_i a1)), (some (av_r a2)), (some (av_i (0))), none, none, none, none]) ⟨rfl, rfl, rfl, rfl, trivial⟩ (tb_X4_paintSource_2  _ _ _ _ _ _ h)
set_option maxRecDepth 100000 in
set_option maxHeartbeats 4000000 in
theorem th_X4_paintSource {q : ax_S} {a0 : Int32} {a1 : Int32} {a2 : Option Nat} {s : ax_S} (h : fn_X4_paintSource a0 a1 a2 s = some q) : AC mm_X4_paintSource yX4_paintSource 0 0 0 [av_i a0, av_i a1, av_r a2] s (none, q) := by
  exact ax_met (L0 := [some (av_i a0), some (av_i a1), some (av_r a2), none, none, none, none, none]) (by decide +kernel) rfl (fun h => absurd h (by decide)) ⟨rfl, rfl, rfl, trivial⟩ (Nat.le_of_ble_eq_true rfl) trivial (tw_X4_paintSource h)
/-! X4_paint -/
abbrev mm_X4_paint : ax_M := (RX4, cX4_paint, none, 6, false)
def fn_X4_paint (a0 : Option Nat) (a1 : Int32) (a2 : Option Nat) (a3 : Option Nat) (a4 : Option Nat) (a5 : Option Nat) (s : ax_S) : Option (ax_S) :=
  (ax_gi s 2 0 a0).bind fun x1 =>
  if x1 = 0 then
    (ax_gr s 2 4 a0).bind fun r3 =>
    (ax_al s 9 r3 (0)).bind fun x4 =>
    (fn_X4_paintSource x4 a1 a5 s).bind fun q5 =>
    some q5
  else
  if x1 = 1 then
    (fn_X4_paintAmounts a0 a2 a5 s).bind fun q7 =>
    some q7
  else
  if x1 = 2 then
    (fn_X4_paintAmounts a0 a2 a5 s).bind fun q9 =>
    some q9
  else
  if x1 = 3 then
    (fn_X4_paintInverse a2 a5 s).bind fun q11 =>
    some q11
  else
  if x1 = 4 then
    (ax_gr s 2 4 a0).bind fun r13 =>
    (ax_al s 9 r13 (0)).bind fun x14 =>
    (fn_X4_paintBlur x14 a2 a5 s).bind fun q15 =>
    some q15
  else
  if x1 = 5 then
    (ax_gr s 2 4 a0).bind fun r17 =>
    (fn_X4_paintKey r17 a2 a5 s).bind fun q18 =>
    some q18
  else
  (fn_X4_paintBlend a2 a3 a4 a5 s).bind fun q19 =>
  some q19
set_option maxRecDepth 100000 in
set_option maxHeartbeats 4000000 in
theorem tw_X4_paint {q : ax_S} {a0 : Option Nat} {a1 : Int32} {a2 : Option Nat} {a3 : Option Nat} {a4 : Option Nat} {a5 : Option Nat} {s : ax_S} (h : fn_X4_paint a0 a1 a2 a3 a4 a5 s = some q) : AW mm_X4_paint 3 0 0 0 [some (av_r a0), some (av_i a1), some (av_r a2), some (av_r a3), some (av_r a4), some (av_r a5)] [] s (none, q) := by
  unfold fn_X4_paint at h
  refine ax_aload_n (i := 0) dX4_paint_0 rfl rfl ?_
  obtain ⟨x1, gx1, h⟩ := Option.bind_eq_some_iff.mp h
  refine ax_getI (q := (RX3, TX3, 5)) (t := 2) (k := 0) dX4_paint_1 rfl (by decide) wd_57 rfl gx1 ?_
  by_cases c2 : x1 = 0
  · rw [if_pos c2] at h
    refine ax_swC (c := 0) (off := 40) (tgt := 44) dX4_paint_4 c2 (by decide) (by decide) (by decide) rfl (by decide) ?_
    refine ax_aload_n (i := 0) dX4_paint_44 rfl rfl ?_
    obtain ⟨r3, gr3, h⟩ := Option.bind_eq_some_iff.mp h
    refine ax_getR (q := (RX3, TX3, 5)) (t := 2) (k := 4) dX4_paint_45 rfl (by decide) wd_70 rfl gr3 ?_
    refine ax_iconst (v := (0)) dX4_paint_48 rfl ?_
    obtain ⟨x4, gx4, h⟩ := Option.bind_eq_some_iff.mp h
    refine ax_iald dX4_paint_49 gx4 ?_
    refine ax_iload_n (i := 1) dX4_paint_50 rfl rfl ?_
    refine ax_aload (i := 5) dX4_paint_51 rfl ?_
    obtain ⟨q5, gq5, h⟩ := Option.bind_eq_some_iff.mp h
    refine ax_cS (As := [av_i x4, av_i a1, av_r a5]) dX4_paint_53 (th_X4_paintSource gq5) (And.intro wd_384 wd_34) wd_382 wd_383 cy_X4_paintSource (by omega) (by decide) (Nat.le_of_ble_eq_true rfl) rfl ?_
    refine ax_goto (tgt := 115) dX4_paint_56 (by decide) ?_
    exact ax_retv dX4_paint_115 h
  rw [if_neg c2] at h
  by_cases c6 : x1 = 1
  · rw [if_pos c6] at h
    refine ax_swC (c := 1) (off := 55) (tgt := 59) dX4_paint_4 c6 (by decide) (by decide) (by decide) rfl (by decide) ?_
    refine ax_aload_n (i := 0) dX4_paint_59 rfl rfl ?_
    refine ax_aload_n (i := 2) dX4_paint_60 rfl rfl ?_
    refine ax_aload (i := 5) dX4_paint_61 rfl ?_
    obtain ⟨q7, gq7, h⟩ := Option.bind_eq_some_iff.mp h
    refine ax_cS (As := [av_r a0, av_r a2, av_r a5]) dX4_paint_63 (th_X4_paintAmounts gq7) (And.intro wd_387 wd_34) wd_385 wd_386 cy_X4_paintAmounts (by omega) (by decide) (Nat.le_of_ble_eq_true rfl) rfl ?_
    refine ax_goto (tgt := 115) dX4_paint_66 (by decide) ?_
    exact ax_retv dX4_paint_115 h
  rw [if_neg c6] at h
  by_cases c8 : x1 = 2
  · rw [if_pos c8] at h
    refine ax_swC (c := 2) (off := 55) (tgt := 59) dX4_paint_4 c8 (by decide) (by decide) (by decide) rfl (by decide) ?_
    refine ax_aload_n (i := 0) dX4_paint_59 rfl rfl ?_
    refine ax_aload_n (i := 2) dX4_paint_60 rfl rfl ?_
    refine ax_aload (i := 5) dX4_paint_61 rfl ?_
    obtain ⟨q9, gq9, h⟩ := Option.bind_eq_some_iff.mp h
    refine ax_cS (As := [av_r a0, av_r a2, av_r a5]) dX4_paint_63 (th_X4_paintAmounts gq9) (And.intro wd_387 wd_34) wd_385 wd_386 cy_X4_paintAmounts (by omega) (by decide) (Nat.le_of_ble_eq_true rfl) rfl ?_
    refine ax_goto (tgt := 115) dX4_paint_66 (by decide) ?_
    exact ax_retv dX4_paint_115 h
  rw [if_neg c8] at h
  by_cases c10 : x1 = 3
  · rw [if_pos c10] at h
    refine ax_swC (c := 3) (off := 65) (tgt := 69) dX4_paint_4 c10 (by decide) (by decide) (by decide) rfl (by decide) ?_
    refine ax_aload_n (i := 2) dX4_paint_69 rfl rfl ?_
    refine ax_aload (i := 5) dX4_paint_70 rfl ?_
    obtain ⟨q11, gq11, h⟩ := Option.bind_eq_some_iff.mp h
    refine ax_cS (As := [av_r a2, av_r a5]) dX4_paint_72 (th_X4_paintInverse gq11) (And.intro wd_394 wd_34) wd_392 wd_393 cy_X4_paintInverse (by omega) (by decide) (Nat.le_of_ble_eq_true rfl) rfl ?_
    refine ax_goto (tgt := 115) dX4_paint_75 (by decide) ?_
    exact ax_retv dX4_paint_115 h
  rw [if_neg c10] at h
  by_cases c12 : x1 = 4
  · rw [if_pos c12] at h
    refine ax_swC (c := 4) (off := 74) (tgt := 78) dX4_paint_4 c12 (by decide) (by decide) (by decide) rfl (by decide) ?_
    refine ax_aload_n (i := 0) dX4_paint_78 rfl rfl ?_
    obtain ⟨r13, gr13, h⟩ := Option.bind_eq_some_iff.mp h
    refine ax_getR (q := (RX3, TX3, 5)) (t := 2) (k := 4) dX4_paint_79 rfl (by decide) wd_70 rfl gr13 ?_
    refine ax_iconst (v := (0)) dX4_paint_82 rfl ?_
    obtain ⟨x14, gx14, h⟩ := Option.bind_eq_some_iff.mp h
    refine ax_iald dX4_paint_83 gx14 ?_
    refine ax_aload_n (i := 2) dX4_paint_84 rfl rfl ?_
    refine ax_aload (i := 5) dX4_paint_85 rfl ?_
    obtain ⟨q15, gq15, h⟩ := Option.bind_eq_some_iff.mp h
    refine ax_cS (As := [av_i x14, av_r a2, av_r a5]) dX4_paint_87 (th_X4_paintBlur gq15) (And.intro wd_397 wd_34) wd_395 wd_396 cy_X4_paintBlur (by omega) (by decide) (Nat.le_of_ble_eq_true rfl) rfl ?_
    refine ax_goto (tgt := 115) dX4_paint_90 (by decide) ?_
    exact ax_retv dX4_paint_115 h
  rw [if_neg c12] at h
  by_cases c16 : x1 = 5
  · rw [if_pos c16] at h
    refine ax_swC (c := 5) (off := 89) (tgt := 93) dX4_paint_4 c16 (by decide) (by decide) (by decide) rfl (by decide) ?_
    refine ax_aload_n (i := 0) dX4_paint_93 rfl rfl ?_
    obtain ⟨r17, gr17, h⟩ := Option.bind_eq_some_iff.mp h
    refine ax_getR (q := (RX3, TX3, 5)) (t := 2) (k := 4) dX4_paint_94 rfl (by decide) wd_70 rfl gr17 ?_
    refine ax_aload_n (i := 2) dX4_paint_97 rfl rfl ?_
    refine ax_aload (i := 5) dX4_paint_98 rfl ?_
    obtain ⟨q18, gq18, h⟩ := Option.bind_eq_some_iff.mp h
    refine ax_cS (As := [av_r r17, av_r a2, av_r a5]) dX4_paint_100 (th_X4_paintKey gq18) (And.intro wd_400 wd_34) wd_398 wd_399 cy_X4_paintKey (by omega) (by decide) (Nat.le_of_ble_eq_true rfl) rfl ?_
    refine ax_goto (tgt := 115) dX4_paint_103 (by decide) ?_
    exact ax_retv dX4_paint_115 h
  rw [if_neg c16] at h
  refine ax_swD (tgt := 106) dX4_paint_4 (fun c hc1 hc2 => ?_) (by decide) ?_
  · have hcc : c = 0 ∨ c = 1 ∨ c = 2 ∨ c = 3 ∨ c = 4 ∨ c = 5 := by omega
    rcases hcc with rfl | rfl | rfl | rfl | rfl | rfl
    · exact Or.inr (fun e => c2 (e.trans (by decide)))
    · exact Or.inr (fun e => c6 (e.trans (by decide)))
    · exact Or.inr (fun e => c8 (e.trans (by decide)))
    · exact Or.inr (fun e => c10 (e.trans (by decide)))
    · exact Or.inr (fun e => c12 (e.trans (by decide)))
    · exact Or.inr (fun e => c16 (e.trans (by decide)))
  refine ax_aload_n (i := 2) dX4_paint_106 rfl rfl ?_
  refine ax_aload_n (i := 3) dX4_paint_107 rfl rfl ?_
  refine ax_aload (i := 4) dX4_paint_108 rfl ?_
  refine ax_aload (i := 5) dX4_paint_110 rfl ?_
  obtain ⟨q19, gq19, h⟩ := Option.bind_eq_some_iff.mp h
  refine ax_cS (As := [av_r a2, av_r a3, av_r a4, av_r a5]) dX4_paint_112 (th_X4_paintBlend gq19) (And.intro wd_406 wd_34) wd_404 wd_405 cy_X4_paintBlend (by omega) (by decide) (Nat.le_of_ble_eq_true rfl) rfl ?_
  exact ax_retv dX4_paint_115 h
set_option maxRecDepth 100000 in
set_option maxHeartbeats 4000000 in
theorem th_X4_paint {q : ax_S} {a0 : Option Nat} {a1 : Int32} {a2 : Option Nat} {a3 : Option Nat} {a4 : Option Nat} {a5 : Option Nat} {s : ax_S} (h : fn_X4_paint a0 a1 a2 a3 a4 a5 s = some q) : AC mm_X4_paint yX4_paint 3 0 0 [av_r a0, av_i a1, av_r a2, av_r a3, av_r a4, av_r a5] s (none, q) := by
  exact ax_met (L0 := [some (av_r a0), some (av_i a1), some (av_r a2), some (av_r a3), some (av_r a4), some (av_r a5)]) (by decide +kernel) rfl (fun h => absurd h (by decide)) ⟨rfl, rfl, rfl, rfl, rfl, rfl, trivial⟩ (Nat.le_of_ble_eq_true rfl) trivial (tw_X4_paint h)
/-! X7_greatestDifference -/
abbrev mm_X7_greatestDifference : ax_M := (RX7, cX7_greatestDifference, (some .int), 4, false)
def fb_X7_greatestDifference_4 : Nat → Option Nat → Option Nat → Int32 → Int32 → ax_S → Option (Int32 × ax_S)
  | 0, _, _, _, _, _ => none
  | n + 1, a0, a1, a2, a3, s =>
    if (96) ≤ a3 then
      some (a2, s)
    else
      (ax_al s 9 a0 a3).bind fun x2 =>
      (ax_al s 9 a1 a3).bind fun x3 =>
      ax_bd ((if a2 < (if 0 ≤ (x2 - x3) then (x2 - x3) else 0 - (x2 - x3)) then (if 0 ≤ (x2 - x3) then (x2 - x3) else 0 - (x2 - x3)) else a2)) fun v4 =>
      (fb_X7_greatestDifference_4 n) a0 a1 v4 (a3 + (1)) s
set_option maxRecDepth 100000 in
set_option maxHeartbeats 4000000 in
theorem tb_X7_greatestDifference_4 {q : Int32 × ax_S} : ∀ (n : Nat) (a0 : Option Nat) (a1 : Option Nat) (a2 : Int32) (a3 : Int32) (s : ax_S) (h : fb_X7_greatestDifference_4 n a0 a1 a2 a3 s = some q), AW mm_X7_greatestDifference 1 0 0 4 [(some (av_r a0)), (some (av_r a1)), (some (av_i a2)), (some (av_i a3))] [] s (some (av_i q.1), q.2) := by
  intro n
  induction n with
  | zero =>
    intro a0 a1 a2 a3 s h
    exact ax_no h
  | succ n ih =>
    intro a0 a1 a2 a3 s h
    unfold fb_X7_greatestDifference_4 at h
    refine ax_iload_n (i := 3) dX7_greatestDifference_4 rfl rfl ?_
    refine ax_bipush (v := (96)) dX7_greatestDifference_5 rfl ?_
    refine ax_icmp_ge (tgt := 31) dX7_greatestDifference_7 (by decide) (fun c1 => ?_) (fun c1 => ?_)
    · rw [if_pos c1] at h
      refine ax_iload_n (i := 2) dX7_greatestDifference_31 rfl rfl ?_
      exact ax_reti dX7_greatestDifference_32 h
    · rw [if_neg c1] at h
      refine ax_iload_n (i := 2) dX7_greatestDifference_10 rfl rfl ?_
      refine ax_aload_n (i := 0) dX7_greatestDifference_11 rfl rfl ?_
      refine ax_iload_n (i := 3) dX7_greatestDifference_12 rfl rfl ?_
      obtain ⟨x2, gx2, h⟩ := Option.bind_eq_some_iff.mp h
      refine ax_iald dX7_greatestDifference_13 gx2 ?_
      refine ax_aload_n (i := 1) dX7_greatestDifference_14 rfl rfl ?_
      refine ax_iload_n (i := 3) dX7_greatestDifference_15 rfl rfl ?_
      obtain ⟨x3, gx3, h⟩ := Option.bind_eq_some_iff.mp h
      refine ax_iald dX7_greatestDifference_16 gx3 ?_
      refine ax_isub dX7_greatestDifference_17 ?_
      refine ax_abs dX7_greatestDifference_18 wd_417 wd_418 wd_26 wd_419 (by omega) (Nat.le_of_ble_eq_true rfl) ?_
      refine ax_max dX7_greatestDifference_21 wd_420 wd_300 wd_26 wd_301 (by omega) (Nat.le_of_ble_eq_true rfl) ?_
      refine ax_bdI h (fun v4 h => ?_)
      refine ax_istore_n (i := 2) (L2 := [some (av_r a0), some (av_r a1), some (av_i v4), some (av_i a3)]) dX7_greatestDifference_24 rfl (by decide) rfl rfl ?_
      refine ax_iinc (i := 3) (v := (a3 + (1))) (L2 := [some (av_r a0), some (av_r a1), some (av_i v4), some (av_i (a3 + (1)))]) dX7_greatestDifference_25 rfl rfl (by decide) rfl rfl ?_
      refine ax_goto (tgt := 4) dX7_greatestDifference_28 (by decide) ?_
      exact ax_less (L' := [(some (av_r a0)), (some (av_r a1)), (some (av_i v4)), (some (av_i (a3 + (1))))]) ⟨rfl, rfl, rfl, rfl, trivial⟩ (ih _ _ _ _ _ h)
def fn_X7_greatestDifference (a0 : Option Nat) (a1 : Option Nat) (s : ax_S) : Option (Int32 × ax_S) :=
  fb_X7_greatestDifference_4 10000 a0 a1 (0) (0) s
set_option maxRecDepth 100000 in
set_option maxHeartbeats 4000000 in
theorem tw_X7_greatestDifference {q : Int32 × ax_S} {a0 : Option Nat} {a1 : Option Nat} {s : ax_S} (h : fn_X7_greatestDifference a0 a1 s = some q) : AW mm_X7_greatestDifference 1 0 0 0 [some (av_r a0), some (av_r a1), none, none] [] s (some (av_i q.1), q.2) := by
  unfold fn_X7_greatestDifference at h
  refine ax_iconst (v := (0)) dX7_greatestDifference_0 rfl ?_
  refine ax_istore_n (i := 2) (L2 := [some (av_r a0), some (av_r a1), some (av_i (0)), none]) dX7_greatestDifference_1 rfl (by decide) rfl rfl ?_
  refine ax_iconst (v := (0)) dX7_greatestDifference_2 rfl ?_
  refine ax_istore_n (i := 3) (L2 := [some (av_r a0), some (av_r a1), some (av_i (0)), some (av_i (0))]) dX7_greatestDifference_3 rfl (by decide) rfl rfl ?_
  exact ax_less (L' := [(some (av_r a0)), (some (av_r a1)), (some (av_i (0))), (some (av_i (0)))]) ⟨rfl, rfl, rfl, rfl, trivial⟩ (tb_X7_greatestDifference_4  _ _ _ _ _ _ h)
set_option maxRecDepth 100000 in
set_option maxHeartbeats 4000000 in
theorem th_X7_greatestDifference {q : Int32 × ax_S} {a0 : Option Nat} {a1 : Option Nat} {s : ax_S} (h : fn_X7_greatestDifference a0 a1 s = some q) : AC mm_X7_greatestDifference yX7_greatestDifference 1 0 0 [av_r a0, av_r a1] s (some (av_i q.1), q.2) := by
  exact ax_met (L0 := [some (av_r a0), some (av_r a1), none, none]) (by decide +kernel) rfl (fun h => absurd h (by decide)) ⟨rfl, rfl, trivial⟩ (Nat.le_of_ble_eq_true rfl) trivial (tw_X7_greatestDifference h)
/-! X7_inPart -/
abbrev mm_X7_inPart : ax_M := (RX7, cX7_inPart, (some .int), 6, false)
def fb_X7_inPart_11 : Nat → Option Nat → Int32 → Int32 → Int32 → Int32 → ax_S → Option (Int32 × ax_S)
  | 0, _, _, _, _, _, _ => none
  | n + 1, a0, a2, a3, a4, a5, s =>
    if (32) ≤ a5 then
      some (a4, s)
    else
      (ax_al s 9 a0 (a3 + a5)).bind fun x2 =>
      if (x2 / (16)) = a2 then
        (fb_X7_inPart_11 n) a0 a2 a3 (a4 + (1)) (a5 + (1)) s
      else
        (fb_X7_inPart_11 n) a0 a2 a3 a4 (a5 + (1)) s
set_option maxRecDepth 100000 in
set_option maxHeartbeats 4000000 in
theorem tb_X7_inPart_11 {q : Int32 × ax_S} : ∀ (n : Nat) (a0 : Option Nat) (a2 : Int32) (a3 : Int32) (a4 : Int32) (a5 : Int32) (s : ax_S) (h : fb_X7_inPart_11 n a0 a2 a3 a4 a5 s = some q), AW mm_X7_inPart 0 0 0 11 [(some (av_r a0)), none, (some (av_i a2)), (some (av_i a3)), (some (av_i a4)), (some (av_i a5))] [] s (some (av_i q.1), q.2) := by
  intro n
  induction n with
  | zero =>
    intro a0 a2 a3 a4 a5 s h
    exact ax_no h
  | succ n ih =>
    intro a0 a2 a3 a4 a5 s h
    unfold fb_X7_inPart_11 at h
    refine ax_iload (i := 5) dX7_inPart_11 rfl ?_
    refine ax_bipush (v := (32)) dX7_inPart_13 rfl ?_
    refine ax_icmp_ge (tgt := 40) dX7_inPart_15 (by decide) (fun c1 => ?_) (fun c1 => ?_)
    · rw [if_pos c1] at h
      refine ax_iload (i := 4) dX7_inPart_40 rfl ?_
      exact ax_reti dX7_inPart_42 h
    · rw [if_neg c1] at h
      refine ax_aload_n (i := 0) dX7_inPart_18 rfl rfl ?_
      refine ax_iload_n (i := 3) dX7_inPart_19 rfl rfl ?_
      refine ax_iload (i := 5) dX7_inPart_20 rfl ?_
      refine ax_iadd dX7_inPart_22 ?_
      obtain ⟨x2, gx2, h⟩ := Option.bind_eq_some_iff.mp h
      refine ax_iald dX7_inPart_23 gx2 ?_
      refine ax_bipush (v := (16)) dX7_inPart_24 rfl ?_
      refine ax_idiv dX7_inPart_26 (by decide) ?_
      refine ax_iload_n (i := 2) dX7_inPart_27 rfl rfl ?_
      refine ax_icmp_ne (tgt := 34) dX7_inPart_28 (by decide) (fun c3 => ?_) (fun c3 => ?_)
      · rw [if_neg c3] at h
        refine ax_iinc (i := 5) (v := (a5 + (1))) (L2 := [some (av_r a0), none, some (av_i a2), some (av_i a3), some (av_i a4), some (av_i (a5 + (1)))]) dX7_inPart_34 rfl rfl (by decide) rfl rfl ?_
        refine ax_goto (tgt := 11) dX7_inPart_37 (by decide) ?_
        exact ax_less (L' := [(some (av_r a0)), none, (some (av_i a2)), (some (av_i a3)), (some (av_i a4)), (some (av_i (a5 + (1))))]) ⟨rfl, rfl, rfl, rfl, rfl, trivial⟩ (ih _ _ _ _ _ _ h)
      · rw [if_pos c3] at h
        refine ax_iinc (i := 4) (v := (a4 + (1))) (L2 := [some (av_r a0), none, some (av_i a2), some (av_i a3), some (av_i (a4 + (1))), some (av_i a5)]) dX7_inPart_31 rfl rfl (by decide) rfl rfl ?_
        refine ax_iinc (i := 5) (v := (a5 + (1))) (L2 := [some (av_r a0), none, some (av_i a2), some (av_i a3), some (av_i (a4 + (1))), some (av_i (a5 + (1)))]) dX7_inPart_34 rfl rfl (by decide) rfl rfl ?_
        refine ax_goto (tgt := 11) dX7_inPart_37 (by decide) ?_
        exact ax_less (L' := [(some (av_r a0)), none, (some (av_i a2)), (some (av_i a3)), (some (av_i (a4 + (1)))), (some (av_i (a5 + (1))))]) ⟨rfl, rfl, rfl, rfl, rfl, trivial⟩ (ih _ _ _ _ _ _ h)
def fn_X7_inPart (a0 : Option Nat) (a1 : Int32) (a2 : Int32) (s : ax_S) : Option (Int32 × ax_S) :=
  ax_bd ((a1 * (32))) fun v4 =>
  fb_X7_inPart_11 10000 a0 a2 v4 (0) (0) s
set_option maxRecDepth 100000 in
set_option maxHeartbeats 4000000 in
theorem tw_X7_inPart {q : Int32 × ax_S} {a0 : Option Nat} {a1 : Int32} {a2 : Int32} {s : ax_S} (h : fn_X7_inPart a0 a1 a2 s = some q) : AW mm_X7_inPart 0 0 0 0 [some (av_r a0), some (av_i a1), some (av_i a2), none, none, none] [] s (some (av_i q.1), q.2) := by
  unfold fn_X7_inPart at h
  refine ax_iload_n (i := 1) dX7_inPart_0 rfl rfl ?_
  refine ax_bipush (v := (32)) dX7_inPart_1 rfl ?_
  refine ax_imul dX7_inPart_3 ?_
  refine ax_bdI h (fun v4 h => ?_)
  refine ax_istore_n (i := 3) (L2 := [some (av_r a0), some (av_i a1), some (av_i a2), some (av_i v4), none, none]) dX7_inPart_4 rfl (by decide) rfl rfl ?_
  refine ax_iconst (v := (0)) dX7_inPart_5 rfl ?_
  refine ax_istore (i := 4) (L2 := [some (av_r a0), some (av_i a1), some (av_i a2), some (av_i v4), some (av_i (0)), none]) dX7_inPart_6 (by decide) rfl rfl ?_
  refine ax_iconst (v := (0)) dX7_inPart_8 rfl ?_
  refine ax_istore (i := 5) (L2 := [some (av_r a0), some (av_i a1), some (av_i a2), some (av_i v4), some (av_i (0)), some (av_i (0))]) dX7_inPart_9 (by decide) rfl rfl ?_
  exact ax_less (L' := [(some (av_r a0)), none, (some (av_i a2)), (some (av_i v4)), (some (av_i (0))), (some (av_i (0)))]) ⟨rfl, rfl, rfl, rfl, rfl, trivial⟩ (tb_X7_inPart_11  _ _ _ _ _ _ _ h)
set_option maxRecDepth 100000 in
set_option maxHeartbeats 4000000 in
theorem th_X7_inPart {q : Int32 × ax_S} {a0 : Option Nat} {a1 : Int32} {a2 : Int32} {s : ax_S} (h : fn_X7_inPart a0 a1 a2 s = some q) : AC mm_X7_inPart yX7_inPart 0 0 0 [av_r a0, av_i a1, av_i a2] s (some (av_i q.1), q.2) := by
  exact ax_met (L0 := [some (av_r a0), some (av_i a1), some (av_i a2), none, none, none]) (by decide +kernel) rfl (fun h => absurd h (by decide)) ⟨rfl, rfl, rfl, trivial⟩ (Nat.le_of_ble_eq_true rfl) trivial (tw_X7_inPart h)
/-! X7_standsBefore -/
abbrev mm_X7_standsBefore : ax_M := (RX7, cX7_standsBefore, (some .boolean), 4, false)
def fb_X7_standsBefore_2 : Nat → Option Nat → Int32 → Int32 → ax_S → Option (Int32 × ax_S)
  | 0, _, _, _, _ => none
  | n + 1, a0, a2, a3, s =>
    if a2 ≤ a3 then
      some ((0), s)
    else
      (ax_al s 9 a0 a3).bind fun x2 =>
      (ax_al s 9 a0 a2).bind fun x3 =>
      if x2 = x3 then
        some ((1), s)
      else
        (fb_X7_standsBefore_2 n) a0 a2 (a3 + (1)) s
set_option maxRecDepth 100000 in
set_option maxHeartbeats 4000000 in
theorem tb_X7_standsBefore_2 {q : Int32 × ax_S} : ∀ (n : Nat) (a0 : Option Nat) (a2 : Int32) (a3 : Int32) (s : ax_S) (h : fb_X7_standsBefore_2 n a0 a2 a3 s = some q), AW mm_X7_standsBefore 0 0 0 2 [(some (av_r a0)), none, (some (av_i a2)), (some (av_i a3))] [] s (some (av_i q.1), q.2) := by
  intro n
  induction n with
  | zero =>
    intro a0 a2 a3 s h
    exact ax_no h
  | succ n ih =>
    intro a0 a2 a3 s h
    unfold fb_X7_standsBefore_2 at h
    refine ax_iload_n (i := 3) dX7_standsBefore_2 rfl rfl ?_
    refine ax_iload_n (i := 2) dX7_standsBefore_3 rfl rfl ?_
    refine ax_icmp_ge (tgt := 24) dX7_standsBefore_4 (by decide) (fun c1 => ?_) (fun c1 => ?_)
    · rw [if_pos c1] at h
      refine ax_iconst (v := (0)) dX7_standsBefore_24 rfl ?_
      exact ax_reti dX7_standsBefore_25 h
    · rw [if_neg c1] at h
      refine ax_aload_n (i := 0) dX7_standsBefore_7 rfl rfl ?_
      refine ax_iload_n (i := 3) dX7_standsBefore_8 rfl rfl ?_
      obtain ⟨x2, gx2, h⟩ := Option.bind_eq_some_iff.mp h
      refine ax_iald dX7_standsBefore_9 gx2 ?_
      refine ax_aload_n (i := 0) dX7_standsBefore_10 rfl rfl ?_
      refine ax_iload_n (i := 2) dX7_standsBefore_11 rfl rfl ?_
      obtain ⟨x3, gx3, h⟩ := Option.bind_eq_some_iff.mp h
      refine ax_iald dX7_standsBefore_12 gx3 ?_
      refine ax_icmp_ne (tgt := 18) dX7_standsBefore_13 (by decide) (fun c4 => ?_) (fun c4 => ?_)
      · rw [if_neg c4] at h
        refine ax_iinc (i := 3) (v := (a3 + (1))) (L2 := [some (av_r a0), none, some (av_i a2), some (av_i (a3 + (1)))]) dX7_standsBefore_18 rfl rfl (by decide) rfl rfl ?_
        refine ax_goto (tgt := 2) dX7_standsBefore_21 (by decide) ?_
        exact ax_less (L' := [(some (av_r a0)), none, (some (av_i a2)), (some (av_i (a3 + (1))))]) ⟨rfl, rfl, rfl, trivial⟩ (ih _ _ _ _ h)
      · rw [if_pos c4] at h
        refine ax_iconst (v := (1)) dX7_standsBefore_16 rfl ?_
        exact ax_reti dX7_standsBefore_17 h
def fi_X7_standsBefore (a0 : Option Nat) (a1 : Int32) (a2 : Int32) (s : ax_S) : Option (Int32 × ax_S) :=
  fb_X7_standsBefore_2 10000 a0 a2 a1 s
set_option maxRecDepth 100000 in
set_option maxHeartbeats 4000000 in
theorem tw_X7_standsBefore {q : Int32 × ax_S} {a0 : Option Nat} {a1 : Int32} {a2 : Int32} {s : ax_S} (h : fi_X7_standsBefore a0 a1 a2 s = some q) : AW mm_X7_standsBefore 0 0 0 0 [some (av_r a0), some (av_i a1), some (av_i a2), none] [] s (some (av_i q.1), q.2) := by
  unfold fi_X7_standsBefore at h
  refine ax_iload_n (i := 1) dX7_standsBefore_0 rfl rfl ?_
  refine ax_istore_n (i := 3) (L2 := [some (av_r a0), some (av_i a1), some (av_i a2), some (av_i a1)]) dX7_standsBefore_1 rfl (by decide) rfl rfl ?_
  exact ax_less (L' := [(some (av_r a0)), none, (some (av_i a2)), (some (av_i a1))]) ⟨rfl, rfl, rfl, trivial⟩ (tb_X7_standsBefore_2  _ _ _ _ _ h)
def fn_X7_standsBefore (a0 : Option Nat) (a1 : Int32) (a2 : Int32) (s : ax_S) : Option (Int32 × ax_S) := ax_bz (fi_X7_standsBefore a0 a1 a2 s)
set_option maxRecDepth 100000 in
set_option maxHeartbeats 4000000 in
theorem th_X7_standsBefore {q : Int32 × ax_S} {a0 : Option Nat} {a1 : Int32} {a2 : Int32} {s : ax_S} (h : fn_X7_standsBefore a0 a1 a2 s = some q) : AC mm_X7_standsBefore yX7_standsBefore 0 0 0 [av_r a0, av_i a1, av_i a2] s (some (av_i q.1), q.2) := by
  obtain ⟨h, hz⟩ := ax_bz_of h
  exact ax_met (L0 := [some (av_r a0), some (av_i a1), some (av_i a2), none]) (by decide +kernel) rfl (fun h => absurd h (by decide)) ⟨rfl, rfl, rfl, trivial⟩ (Nat.le_of_ble_eq_true rfl) hz (tw_X7_standsBefore h)
/-! X7_different -/
abbrev mm_X7_different : ax_M := (RX7, cX7_different, (some .int), 5, false)
def fb_X7_different_10 : Nat → Option Nat → Int32 → Int32 → Int32 → ax_S → Option (Int32 × ax_S)
  | 0, _, _, _, _, _ => none
  | n + 1, a0, a2, a3, a4, s =>
    if (a2 + (32)) ≤ a4 then
      some (a3, s)
    else
      (fn_X7_standsBefore a0 a2 a4 s).bind fun q2 =>
      if q2.1 = 0 then
        (fb_X7_different_10 n) a0 a2 (a3 + (1)) (a4 + (1)) q2.2
      else
        (fb_X7_different_10 n) a0 a2 a3 (a4 + (1)) q2.2
set_option maxRecDepth 100000 in
set_option maxHeartbeats 4000000 in
theorem tb_X7_different_10 {q : Int32 × ax_S} : ∀ (n : Nat) (a0 : Option Nat) (a2 : Int32) (a3 : Int32) (a4 : Int32) (s : ax_S) (h : fb_X7_different_10 n a0 a2 a3 a4 s = some q), AW mm_X7_different 1 0 0 10 [(some (av_r a0)), none, (some (av_i a2)), (some (av_i a3)), (some (av_i a4))] [] s (some (av_i q.1), q.2) := by
  intro n
  induction n with
  | zero =>
    intro a0 a2 a3 a4 s h
    exact ax_no h
  | succ n ih =>
    intro a0 a2 a3 a4 s h
    unfold fb_X7_different_10 at h
    refine ax_iload (i := 4) dX7_different_10 rfl ?_
    refine ax_iload_n (i := 2) dX7_different_12 rfl rfl ?_
    refine ax_bipush (v := (32)) dX7_different_13 rfl ?_
    refine ax_iadd dX7_different_15 ?_
    refine ax_icmp_ge (tgt := 38) dX7_different_16 (by decide) (fun c1 => ?_) (fun c1 => ?_)
    · rw [if_pos c1] at h
      refine ax_iload_n (i := 3) dX7_different_38 rfl rfl ?_
      exact ax_reti dX7_different_39 h
    · rw [if_neg c1] at h
      refine ax_aload_n (i := 0) dX7_different_19 rfl rfl ?_
      refine ax_iload_n (i := 2) dX7_different_20 rfl rfl ?_
      refine ax_iload (i := 4) dX7_different_21 rfl ?_
      obtain ⟨q2, gq2, h⟩ := Option.bind_eq_some_iff.mp h
      refine ax_cS (As := [av_r a0, av_i a2, av_i a4]) dX7_different_23 (th_X7_standsBefore gq2) (And.intro wd_699 wd_35) wd_697 wd_698 cy_X7_standsBefore (by omega) (by decide) (Nat.le_of_ble_eq_true rfl) rfl ?_
      refine ax_if_ne (tgt := 32) dX7_different_26 (by decide) (fun c3 => ?_) (fun c3 => ?_)
      · rw [if_neg c3] at h
        refine ax_iinc (i := 4) (v := (a4 + (1))) (L2 := [some (av_r a0), none, some (av_i a2), some (av_i a3), some (av_i (a4 + (1)))]) dX7_different_32 rfl rfl (by decide) rfl rfl ?_
        refine ax_goto (tgt := 10) dX7_different_35 (by decide) ?_
        exact ax_less (L' := [(some (av_r a0)), none, (some (av_i a2)), (some (av_i a3)), (some (av_i (a4 + (1))))]) ⟨rfl, rfl, rfl, rfl, trivial⟩ (ih _ _ _ _ _ h)
      · rw [if_pos c3] at h
        refine ax_iinc (i := 3) (v := (a3 + (1))) (L2 := [some (av_r a0), none, some (av_i a2), some (av_i (a3 + (1))), some (av_i a4)]) dX7_different_29 rfl rfl (by decide) rfl rfl ?_
        refine ax_iinc (i := 4) (v := (a4 + (1))) (L2 := [some (av_r a0), none, some (av_i a2), some (av_i (a3 + (1))), some (av_i (a4 + (1)))]) dX7_different_32 rfl rfl (by decide) rfl rfl ?_
        refine ax_goto (tgt := 10) dX7_different_35 (by decide) ?_
        exact ax_less (L' := [(some (av_r a0)), none, (some (av_i a2)), (some (av_i (a3 + (1)))), (some (av_i (a4 + (1))))]) ⟨rfl, rfl, rfl, rfl, trivial⟩ (ih _ _ _ _ _ h)
def fn_X7_different (a0 : Option Nat) (a1 : Int32) (s : ax_S) : Option (Int32 × ax_S) :=
  ax_bd ((a1 * (32))) fun v4 =>
  fb_X7_different_10 10000 a0 v4 (0) v4 s
set_option maxRecDepth 100000 in
set_option maxHeartbeats 4000000 in
theorem tw_X7_different {q : Int32 × ax_S} {a0 : Option Nat} {a1 : Int32} {s : ax_S} (h : fn_X7_different a0 a1 s = some q) : AW mm_X7_different 1 0 0 0 [some (av_r a0), some (av_i a1), none, none, none] [] s (some (av_i q.1), q.2) := by
  unfold fn_X7_different at h
  refine ax_iload_n (i := 1) dX7_different_0 rfl rfl ?_
  refine ax_bipush (v := (32)) dX7_different_1 rfl ?_
  refine ax_imul dX7_different_3 ?_
  refine ax_bdI h (fun v4 h => ?_)
  refine ax_istore_n (i := 2) (L2 := [some (av_r a0), some (av_i a1), some (av_i v4), none, none]) dX7_different_4 rfl (by decide) rfl rfl ?_
  refine ax_iconst (v := (0)) dX7_different_5 rfl ?_
  refine ax_istore_n (i := 3) (L2 := [some (av_r a0), some (av_i a1), some (av_i v4), some (av_i (0)), none]) dX7_different_6 rfl (by decide) rfl rfl ?_
  refine ax_iload_n (i := 2) dX7_different_7 rfl rfl ?_
  refine ax_istore (i := 4) (L2 := [some (av_r a0), some (av_i a1), some (av_i v4), some (av_i (0)), some (av_i v4)]) dX7_different_8 (by decide) rfl rfl ?_
  exact ax_less (L' := [(some (av_r a0)), none, (some (av_i v4)), (some (av_i (0))), (some (av_i v4))]) ⟨rfl, rfl, rfl, rfl, trivial⟩ (tb_X7_different_10  _ _ _ _ _ _ h)
set_option maxRecDepth 100000 in
set_option maxHeartbeats 4000000 in
theorem th_X7_different {q : Int32 × ax_S} {a0 : Option Nat} {a1 : Int32} {s : ax_S} (h : fn_X7_different a0 a1 s = some q) : AC mm_X7_different yX7_different 1 0 0 [av_r a0, av_i a1] s (some (av_i q.1), q.2) := by
  exact ax_met (L0 := [some (av_r a0), some (av_i a1), none, none, none]) (by decide +kernel) rfl (fun h => absurd h (by decide)) ⟨rfl, rfl, trivial⟩ (Nat.le_of_ble_eq_true rfl) trivial (tw_X7_different h)
/-! X7_greatest -/
abbrev mm_X7_greatest : ax_M := (RX7, cX7_greatest, (some .int), 5, false)
def fb_X7_greatest_10 : Nat → Option Nat → Int32 → Int32 → Int32 → ax_S → Option (Int32 × ax_S)
  | 0, _, _, _, _, _ => none
  | n + 1, a0, a2, a3, a4, s =>
    if (32) ≤ a4 then
      some (a3, s)
    else
      (ax_al s 9 a0 (a2 + a4)).bind fun x2 =>
      ax_bd ((if a3 < x2 then x2 else a3)) fun v3 =>
      (fb_X7_greatest_10 n) a0 a2 v3 (a4 + (1)) s
set_option maxRecDepth 100000 in
set_option maxHeartbeats 4000000 in
theorem tb_X7_greatest_10 {q : Int32 × ax_S} : ∀ (n : Nat) (a0 : Option Nat) (a2 : Int32) (a3 : Int32) (a4 : Int32) (s : ax_S) (h : fb_X7_greatest_10 n a0 a2 a3 a4 s = some q), AW mm_X7_greatest 1 0 0 10 [(some (av_r a0)), none, (some (av_i a2)), (some (av_i a3)), (some (av_i a4))] [] s (some (av_i q.1), q.2) := by
  intro n
  induction n with
  | zero =>
    intro a0 a2 a3 a4 s h
    exact ax_no h
  | succ n ih =>
    intro a0 a2 a3 a4 s h
    unfold fb_X7_greatest_10 at h
    refine ax_iload (i := 4) dX7_greatest_10 rfl ?_
    refine ax_bipush (v := (32)) dX7_greatest_12 rfl ?_
    refine ax_icmp_ge (tgt := 34) dX7_greatest_14 (by decide) (fun c1 => ?_) (fun c1 => ?_)
    · rw [if_pos c1] at h
      refine ax_iload_n (i := 3) dX7_greatest_34 rfl rfl ?_
      exact ax_reti dX7_greatest_35 h
    · rw [if_neg c1] at h
      refine ax_iload_n (i := 3) dX7_greatest_17 rfl rfl ?_
      refine ax_aload_n (i := 0) dX7_greatest_18 rfl rfl ?_
      refine ax_iload_n (i := 2) dX7_greatest_19 rfl rfl ?_
      refine ax_iload (i := 4) dX7_greatest_20 rfl ?_
      refine ax_iadd dX7_greatest_22 ?_
      obtain ⟨x2, gx2, h⟩ := Option.bind_eq_some_iff.mp h
      refine ax_iald dX7_greatest_23 gx2 ?_
      refine ax_max dX7_greatest_24 wd_420 wd_300 wd_26 wd_301 (by omega) (Nat.le_of_ble_eq_true rfl) ?_
      refine ax_bdI h (fun v3 h => ?_)
      refine ax_istore_n (i := 3) (L2 := [some (av_r a0), none, some (av_i a2), some (av_i v3), some (av_i a4)]) dX7_greatest_27 rfl (by decide) rfl rfl ?_
      refine ax_iinc (i := 4) (v := (a4 + (1))) (L2 := [some (av_r a0), none, some (av_i a2), some (av_i v3), some (av_i (a4 + (1)))]) dX7_greatest_28 rfl rfl (by decide) rfl rfl ?_
      refine ax_goto (tgt := 10) dX7_greatest_31 (by decide) ?_
      exact ax_less (L' := [(some (av_r a0)), none, (some (av_i a2)), (some (av_i v3)), (some (av_i (a4 + (1))))]) ⟨rfl, rfl, rfl, rfl, trivial⟩ (ih _ _ _ _ _ h)
def fn_X7_greatest (a0 : Option Nat) (a1 : Int32) (s : ax_S) : Option (Int32 × ax_S) :=
  ax_bd ((a1 * (32))) fun v4 =>
  fb_X7_greatest_10 10000 a0 v4 (0) (0) s
set_option maxRecDepth 100000 in
set_option maxHeartbeats 4000000 in
theorem tw_X7_greatest {q : Int32 × ax_S} {a0 : Option Nat} {a1 : Int32} {s : ax_S} (h : fn_X7_greatest a0 a1 s = some q) : AW mm_X7_greatest 1 0 0 0 [some (av_r a0), some (av_i a1), none, none, none] [] s (some (av_i q.1), q.2) := by
  unfold fn_X7_greatest at h
  refine ax_iload_n (i := 1) dX7_greatest_0 rfl rfl ?_
  refine ax_bipush (v := (32)) dX7_greatest_1 rfl ?_
  refine ax_imul dX7_greatest_3 ?_
  refine ax_bdI h (fun v4 h => ?_)
  refine ax_istore_n (i := 2) (L2 := [some (av_r a0), some (av_i a1), some (av_i v4), none, none]) dX7_greatest_4 rfl (by decide) rfl rfl ?_
  refine ax_iconst (v := (0)) dX7_greatest_5 rfl ?_
  refine ax_istore_n (i := 3) (L2 := [some (av_r a0), some (av_i a1), some (av_i v4), some (av_i (0)), none]) dX7_greatest_6 rfl (by decide) rfl rfl ?_
  refine ax_iconst (v := (0)) dX7_greatest_7 rfl ?_
  refine ax_istore (i := 4) (L2 := [some (av_r a0), some (av_i a1), some (av_i v4), some (av_i (0)), some (av_i (0))]) dX7_greatest_8 (by decide) rfl rfl ?_
  exact ax_less (L' := [(some (av_r a0)), none, (some (av_i v4)), (some (av_i (0))), (some (av_i (0)))]) ⟨rfl, rfl, rfl, rfl, trivial⟩ (tb_X7_greatest_10  _ _ _ _ _ _ h)
set_option maxRecDepth 100000 in
set_option maxHeartbeats 4000000 in
theorem th_X7_greatest {q : Int32 × ax_S} {a0 : Option Nat} {a1 : Int32} {s : ax_S} (h : fn_X7_greatest a0 a1 s = some q) : AC mm_X7_greatest yX7_greatest 1 0 0 [av_r a0, av_i a1] s (some (av_i q.1), q.2) := by
  exact ax_met (L0 := [some (av_r a0), some (av_i a1), none, none, none]) (by decide +kernel) rfl (fun h => absurd h (by decide)) ⟨rfl, rfl, trivial⟩ (Nat.le_of_ble_eq_true rfl) trivial (tw_X7_greatest h)
/-! X7_least -/
abbrev mm_X7_least : ax_M := (RX7, cX7_least, (some .int), 5, false)
def fb_X7_least_12 : Nat → Option Nat → Int32 → Int32 → Int32 → ax_S → Option (Int32 × ax_S)
  | 0, _, _, _, _, _ => none
  | n + 1, a0, a2, a3, a4, s =>
    if (32) ≤ a4 then
      some (a3, s)
    else
      (ax_al s 9 a0 (a2 + a4)).bind fun x2 =>
      ax_bd ((if x2 < a3 then x2 else a3)) fun v3 =>
      (fb_X7_least_12 n) a0 a2 v3 (a4 + (1)) s
set_option maxRecDepth 100000 in
set_option maxHeartbeats 4000000 in
theorem tb_X7_least_12 {q : Int32 × ax_S} : ∀ (n : Nat) (a0 : Option Nat) (a2 : Int32) (a3 : Int32) (a4 : Int32) (s : ax_S) (h : fb_X7_least_12 n a0 a2 a3 a4 s = some q), AW mm_X7_least 1 0 0 12 [(some (av_r a0)), none, (some (av_i a2)), (some (av_i a3)), (some (av_i a4))] [] s (some (av_i q.1), q.2) := by
  intro n
  induction n with
  | zero =>
    intro a0 a2 a3 a4 s h
    exact ax_no h
  | succ n ih =>
    intro a0 a2 a3 a4 s h
    unfold fb_X7_least_12 at h
    refine ax_iload (i := 4) dX7_least_12 rfl ?_
    refine ax_bipush (v := (32)) dX7_least_14 rfl ?_
    refine ax_icmp_ge (tgt := 36) dX7_least_16 (by decide) (fun c1 => ?_) (fun c1 => ?_)
    · rw [if_pos c1] at h
      refine ax_iload_n (i := 3) dX7_least_36 rfl rfl ?_
      exact ax_reti dX7_least_37 h
    · rw [if_neg c1] at h
      refine ax_iload_n (i := 3) dX7_least_19 rfl rfl ?_
      refine ax_aload_n (i := 0) dX7_least_20 rfl rfl ?_
      refine ax_iload_n (i := 2) dX7_least_21 rfl rfl ?_
      refine ax_iload (i := 4) dX7_least_22 rfl ?_
      refine ax_iadd dX7_least_24 ?_
      obtain ⟨x2, gx2, h⟩ := Option.bind_eq_some_iff.mp h
      refine ax_iald dX7_least_25 gx2 ?_
      refine ax_min dX7_least_26 wd_687 wd_389 wd_26 wd_390 (by omega) (Nat.le_of_ble_eq_true rfl) ?_
      refine ax_bdI h (fun v3 h => ?_)
      refine ax_istore_n (i := 3) (L2 := [some (av_r a0), none, some (av_i a2), some (av_i v3), some (av_i a4)]) dX7_least_29 rfl (by decide) rfl rfl ?_
      refine ax_iinc (i := 4) (v := (a4 + (1))) (L2 := [some (av_r a0), none, some (av_i a2), some (av_i v3), some (av_i (a4 + (1)))]) dX7_least_30 rfl rfl (by decide) rfl rfl ?_
      refine ax_goto (tgt := 12) dX7_least_33 (by decide) ?_
      exact ax_less (L' := [(some (av_r a0)), none, (some (av_i a2)), (some (av_i v3)), (some (av_i (a4 + (1))))]) ⟨rfl, rfl, rfl, rfl, trivial⟩ (ih _ _ _ _ _ h)
def fn_X7_least (a0 : Option Nat) (a1 : Int32) (s : ax_S) : Option (Int32 × ax_S) :=
  ax_bd ((a1 * (32))) fun v4 =>
  fb_X7_least_12 10000 a0 v4 (255) (0) s
set_option maxRecDepth 100000 in
set_option maxHeartbeats 4000000 in
theorem tw_X7_least {q : Int32 × ax_S} {a0 : Option Nat} {a1 : Int32} {s : ax_S} (h : fn_X7_least a0 a1 s = some q) : AW mm_X7_least 1 0 0 0 [some (av_r a0), some (av_i a1), none, none, none] [] s (some (av_i q.1), q.2) := by
  unfold fn_X7_least at h
  refine ax_iload_n (i := 1) dX7_least_0 rfl rfl ?_
  refine ax_bipush (v := (32)) dX7_least_1 rfl ?_
  refine ax_imul dX7_least_3 ?_
  refine ax_bdI h (fun v4 h => ?_)
  refine ax_istore_n (i := 2) (L2 := [some (av_r a0), some (av_i a1), some (av_i v4), none, none]) dX7_least_4 rfl (by decide) rfl rfl ?_
  refine ax_sipush (v := (255)) dX7_least_5 rfl ?_
  refine ax_istore_n (i := 3) (L2 := [some (av_r a0), some (av_i a1), some (av_i v4), some (av_i (255)), none]) dX7_least_8 rfl (by decide) rfl rfl ?_
  refine ax_iconst (v := (0)) dX7_least_9 rfl ?_
  refine ax_istore (i := 4) (L2 := [some (av_r a0), some (av_i a1), some (av_i v4), some (av_i (255)), some (av_i (0))]) dX7_least_10 (by decide) rfl rfl ?_
  exact ax_less (L' := [(some (av_r a0)), none, (some (av_i v4)), (some (av_i (255))), (some (av_i (0)))]) ⟨rfl, rfl, rfl, rfl, trivial⟩ (tb_X7_least_12  _ _ _ _ _ _ h)
set_option maxRecDepth 100000 in
set_option maxHeartbeats 4000000 in
theorem th_X7_least {q : Int32 × ax_S} {a0 : Option Nat} {a1 : Int32} {s : ax_S} (h : fn_X7_least a0 a1 s = some q) : AC mm_X7_least yX7_least 1 0 0 [av_r a0, av_i a1] s (some (av_i q.1), q.2) := by
  exact ax_met (L0 := [some (av_r a0), some (av_i a1), none, none, none]) (by decide +kernel) rfl (fun h => absurd h (by decide)) ⟨rfl, rfl, trivial⟩ (Nat.le_of_ble_eq_true rfl) trivial (tw_X7_least h)
/-! X7_total -/
abbrev mm_X7_total : ax_M := (RX7, cX7_total, (some .int), 5, false)
def fb_X7_total_10 : Nat → Option Nat → Int32 → Int32 → Int32 → ax_S → Option (Int32 × ax_S)
  | 0, _, _, _, _, _ => none
  | n + 1, a0, a2, a3, a4, s =>
    if (32) ≤ a4 then
      some (a3, s)
    else
      (ax_al s 9 a0 (a2 + a4)).bind fun x2 =>
      ax_bd ((a3 + x2)) fun v3 =>
      (fb_X7_total_10 n) a0 a2 v3 (a4 + (1)) s
set_option maxRecDepth 100000 in
set_option maxHeartbeats 4000000 in
theorem tb_X7_total_10 {q : Int32 × ax_S} : ∀ (n : Nat) (a0 : Option Nat) (a2 : Int32) (a3 : Int32) (a4 : Int32) (s : ax_S) (h : fb_X7_total_10 n a0 a2 a3 a4 s = some q), AW mm_X7_total 0 0 0 10 [(some (av_r a0)), none, (some (av_i a2)), (some (av_i a3)), (some (av_i a4))] [] s (some (av_i q.1), q.2) := by
  intro n
  induction n with
  | zero =>
    intro a0 a2 a3 a4 s h
    exact ax_no h
  | succ n ih =>
    intro a0 a2 a3 a4 s h
    unfold fb_X7_total_10 at h
    refine ax_iload (i := 4) dX7_total_10 rfl ?_
    refine ax_bipush (v := (32)) dX7_total_12 rfl ?_
    refine ax_icmp_ge (tgt := 32) dX7_total_14 (by decide) (fun c1 => ?_) (fun c1 => ?_)
    · rw [if_pos c1] at h
      refine ax_iload_n (i := 3) dX7_total_32 rfl rfl ?_
      exact ax_reti dX7_total_33 h
    · rw [if_neg c1] at h
      refine ax_iload_n (i := 3) dX7_total_17 rfl rfl ?_
      refine ax_aload_n (i := 0) dX7_total_18 rfl rfl ?_
      refine ax_iload_n (i := 2) dX7_total_19 rfl rfl ?_
      refine ax_iload (i := 4) dX7_total_20 rfl ?_
      refine ax_iadd dX7_total_22 ?_
      obtain ⟨x2, gx2, h⟩ := Option.bind_eq_some_iff.mp h
      refine ax_iald dX7_total_23 gx2 ?_
      refine ax_iadd dX7_total_24 ?_
      refine ax_bdI h (fun v3 h => ?_)
      refine ax_istore_n (i := 3) (L2 := [some (av_r a0), none, some (av_i a2), some (av_i v3), some (av_i a4)]) dX7_total_25 rfl (by decide) rfl rfl ?_
      refine ax_iinc (i := 4) (v := (a4 + (1))) (L2 := [some (av_r a0), none, some (av_i a2), some (av_i v3), some (av_i (a4 + (1)))]) dX7_total_26 rfl rfl (by decide) rfl rfl ?_
      refine ax_goto (tgt := 10) dX7_total_29 (by decide) ?_
      exact ax_less (L' := [(some (av_r a0)), none, (some (av_i a2)), (some (av_i v3)), (some (av_i (a4 + (1))))]) ⟨rfl, rfl, rfl, rfl, trivial⟩ (ih _ _ _ _ _ h)
def fn_X7_total (a0 : Option Nat) (a1 : Int32) (s : ax_S) : Option (Int32 × ax_S) :=
  ax_bd ((a1 * (32))) fun v4 =>
  fb_X7_total_10 10000 a0 v4 (0) (0) s
set_option maxRecDepth 100000 in
set_option maxHeartbeats 4000000 in
theorem tw_X7_total {q : Int32 × ax_S} {a0 : Option Nat} {a1 : Int32} {s : ax_S} (h : fn_X7_total a0 a1 s = some q) : AW mm_X7_total 0 0 0 0 [some (av_r a0), some (av_i a1), none, none, none] [] s (some (av_i q.1), q.2) := by
  unfold fn_X7_total at h
  refine ax_iload_n (i := 1) dX7_total_0 rfl rfl ?_
  refine ax_bipush (v := (32)) dX7_total_1 rfl ?_
  refine ax_imul dX7_total_3 ?_
  refine ax_bdI h (fun v4 h => ?_)
  refine ax_istore_n (i := 2) (L2 := [some (av_r a0), some (av_i a1), some (av_i v4), none, none]) dX7_total_4 rfl (by decide) rfl rfl ?_
  refine ax_iconst (v := (0)) dX7_total_5 rfl ?_
  refine ax_istore_n (i := 3) (L2 := [some (av_r a0), some (av_i a1), some (av_i v4), some (av_i (0)), none]) dX7_total_6 rfl (by decide) rfl rfl ?_
  refine ax_iconst (v := (0)) dX7_total_7 rfl ?_
  refine ax_istore (i := 4) (L2 := [some (av_r a0), some (av_i a1), some (av_i v4), some (av_i (0)), some (av_i (0))]) dX7_total_8 (by decide) rfl rfl ?_
  exact ax_less (L' := [(some (av_r a0)), none, (some (av_i v4)), (some (av_i (0))), (some (av_i (0)))]) ⟨rfl, rfl, rfl, rfl, trivial⟩ (tb_X7_total_10  _ _ _ _ _ _ h)
set_option maxRecDepth 100000 in
set_option maxHeartbeats 4000000 in
theorem th_X7_total {q : Int32 × ax_S} {a0 : Option Nat} {a1 : Int32} {s : ax_S} (h : fn_X7_total a0 a1 s = some q) : AC mm_X7_total yX7_total 0 0 0 [av_r a0, av_i a1] s (some (av_i q.1), q.2) := by
  exact ax_met (L0 := [some (av_r a0), some (av_i a1), none, none, none]) (by decide +kernel) rfl (fun h => absurd h (by decide)) ⟨rfl, rfl, trivial⟩ (Nat.le_of_ble_eq_true rfl) trivial (tw_X7_total h)
