/-! X10_in -/
abbrev mm_X10_in : ax_M := (RX10, cX10_in, (some .boolean), 3, false)
def fi_X10_in (a0 : Int32) (a1 : Int32) (a2 : Int32) (s : ax_S) : Option (Int32 × ax_S) :=
  if a0 < a1 then
    some ((0), s)
  else
    if a2 < a0 then
      some ((0), s)
    else
      some ((1), s)
set_option maxRecDepth 100000 in
set_option maxHeartbeats 4000000 in
theorem tw_X10_in {q : Int32 × ax_S} {a0 : Int32} {a1 : Int32} {a2 : Int32} {s : ax_S} (h : fi_X10_in a0 a1 a2 s = some q) : AW mm_X10_in 0 0 0 0 [some (av_i a0), some (av_i a1), some (av_i a2)] [] s (some (av_i q.1), q.2) := by
  unfold fi_X10_in at h
  refine ax_iload_n (i := 0) dX10_in_0 rfl rfl ?_
  refine ax_iload_n (i := 1) dX10_in_1 rfl rfl ?_
  refine ax_icmp_lt (tgt := 14) dX10_in_2 (by decide) (fun c1 => ?_) (fun c1 => ?_)
  · rw [if_pos c1] at h
    refine ax_iconst (v := (0)) dX10_in_14 rfl ?_
    exact ax_reti dX10_in_15 h
  · rw [if_neg c1] at h
    refine ax_iload_n (i := 0) dX10_in_5 rfl rfl ?_
    refine ax_iload_n (i := 2) dX10_in_6 rfl rfl ?_
    refine ax_icmp_gt (tgt := 14) dX10_in_7 (by decide) (fun c2 => ?_) (fun c2 => ?_)
    · rw [if_pos c2] at h
      refine ax_iconst (v := (0)) dX10_in_14 rfl ?_
      exact ax_reti dX10_in_15 h
    · rw [if_neg c2] at h
      refine ax_iconst (v := (1)) dX10_in_10 rfl ?_
      refine ax_goto (tgt := 15) dX10_in_11 (by decide) ?_
      exact ax_reti dX10_in_15 h
def fn_X10_in (a0 : Int32) (a1 : Int32) (a2 : Int32) (s : ax_S) : Option (Int32 × ax_S) := ax_bz (fi_X10_in a0 a1 a2 s)
set_option maxRecDepth 100000 in
set_option maxHeartbeats 4000000 in
theorem th_X10_in {q : Int32 × ax_S} {a0 : Int32} {a1 : Int32} {a2 : Int32} {s : ax_S} (h : fn_X10_in a0 a1 a2 s = some q) : AC mm_X10_in yX10_in 0 0 0 [av_i a0, av_i a1, av_i a2] s (some (av_i q.1), q.2) := by
  obtain ⟨h, hz⟩ := ax_bz_of h
  exact ax_met (L0 := [some (av_i a0), some (av_i a1), some (av_i a2)]) (by decide +kernel) rfl (fun h => absurd h (by decide)) ⟨rfl, rfl, rfl, trivial⟩ (Nat.le_of_ble_eq_true rfl) hz (tw_X10_in h)
/-! X10_oldest -/
abbrev mm_X10_oldest : ax_M := (RX10, cX10_oldest, (some .int), 3, false)
def fb_X10_oldest_4 : Nat → Option Nat → Int32 → Int32 → ax_S → Option (Int32 × ax_S)
  | 0, _, _, _, _ => none
  | n + 1, a0, a1, a2, s =>
    (ax_gi s 7 4 a0).bind fun x1 =>
    if x1 ≤ a2 then
      some (a1, s)
    else
      (ax_gr s 7 7 a0).bind fun r3 =>
      (ax_al s 9 r3 a2).bind fun x4 =>
      (ax_gr s 7 7 a0).bind fun r5 =>
      (ax_al s 9 r5 a1).bind fun x6 =>
      if x6 ≤ x4 then
        (fb_X10_oldest_4 n) a0 a1 (a2 + (1)) s
      else
        (fb_X10_oldest_4 n) a0 a2 (a2 + (1)) s
set_option maxRecDepth 100000 in
set_option maxHeartbeats 4000000 in
theorem tb_X10_oldest_4 {q : Int32 × ax_S} : ∀ (n : Nat) (a0 : Option Nat) (a1 : Int32) (a2 : Int32) (s : ax_S) (h : fb_X10_oldest_4 n a0 a1 a2 s = some q), AW mm_X10_oldest 0 0 0 4 [(some (av_r a0)), (some (av_i a1)), (some (av_i a2))] [] s (some (av_i q.1), q.2) := by
  intro n
  induction n with
  | zero =>
    intro a0 a1 a2 s h
    exact ax_no h
  | succ n ih =>
    intro a0 a1 a2 s h
    unfold fb_X10_oldest_4 at h
    refine ax_iload_n (i := 2) dX10_oldest_4 rfl rfl ?_
    refine ax_aload_n (i := 0) dX10_oldest_5 rfl rfl ?_
    obtain ⟨x1, gx1, h⟩ := Option.bind_eq_some_iff.mp h
    refine ax_getI (q := (RX10, TX10, 28)) (t := 7) (k := 4) dX10_oldest_6 rfl (by decide) wd_760 rfl gx1 ?_
    refine ax_icmp_ge (tgt := 39) dX10_oldest_9 (by decide) (fun c2 => ?_) (fun c2 => ?_)
    · rw [if_pos c2] at h
      refine ax_iload_n (i := 1) dX10_oldest_39 rfl rfl ?_
      exact ax_reti dX10_oldest_40 h
    · rw [if_neg c2] at h
      refine ax_aload_n (i := 0) dX10_oldest_12 rfl rfl ?_
      obtain ⟨r3, gr3, h⟩ := Option.bind_eq_some_iff.mp h
      refine ax_getR (q := (RX10, TX10, 28)) (t := 7) (k := 7) dX10_oldest_13 rfl (by decide) wd_763 rfl gr3 ?_
      refine ax_iload_n (i := 2) dX10_oldest_16 rfl rfl ?_
      obtain ⟨x4, gx4, h⟩ := Option.bind_eq_some_iff.mp h
      refine ax_iald dX10_oldest_17 gx4 ?_
      refine ax_aload_n (i := 0) dX10_oldest_18 rfl rfl ?_
      obtain ⟨r5, gr5, h⟩ := Option.bind_eq_some_iff.mp h
      refine ax_getR (q := (RX10, TX10, 28)) (t := 7) (k := 7) dX10_oldest_19 rfl (by decide) wd_763 rfl gr5 ?_
      refine ax_iload_n (i := 1) dX10_oldest_22 rfl rfl ?_
      obtain ⟨x6, gx6, h⟩ := Option.bind_eq_some_iff.mp h
      refine ax_iald dX10_oldest_23 gx6 ?_
      refine ax_icmp_ge (tgt := 31) dX10_oldest_24 (by decide) (fun c7 => ?_) (fun c7 => ?_)
      · rw [if_pos c7] at h
        refine ax_iload_n (i := 1) dX10_oldest_31 rfl rfl ?_
        refine ax_istore_n (i := 1) (L2 := [some (av_r a0), some (av_i a1), some (av_i a2)]) dX10_oldest_32 rfl (by decide) rfl rfl ?_
        refine ax_iinc (i := 2) (v := (a2 + (1))) (L2 := [some (av_r a0), some (av_i a1), some (av_i (a2 + (1)))]) dX10_oldest_33 rfl rfl (by decide) rfl rfl ?_
        refine ax_goto (tgt := 4) dX10_oldest_36 (by decide) ?_
        exact ax_less (L' := [(some (av_r a0)), (some (av_i a1)), (some (av_i (a2 + (1))))]) ⟨rfl, rfl, rfl, trivial⟩ (ih _ _ _ _ h)
      · rw [if_neg c7] at h
        refine ax_iload_n (i := 2) dX10_oldest_27 rfl rfl ?_
        refine ax_goto (tgt := 32) dX10_oldest_28 (by decide) ?_
        refine ax_istore_n (i := 1) (L2 := [some (av_r a0), some (av_i a2), some (av_i a2)]) dX10_oldest_32 rfl (by decide) rfl rfl ?_
        refine ax_iinc (i := 2) (v := (a2 + (1))) (L2 := [some (av_r a0), some (av_i a2), some (av_i (a2 + (1)))]) dX10_oldest_33 rfl rfl (by decide) rfl rfl ?_
        refine ax_goto (tgt := 4) dX10_oldest_36 (by decide) ?_
        exact ax_less (L' := [(some (av_r a0)), (some (av_i a2)), (some (av_i (a2 + (1))))]) ⟨rfl, rfl, rfl, trivial⟩ (ih _ _ _ _ h)
def fn_X10_oldest (a0 : Option Nat) (s : ax_S) : Option (Int32 × ax_S) :=
  fb_X10_oldest_4 10000 a0 (0) (1) s
set_option maxRecDepth 100000 in
set_option maxHeartbeats 4000000 in
theorem tw_X10_oldest {q : Int32 × ax_S} {a0 : Option Nat} {s : ax_S} (h : fn_X10_oldest a0 s = some q) : AW mm_X10_oldest 0 0 0 0 [some (av_r a0), none, none] [] s (some (av_i q.1), q.2) := by
  unfold fn_X10_oldest at h
  refine ax_iconst (v := (0)) dX10_oldest_0 rfl ?_
  refine ax_istore_n (i := 1) (L2 := [some (av_r a0), some (av_i (0)), none]) dX10_oldest_1 rfl (by decide) rfl rfl ?_
  refine ax_iconst (v := (1)) dX10_oldest_2 rfl ?_
  refine ax_istore_n (i := 2) (L2 := [some (av_r a0), some (av_i (0)), some (av_i (1))]) dX10_oldest_3 rfl (by decide) rfl rfl ?_
  exact ax_less (L' := [(some (av_r a0)), (some (av_i (0))), (some (av_i (1)))]) ⟨rfl, rfl, rfl, trivial⟩ (tb_X10_oldest_4  _ _ _ _ _ h)
set_option maxRecDepth 100000 in
set_option maxHeartbeats 4000000 in
theorem th_X10_oldest {q : Int32 × ax_S} {a0 : Option Nat} {s : ax_S} (h : fn_X10_oldest a0 s = some q) : AC mm_X10_oldest yX10_oldest 0 0 0 [av_r a0] s (some (av_i q.1), q.2) := by
  exact ax_met (L0 := [some (av_r a0), none, none]) (by decide +kernel) rfl (fun h => absurd h (by decide)) ⟨rfl, trivial⟩ (Nat.le_of_ble_eq_true rfl) trivial (tw_X10_oldest h)
/-! X10_drops -/
abbrev mm_X10_drops : ax_M := (RX10, cX10_drops, none, 3, false)
def fb_X10_drops_57 : Nat → Option Nat → Int32 → Int32 → ax_S → Option (ax_S)
  | 0, _, _, _, _ => none
  | n + 1, a0, a1, a2, s =>
    if (96) ≤ a2 then
      some s
    else
      (ax_gr s 7 8 a0).bind fun r2 =>
      (ax_gr s 7 8 a0).bind fun r3 =>
      (ax_gi s 7 4 a0).bind fun x4 =>
      (ax_al s 9 r3 (((96) * x4) + a2)).bind fun x5 =>
      (ax_as s 9 r2 (((96) * a1) + a2) x5).bind fun s6 =>
      (fb_X10_drops_57 n) a0 a1 (a2 + (1)) s6
set_option maxRecDepth 100000 in
set_option maxHeartbeats 4000000 in
theorem tb_X10_drops_57 {q : ax_S} : ∀ (n : Nat) (a0 : Option Nat) (a1 : Int32) (a2 : Int32) (s : ax_S) (h : fb_X10_drops_57 n a0 a1 a2 s = some q), AW mm_X10_drops 0 0 0 57 [(some (av_r a0)), (some (av_i a1)), (some (av_i a2))] [] s (none, q) := by
  intro n
  induction n with
  | zero =>
    intro a0 a1 a2 s h
    exact ax_no h
  | succ n ih =>
    intro a0 a1 a2 s h
    unfold fb_X10_drops_57 at h
    refine ax_iload_n (i := 2) dX10_drops_57 rfl rfl ?_
    refine ax_bipush (v := (96)) dX10_drops_58 rfl ?_
    refine ax_icmp_ge (tgt := 94) dX10_drops_60 (by decide) (fun c1 => ?_) (fun c1 => ?_)
    · rw [if_pos c1] at h
      exact ax_retv dX10_drops_94 h
    · rw [if_neg c1] at h
      refine ax_aload_n (i := 0) dX10_drops_63 rfl rfl ?_
      obtain ⟨r2, gr2, h⟩ := Option.bind_eq_some_iff.mp h
      refine ax_getR (q := (RX10, TX10, 28)) (t := 7) (k := 8) dX10_drops_64 rfl (by decide) wd_764 rfl gr2 ?_
      refine ax_bipush (v := (96)) dX10_drops_67 rfl ?_
      refine ax_iload_n (i := 1) dX10_drops_69 rfl rfl ?_
      refine ax_imul dX10_drops_70 ?_
      refine ax_iload_n (i := 2) dX10_drops_71 rfl rfl ?_
      refine ax_iadd dX10_drops_72 ?_
      refine ax_aload_n (i := 0) dX10_drops_73 rfl rfl ?_
      obtain ⟨r3, gr3, h⟩ := Option.bind_eq_some_iff.mp h
      refine ax_getR (q := (RX10, TX10, 28)) (t := 7) (k := 8) dX10_drops_74 rfl (by decide) wd_764 rfl gr3 ?_
      refine ax_bipush (v := (96)) dX10_drops_77 rfl ?_
      refine ax_aload_n (i := 0) dX10_drops_79 rfl rfl ?_
      obtain ⟨x4, gx4, h⟩ := Option.bind_eq_some_iff.mp h
      refine ax_getI (q := (RX10, TX10, 28)) (t := 7) (k := 4) dX10_drops_80 rfl (by decide) wd_760 rfl gx4 ?_
      refine ax_imul dX10_drops_83 ?_
      refine ax_iload_n (i := 2) dX10_drops_84 rfl rfl ?_
      refine ax_iadd dX10_drops_85 ?_
      obtain ⟨x5, gx5, h⟩ := Option.bind_eq_some_iff.mp h
      refine ax_iald dX10_drops_86 gx5 ?_
      obtain ⟨s6, gs6, h⟩ := Option.bind_eq_some_iff.mp h
      refine ax_iast dX10_drops_87 gs6 ?_
      refine ax_iinc (i := 2) (v := (a2 + (1))) (L2 := [some (av_r a0), some (av_i a1), some (av_i (a2 + (1)))]) dX10_drops_88 rfl rfl (by decide) rfl rfl ?_
      refine ax_goto (tgt := 57) dX10_drops_91 (by decide) ?_
      exact ax_less (L' := [(some (av_r a0)), (some (av_i a1)), (some (av_i (a2 + (1))))]) ⟨rfl, rfl, rfl, trivial⟩ (ih _ _ _ _ h)
def fn_X10_drops (a0 : Option Nat) (a1 : Int32) (s : ax_S) : Option (ax_S) :=
  (ax_gi s 7 4 a0).bind fun x7 =>
  (ax_pi s 7 4 a0 (x7 - (1))).bind fun s8 =>
  (ax_gr s8 7 5 a0).bind fun r9 =>
  (ax_gr s8 7 5 a0).bind fun r10 =>
  (ax_gi s8 7 4 a0).bind fun x11 =>
  (ax_al s8 9 r10 x11).bind fun x12 =>
  (ax_as s8 9 r9 a1 x12).bind fun s13 =>
  (ax_gr s13 7 6 a0).bind fun r14 =>
  (ax_gr s13 7 6 a0).bind fun r15 =>
  (ax_gi s13 7 4 a0).bind fun x16 =>
  (ax_al s13 9 r15 x16).bind fun x17 =>
  (ax_as s13 9 r14 a1 x17).bind fun s18 =>
  (ax_gr s18 7 7 a0).bind fun r19 =>
  (ax_gr s18 7 7 a0).bind fun r20 =>
  (ax_gi s18 7 4 a0).bind fun x21 =>
  (ax_al s18 9 r20 x21).bind fun x22 =>
  (ax_as s18 9 r19 a1 x22).bind fun s23 =>
  fb_X10_drops_57 10000 a0 a1 (0) s23
set_option maxRecDepth 100000 in
set_option maxHeartbeats 4000000 in
theorem tw_X10_drops {q : ax_S} {a0 : Option Nat} {a1 : Int32} {s : ax_S} (h : fn_X10_drops a0 a1 s = some q) : AW mm_X10_drops 0 0 0 0 [some (av_r a0), some (av_i a1), none] [] s (none, q) := by
  unfold fn_X10_drops at h
  refine ax_aload_n (i := 0) dX10_drops_0 rfl rfl ?_
  refine ax_dup dX10_drops_1 trivial ?_
  obtain ⟨x7, gx7, h⟩ := Option.bind_eq_some_iff.mp h
  refine ax_getI (q := (RX10, TX10, 28)) (t := 7) (k := 4) dX10_drops_2 rfl (by decide) wd_760 rfl gx7 ?_
  refine ax_iconst (v := (1)) dX10_drops_5 rfl ?_
  refine ax_isub dX10_drops_6 ?_
  obtain ⟨s8, gs8, h⟩ := Option.bind_eq_some_iff.mp h
  refine ax_putI (q := (RX10, TX10, 28)) (t := 7) (k := 4) dX10_drops_7 rfl (by decide) wd_760 rfl rfl ⟨rfl, rfl⟩ gs8 ?_
  refine ax_aload_n (i := 0) dX10_drops_10 rfl rfl ?_
  obtain ⟨r9, gr9, h⟩ := Option.bind_eq_some_iff.mp h
  refine ax_getR (q := (RX10, TX10, 28)) (t := 7) (k := 5) dX10_drops_11 rfl (by decide) wd_761 rfl gr9 ?_
  refine ax_iload_n (i := 1) dX10_drops_14 rfl rfl ?_
  refine ax_aload_n (i := 0) dX10_drops_15 rfl rfl ?_
  obtain ⟨r10, gr10, h⟩ := Option.bind_eq_some_iff.mp h
  refine ax_getR (q := (RX10, TX10, 28)) (t := 7) (k := 5) dX10_drops_16 rfl (by decide) wd_761 rfl gr10 ?_
  refine ax_aload_n (i := 0) dX10_drops_19 rfl rfl ?_
  obtain ⟨x11, gx11, h⟩ := Option.bind_eq_some_iff.mp h
  refine ax_getI (q := (RX10, TX10, 28)) (t := 7) (k := 4) dX10_drops_20 rfl (by decide) wd_760 rfl gx11 ?_
  obtain ⟨x12, gx12, h⟩ := Option.bind_eq_some_iff.mp h
  refine ax_iald dX10_drops_23 gx12 ?_
  obtain ⟨s13, gs13, h⟩ := Option.bind_eq_some_iff.mp h
  refine ax_iast dX10_drops_24 gs13 ?_
  refine ax_aload_n (i := 0) dX10_drops_25 rfl rfl ?_
  obtain ⟨r14, gr14, h⟩ := Option.bind_eq_some_iff.mp h
  refine ax_getR (q := (RX10, TX10, 28)) (t := 7) (k := 6) dX10_drops_26 rfl (by decide) wd_762 rfl gr14 ?_
  refine ax_iload_n (i := 1) dX10_drops_29 rfl rfl ?_
  refine ax_aload_n (i := 0) dX10_drops_30 rfl rfl ?_
  obtain ⟨r15, gr15, h⟩ := Option.bind_eq_some_iff.mp h
  refine ax_getR (q := (RX10, TX10, 28)) (t := 7) (k := 6) dX10_drops_31 rfl (by decide) wd_762 rfl gr15 ?_
  refine ax_aload_n (i := 0) dX10_drops_34 rfl rfl ?_
  obtain ⟨x16, gx16, h⟩ := Option.bind_eq_some_iff.mp h
  refine ax_getI (q := (RX10, TX10, 28)) (t := 7) (k := 4) dX10_drops_35 rfl (by decide) wd_760 rfl gx16 ?_
  obtain ⟨x17, gx17, h⟩ := Option.bind_eq_some_iff.mp h
  refine ax_iald dX10_drops_38 gx17 ?_
  obtain ⟨s18, gs18, h⟩ := Option.bind_eq_some_iff.mp h
  refine ax_iast dX10_drops_39 gs18 ?_
  refine ax_aload_n (i := 0) dX10_drops_40 rfl rfl ?_
  obtain ⟨r19, gr19, h⟩ := Option.bind_eq_some_iff.mp h
  refine ax_getR (q := (RX10, TX10, 28)) (t := 7) (k := 7) dX10_drops_41 rfl (by decide) wd_763 rfl gr19 ?_
  refine ax_iload_n (i := 1) dX10_drops_44 rfl rfl ?_
  refine ax_aload_n (i := 0) dX10_drops_45 rfl rfl ?_
  obtain ⟨r20, gr20, h⟩ := Option.bind_eq_some_iff.mp h
  refine ax_getR (q := (RX10, TX10, 28)) (t := 7) (k := 7) dX10_drops_46 rfl (by decide) wd_763 rfl gr20 ?_
  refine ax_aload_n (i := 0) dX10_drops_49 rfl rfl ?_
  obtain ⟨x21, gx21, h⟩ := Option.bind_eq_some_iff.mp h
  refine ax_getI (q := (RX10, TX10, 28)) (t := 7) (k := 4) dX10_drops_50 rfl (by decide) wd_760 rfl gx21 ?_
  obtain ⟨x22, gx22, h⟩ := Option.bind_eq_some_iff.mp h
  refine ax_iald dX10_drops_53 gx22 ?_
  obtain ⟨s23, gs23, h⟩ := Option.bind_eq_some_iff.mp h
  refine ax_iast dX10_drops_54 gs23 ?_
  refine ax_iconst (v := (0)) dX10_drops_55 rfl ?_
  refine ax_istore_n (i := 2) (L2 := [some (av_r a0), some (av_i a1), some (av_i (0))]) dX10_drops_56 rfl (by decide) rfl rfl ?_
  exact ax_less (L' := [(some (av_r a0)), (some (av_i a1)), (some (av_i (0)))]) ⟨rfl, rfl, rfl, trivial⟩ (tb_X10_drops_57  _ _ _ _ _ h)
set_option maxRecDepth 100000 in
set_option maxHeartbeats 4000000 in
theorem th_X10_drops {q : ax_S} {a0 : Option Nat} {a1 : Int32} {s : ax_S} (h : fn_X10_drops a0 a1 s = some q) : AC mm_X10_drops yX10_drops 0 0 0 [av_r a0, av_i a1] s (none, q) := by
  exact ax_met (L0 := [some (av_r a0), some (av_i a1), none]) (by decide +kernel) rfl (fun h => absurd h (by decide)) ⟨rfl, rfl, trivial⟩ (Nat.le_of_ble_eq_true rfl) trivial (tw_X10_drops h)
/-! X10_makesRoom -/
abbrev mm_X10_makesRoom : ax_M := (RX10, cX10_makesRoom, none, 2, false)
def fb_X10_makesRoom_0 : Nat → Option Nat → Int32 → ax_S → Option (ax_S)
  | 0, _, _, _ => none
  | n + 1, a0, a1, s =>
    (ax_gi s 7 4 a0).bind fun x1 =>
    if x1 ≤ a1 then
      some s
    else
      (ax_sh s 7 a0).bind fun w3 =>
      (fn_X10_oldest a0 s).bind fun q4 =>
      (ax_sh q4.2 7 a0).bind fun w5 =>
      (fn_X10_drops a0 q4.1 q4.2).bind fun q6 =>
      (ax_gr q6 7 10 a0).bind fun r7 =>
      (ax_al q6 9 r7 (3)).bind fun x8 =>
      (ax_as q6 9 r7 (3) (x8 + (1))).bind fun s9 =>
      (fb_X10_makesRoom_0 n) a0 a1 s9
set_option maxRecDepth 100000 in
set_option maxHeartbeats 4000000 in
theorem tb_X10_makesRoom_0 {q : ax_S} : ∀ (n : Nat) (a0 : Option Nat) (a1 : Int32) (s : ax_S) (h : fb_X10_makesRoom_0 n a0 a1 s = some q), AW mm_X10_makesRoom 1 0 0 0 [(some (av_r a0)), (some (av_i a1))] [] s (none, q) := by
  intro n
  induction n with
  | zero =>
    intro a0 a1 s h
    exact ax_no h
  | succ n ih =>
    intro a0 a1 s h
    unfold fb_X10_makesRoom_0 at h
    refine ax_aload_n (i := 0) dX10_makesRoom_0 rfl rfl ?_
    obtain ⟨x1, gx1, h⟩ := Option.bind_eq_some_iff.mp h
    refine ax_getI (q := (RX10, TX10, 28)) (t := 7) (k := 4) dX10_makesRoom_1 rfl (by decide) wd_760 rfl gx1 ?_
    refine ax_iload_n (i := 1) dX10_makesRoom_4 rfl rfl ?_
    refine ax_icmp_le (tgt := 29) dX10_makesRoom_5 (by decide) (fun c2 => ?_) (fun c2 => ?_)
    · rw [if_pos c2] at h
      exact ax_retv dX10_makesRoom_29 h
    · rw [if_neg c2] at h
      refine ax_aload_n (i := 0) dX10_makesRoom_8 rfl rfl ?_
      refine ax_aload_n (i := 0) dX10_makesRoom_9 rfl rfl ?_
      obtain ⟨w3, gw3, h⟩ := Option.bind_eq_some_iff.mp h
      obtain ⟨q4, gq4, h⟩ := Option.bind_eq_some_iff.mp h
      refine ax_cV (As := []) (t := 7) dX10_makesRoom_10 gw3 (th_X10_oldest gq4) rfl (And.intro wd_982 wd_59) wd_979 wd_981 wd_36 cy_X10_oldest (by omega) (by decide) (Nat.le_of_ble_eq_true rfl) rfl ?_
      obtain ⟨w5, gw5, h⟩ := Option.bind_eq_some_iff.mp h
      obtain ⟨q6, gq6, h⟩ := Option.bind_eq_some_iff.mp h
      refine ax_cV (As := [av_i q4.1]) (t := 7) dX10_makesRoom_13 gw5 (th_X10_drops gq6) rfl (And.intro wd_889 wd_59) wd_886 wd_888 wd_22 cy_X10_drops (by omega) (by decide) (Nat.le_of_ble_eq_true rfl) rfl ?_
      refine ax_aload_n (i := 0) dX10_makesRoom_16 rfl rfl ?_
      obtain ⟨r7, gr7, h⟩ := Option.bind_eq_some_iff.mp h
      refine ax_getR (q := (RX10, TX10, 28)) (t := 7) (k := 10) dX10_makesRoom_17 rfl (by decide) wd_766 rfl gr7 ?_
      refine ax_iconst (v := (3)) dX10_makesRoom_20 rfl ?_
      refine ax_dup2 dX10_makesRoom_21 trivial trivial ?_
      obtain ⟨x8, gx8, h⟩ := Option.bind_eq_some_iff.mp h
      refine ax_iald dX10_makesRoom_22 gx8 ?_
      refine ax_iconst (v := (1)) dX10_makesRoom_23 rfl ?_
      refine ax_iadd dX10_makesRoom_24 ?_
      obtain ⟨s9, gs9, h⟩ := Option.bind_eq_some_iff.mp h
      refine ax_iast dX10_makesRoom_25 gs9 ?_
      refine ax_goto (tgt := 0) dX10_makesRoom_26 (by decide) ?_
      exact ax_less (L' := [(some (av_r a0)), (some (av_i a1))]) ⟨rfl, rfl, trivial⟩ (ih _ _ _ h)
def fn_X10_makesRoom (a0 : Option Nat) (a1 : Int32) (s : ax_S) : Option (ax_S) :=
  fb_X10_makesRoom_0 10000 a0 a1 s
set_option maxRecDepth 100000 in
set_option maxHeartbeats 4000000 in
theorem tw_X10_makesRoom {q : ax_S} {a0 : Option Nat} {a1 : Int32} {s : ax_S} (h : fn_X10_makesRoom a0 a1 s = some q) : AW mm_X10_makesRoom 1 0 0 0 [some (av_r a0), some (av_i a1)] [] s (none, q) := by
  unfold fn_X10_makesRoom at h
  exact ax_less (L' := [(some (av_r a0)), (some (av_i a1))]) ⟨rfl, rfl, trivial⟩ (tb_X10_makesRoom_0  _ _ _ _ h)
set_option maxRecDepth 100000 in
set_option maxHeartbeats 4000000 in
theorem th_X10_makesRoom {q : ax_S} {a0 : Option Nat} {a1 : Int32} {s : ax_S} (h : fn_X10_makesRoom a0 a1 s = some q) : AC mm_X10_makesRoom yX10_makesRoom 1 0 0 [av_r a0, av_i a1] s (none, q) := by
  exact ax_met (L0 := [some (av_r a0), some (av_i a1)]) (by decide +kernel) rfl (fun h => absurd h (by decide)) ⟨rfl, rfl, trivial⟩ (Nat.le_of_ble_eq_true rfl) trivial (tw_X10_makesRoom h)
/-! X10_setRoom -/
abbrev mm_X10_setRoom : ax_M := (RX10, cX10_setRoom, (some .int), 3, false)
def fn_X10_setRoom (a0 : Option Nat) (a1 : Int32) (s : ax_S) : Option (Int32 × ax_S) :=
  (fn_X10_in a1 (12) (48) s).bind fun q1 =>
  if q1.1 = 0 then
    some ((-1002), q1.2)
  else
    (ax_gi q1.2 7 3 a0).bind fun x3 =>
    (ax_pi q1.2 7 3 a0 a1).bind fun s4 =>
    (ax_sh s4 7 a0).bind fun w5 =>
    (fn_X10_makesRoom a0 a1 s4).bind fun q6 =>
    some (x3, q6)
set_option maxRecDepth 100000 in
set_option maxHeartbeats 4000000 in
theorem tw_X10_setRoom {q : Int32 × ax_S} {a0 : Option Nat} {a1 : Int32} {s : ax_S} (h : fn_X10_setRoom a0 a1 s = some q) : AW mm_X10_setRoom 2 0 0 0 [some (av_r a0), some (av_i a1), none] [] s (some (av_i q.1), q.2) := by
  unfold fn_X10_setRoom at h
  refine ax_iload_n (i := 1) dX10_setRoom_0 rfl rfl ?_
  refine ax_bipush (v := (12)) dX10_setRoom_1 rfl ?_
  refine ax_bipush (v := (48)) dX10_setRoom_3 rfl ?_
  obtain ⟨q1, gq1, h⟩ := Option.bind_eq_some_iff.mp h
  refine ax_cS (As := [av_i a1, av_i (12), av_i (48)]) dX10_setRoom_5 (th_X10_in gq1) (And.intro wd_851 wd_59) wd_849 wd_850 cy_X10_in (by omega) (by decide) (Nat.le_of_ble_eq_true rfl) rfl ?_
  refine ax_if_ne (tgt := 15) dX10_setRoom_8 (by decide) (fun c2 => ?_) (fun c2 => ?_)
  · rw [if_neg c2] at h
    refine ax_aload_n (i := 0) dX10_setRoom_15 rfl rfl ?_
    obtain ⟨x3, gx3, h⟩ := Option.bind_eq_some_iff.mp h
    refine ax_getI (q := (RX10, TX10, 28)) (t := 7) (k := 3) dX10_setRoom_16 rfl (by decide) wd_759 rfl gx3 ?_
    refine ax_istore_n (i := 2) (L2 := [some (av_r a0), some (av_i a1), some (av_i x3)]) dX10_setRoom_19 rfl (by decide) rfl rfl ?_
    refine ax_aload_n (i := 0) dX10_setRoom_20 rfl rfl ?_
    refine ax_iload_n (i := 1) dX10_setRoom_21 rfl rfl ?_
    obtain ⟨s4, gs4, h⟩ := Option.bind_eq_some_iff.mp h
    refine ax_putI (q := (RX10, TX10, 28)) (t := 7) (k := 3) dX10_setRoom_22 rfl (by decide) wd_759 rfl rfl ⟨rfl, rfl⟩ gs4 ?_
    refine ax_aload_n (i := 0) dX10_setRoom_25 rfl rfl ?_
    refine ax_iload_n (i := 1) dX10_setRoom_26 rfl rfl ?_
    obtain ⟨w5, gw5, h⟩ := Option.bind_eq_some_iff.mp h
    obtain ⟨q6, gq6, h⟩ := Option.bind_eq_some_iff.mp h
    refine ax_cV (As := [av_i a1]) (t := 7) dX10_setRoom_27 gw5 (th_X10_makesRoom gq6) rfl (And.intro wd_978 wd_59) wd_975 wd_977 wd_35 cy_X10_makesRoom (by omega) (by decide) (Nat.le_of_ble_eq_true rfl) rfl ?_
    refine ax_iload_n (i := 2) dX10_setRoom_30 rfl rfl ?_
    exact ax_reti dX10_setRoom_31 h
  · rw [if_pos c2] at h
    refine ax_sipush (v := (-1002)) dX10_setRoom_11 rfl ?_
    exact ax_reti dX10_setRoom_14 h
set_option maxRecDepth 100000 in
set_option maxHeartbeats 4000000 in
theorem th_X10_setRoom {q : Int32 × ax_S} {a0 : Option Nat} {a1 : Int32} {s : ax_S} (h : fn_X10_setRoom a0 a1 s = some q) : AC mm_X10_setRoom yX10_setRoom 2 0 0 [av_r a0, av_i a1] s (some (av_i q.1), q.2) := by
  exact ax_met (L0 := [some (av_r a0), some (av_i a1), none]) (by decide +kernel) rfl (fun h => absurd h (by decide)) ⟨rfl, rfl, trivial⟩ (Nat.le_of_ble_eq_true rfl) trivial (tw_X10_setRoom h)
/-! X10_at -/
abbrev mm_X10_at : ax_M := (RX10, cX10_at, (some .int), 2, false)
def fn_X10_at (a0 : Int32) (a1 : Int32) (s : ax_S) : Option (Int32 × ax_S) :=
  some ((((1) + ((10) * a0)) + a1), s)
set_option maxRecDepth 100000 in
set_option maxHeartbeats 4000000 in
theorem tw_X10_at {q : Int32 × ax_S} {a0 : Int32} {a1 : Int32} {s : ax_S} (h : fn_X10_at a0 a1 s = some q) : AW mm_X10_at 0 0 0 0 [some (av_i a0), some (av_i a1)] [] s (some (av_i q.1), q.2) := by
  unfold fn_X10_at at h
  refine ax_iconst (v := (1)) dX10_at_0 rfl ?_
  refine ax_bipush (v := (10)) dX10_at_1 rfl ?_
  refine ax_iload_n (i := 0) dX10_at_3 rfl rfl ?_
  refine ax_imul dX10_at_4 ?_
  refine ax_iadd dX10_at_5 ?_
  refine ax_iload_n (i := 1) dX10_at_6 rfl rfl ?_
  refine ax_iadd dX10_at_7 ?_
  exact ax_reti dX10_at_8 h
set_option maxRecDepth 100000 in
set_option maxHeartbeats 4000000 in
theorem th_X10_at {q : Int32 × ax_S} {a0 : Int32} {a1 : Int32} {s : ax_S} (h : fn_X10_at a0 a1 s = some q) : AC mm_X10_at yX10_at 0 0 0 [av_i a0, av_i a1] s (some (av_i q.1), q.2) := by
  exact ax_met (L0 := [some (av_i a0), some (av_i a1)]) (by decide +kernel) rfl (fun h => absurd h (by decide)) ⟨rfl, rfl, trivial⟩ (Nat.le_of_ble_eq_true rfl) trivial (tw_X10_at h)
/-! X10_kind -/
abbrev mm_X10_kind : ax_M := (RX10, cX10_kind, (some .int), 2, false)
def fn_X10_kind (a0 : Option Nat) (a1 : Int32) (s : ax_S) : Option (Int32 × ax_S) :=
  (ax_gr s 7 0 a0).bind fun r1 =>
  (fn_X10_at a1 (0) s).bind fun q2 =>
  (ax_al q2.2 9 r1 q2.1).bind fun x3 =>
  some (x3, q2.2)
set_option maxRecDepth 100000 in
set_option maxHeartbeats 4000000 in
theorem tw_X10_kind {q : Int32 × ax_S} {a0 : Option Nat} {a1 : Int32} {s : ax_S} (h : fn_X10_kind a0 a1 s = some q) : AW mm_X10_kind 1 0 0 0 [some (av_r a0), some (av_i a1)] [] s (some (av_i q.1), q.2) := by
  unfold fn_X10_kind at h
  refine ax_aload_n (i := 0) dX10_kind_0 rfl rfl ?_
  obtain ⟨r1, gr1, h⟩ := Option.bind_eq_some_iff.mp h
  refine ax_getR (q := (RX10, TX10, 28)) (t := 7) (k := 0) dX10_kind_1 rfl (by decide) wd_756 rfl gr1 ?_
  refine ax_iload_n (i := 1) dX10_kind_4 rfl rfl ?_
  refine ax_iconst (v := (0)) dX10_kind_5 rfl ?_
  obtain ⟨q2, gq2, h⟩ := Option.bind_eq_some_iff.mp h
  refine ax_cS (As := [av_i a1, av_i (0)]) dX10_kind_6 (th_X10_at gq2) (And.intro wd_858 wd_59) wd_856 wd_857 cy_X10_at (by omega) (by decide) (Nat.le_of_ble_eq_true rfl) rfl ?_
  obtain ⟨x3, gx3, h⟩ := Option.bind_eq_some_iff.mp h
  refine ax_iald dX10_kind_9 gx3 ?_
  exact ax_reti dX10_kind_10 h
set_option maxRecDepth 100000 in
set_option maxHeartbeats 4000000 in
theorem th_X10_kind {q : Int32 × ax_S} {a0 : Option Nat} {a1 : Int32} {s : ax_S} (h : fn_X10_kind a0 a1 s = some q) : AC mm_X10_kind yX10_kind 1 0 0 [av_r a0, av_i a1] s (some (av_i q.1), q.2) := by
  exact ax_met (L0 := [some (av_r a0), some (av_i a1)]) (by decide +kernel) rfl (fun h => absurd h (by decide)) ⟨rfl, rfl, trivial⟩ (Nat.le_of_ble_eq_true rfl) trivial (tw_X10_kind h)
/-! X10_find -/
abbrev mm_X10_find : ax_M := (RX10, cX10_find, (some .int), 4, false)
def fb_X10_find_2 : Nat → Option Nat → Int32 → Int32 → Int32 → ax_S → Option (Int32 × ax_S)
  | 0, _, _, _, _, _ => none
  | n + 1, a0, a1, a2, a3, s =>
    (ax_gi s 7 4 a0).bind fun x1 =>
    if x1 ≤ a3 then
      some ((-1), s)
    else
      (ax_gr s 7 5 a0).bind fun r3 =>
      (ax_al s 9 r3 a3).bind fun x4 =>
      if x4 = a1 then
        (ax_gr s 7 6 a0).bind fun r6 =>
        (ax_al s 9 r6 a3).bind fun x7 =>
        if x7 = a2 then
          some (a3, s)
        else
          (fb_X10_find_2 n) a0 a1 a2 (a3 + (1)) s
      else
        (fb_X10_find_2 n) a0 a1 a2 (a3 + (1)) s
set_option maxRecDepth 100000 in
set_option maxHeartbeats 4000000 in
theorem tb_X10_find_2 {q : Int32 × ax_S} : ∀ (n : Nat) (a0 : Option Nat) (a1 : Int32) (a2 : Int32) (a3 : Int32) (s : ax_S) (h : fb_X10_find_2 n a0 a1 a2 a3 s = some q), AW mm_X10_find 0 0 0 2 [(some (av_r a0)), (some (av_i a1)), (some (av_i a2)), (some (av_i a3))] [] s (some (av_i q.1), q.2) := by
  intro n
  induction n with
  | zero =>
    intro a0 a1 a2 a3 s h
    exact ax_no h
  | succ n ih =>
    intro a0 a1 a2 a3 s h
    unfold fb_X10_find_2 at h
    refine ax_iload_n (i := 3) dX10_find_2 rfl rfl ?_
    refine ax_aload_n (i := 0) dX10_find_3 rfl rfl ?_
    obtain ⟨x1, gx1, h⟩ := Option.bind_eq_some_iff.mp h
    refine ax_getI (q := (RX10, TX10, 28)) (t := 7) (k := 4) dX10_find_4 rfl (by decide) wd_760 rfl gx1 ?_
    refine ax_icmp_ge (tgt := 38) dX10_find_7 (by decide) (fun c2 => ?_) (fun c2 => ?_)
    · rw [if_pos c2] at h
      refine ax_iconst (v := (-1)) dX10_find_38 rfl ?_
      exact ax_reti dX10_find_39 h
    · rw [if_neg c2] at h
      refine ax_aload_n (i := 0) dX10_find_10 rfl rfl ?_
      obtain ⟨r3, gr3, h⟩ := Option.bind_eq_some_iff.mp h
      refine ax_getR (q := (RX10, TX10, 28)) (t := 7) (k := 5) dX10_find_11 rfl (by decide) wd_761 rfl gr3 ?_
      refine ax_iload_n (i := 3) dX10_find_14 rfl rfl ?_
      obtain ⟨x4, gx4, h⟩ := Option.bind_eq_some_iff.mp h
      refine ax_iald dX10_find_15 gx4 ?_
      refine ax_iload_n (i := 1) dX10_find_16 rfl rfl ?_
      refine ax_icmp_ne (tgt := 32) dX10_find_17 (by decide) (fun c5 => ?_) (fun c5 => ?_)
      · rw [if_neg c5] at h
        refine ax_iinc (i := 3) (v := (a3 + (1))) (L2 := [some (av_r a0), some (av_i a1), some (av_i a2), some (av_i (a3 + (1)))]) dX10_find_32 rfl rfl (by decide) rfl rfl ?_
        refine ax_goto (tgt := 2) dX10_find_35 (by decide) ?_
        exact ax_less (L' := [(some (av_r a0)), (some (av_i a1)), (some (av_i a2)), (some (av_i (a3 + (1))))]) ⟨rfl, rfl, rfl, rfl, trivial⟩ (ih _ _ _ _ _ h)
      · rw [if_pos c5] at h
        refine ax_aload_n (i := 0) dX10_find_20 rfl rfl ?_
        obtain ⟨r6, gr6, h⟩ := Option.bind_eq_some_iff.mp h
        refine ax_getR (q := (RX10, TX10, 28)) (t := 7) (k := 6) dX10_find_21 rfl (by decide) wd_762 rfl gr6 ?_
        refine ax_iload_n (i := 3) dX10_find_24 rfl rfl ?_
        obtain ⟨x7, gx7, h⟩ := Option.bind_eq_some_iff.mp h
        refine ax_iald dX10_find_25 gx7 ?_
        refine ax_iload_n (i := 2) dX10_find_26 rfl rfl ?_
        refine ax_icmp_ne (tgt := 32) dX10_find_27 (by decide) (fun c8 => ?_) (fun c8 => ?_)
        · rw [if_neg c8] at h
          refine ax_iinc (i := 3) (v := (a3 + (1))) (L2 := [some (av_r a0), some (av_i a1), some (av_i a2), some (av_i (a3 + (1)))]) dX10_find_32 rfl rfl (by decide) rfl rfl ?_
          refine ax_goto (tgt := 2) dX10_find_35 (by decide) ?_
          exact ax_less (L' := [(some (av_r a0)), (some (av_i a1)), (some (av_i a2)), (some (av_i (a3 + (1))))]) ⟨rfl, rfl, rfl, rfl, trivial⟩ (ih _ _ _ _ _ h)
        · rw [if_pos c8] at h
          refine ax_iload_n (i := 3) dX10_find_30 rfl rfl ?_
          exact ax_reti dX10_find_31 h
def fn_X10_find (a0 : Option Nat) (a1 : Int32) (a2 : Int32) (s : ax_S) : Option (Int32 × ax_S) :=
  fb_X10_find_2 10000 a0 a1 a2 (0) s
set_option maxRecDepth 100000 in
set_option maxHeartbeats 4000000 in
theorem tw_X10_find {q : Int32 × ax_S} {a0 : Option Nat} {a1 : Int32} {a2 : Int32} {s : ax_S} (h : fn_X10_find a0 a1 a2 s = some q) : AW mm_X10_find 0 0 0 0 [some (av_r a0), some (av_i a1), some (av_i a2), none] [] s (some (av_i q.1), q.2) := by
  unfold fn_X10_find at h
  refine ax_iconst (v := (0)) dX10_find_0 rfl ?_
  refine ax_istore_n (i := 3) (L2 := [some (av_r a0), some (av_i a1), some (av_i a2), some (av_i (0))]) dX10_find_1 rfl (by decide) rfl rfl ?_
  exact ax_less (L' := [(some (av_r a0)), (some (av_i a1)), (some (av_i a2)), (some (av_i (0)))]) ⟨rfl, rfl, rfl, rfl, trivial⟩ (tb_X10_find_2  _ _ _ _ _ _ h)
set_option maxRecDepth 100000 in
set_option maxHeartbeats 4000000 in
theorem th_X10_find {q : Int32 × ax_S} {a0 : Option Nat} {a1 : Int32} {a2 : Int32} {s : ax_S} (h : fn_X10_find a0 a1 a2 s = some q) : AC mm_X10_find yX10_find 0 0 0 [av_r a0, av_i a1, av_i a2] s (some (av_i q.1), q.2) := by
  exact ax_met (L0 := [some (av_r a0), some (av_i a1), some (av_i a2), none]) (by decide +kernel) rfl (fun h => absurd h (by decide)) ⟨rfl, rfl, rfl, trivial⟩ (Nat.le_of_ble_eq_true rfl) trivial (tw_X10_find h)
/-! X10_uses -/
abbrev mm_X10_uses : ax_M := (RX10, cX10_uses, none, 2, false)
def fn_X10_uses (a0 : Option Nat) (a1 : Int32) (s : ax_S) : Option (ax_S) :=
  (ax_gi s 7 9 a0).bind fun x1 =>
  (ax_pi s 7 9 a0 (x1 + (1))).bind fun s2 =>
  (ax_gr s2 7 7 a0).bind fun r3 =>
  (ax_gi s2 7 9 a0).bind fun x4 =>
  (ax_as s2 9 r3 a1 x4).bind fun s5 =>
  some s5
set_option maxRecDepth 100000 in
set_option maxHeartbeats 4000000 in
theorem tw_X10_uses {q : ax_S} {a0 : Option Nat} {a1 : Int32} {s : ax_S} (h : fn_X10_uses a0 a1 s = some q) : AW mm_X10_uses 0 0 0 0 [some (av_r a0), some (av_i a1)] [] s (none, q) := by
  unfold fn_X10_uses at h
  refine ax_aload_n (i := 0) dX10_uses_0 rfl rfl ?_
  refine ax_dup dX10_uses_1 trivial ?_
  obtain ⟨x1, gx1, h⟩ := Option.bind_eq_some_iff.mp h
  refine ax_getI (q := (RX10, TX10, 28)) (t := 7) (k := 9) dX10_uses_2 rfl (by decide) wd_765 rfl gx1 ?_
  refine ax_iconst (v := (1)) dX10_uses_5 rfl ?_
  refine ax_iadd dX10_uses_6 ?_
  obtain ⟨s2, gs2, h⟩ := Option.bind_eq_some_iff.mp h
  refine ax_putI (q := (RX10, TX10, 28)) (t := 7) (k := 9) dX10_uses_7 rfl (by decide) wd_765 rfl rfl ⟨rfl, rfl⟩ gs2 ?_
  refine ax_aload_n (i := 0) dX10_uses_10 rfl rfl ?_
  obtain ⟨r3, gr3, h⟩ := Option.bind_eq_some_iff.mp h
  refine ax_getR (q := (RX10, TX10, 28)) (t := 7) (k := 7) dX10_uses_11 rfl (by decide) wd_763 rfl gr3 ?_
  refine ax_iload_n (i := 1) dX10_uses_14 rfl rfl ?_
  refine ax_aload_n (i := 0) dX10_uses_15 rfl rfl ?_
  obtain ⟨x4, gx4, h⟩ := Option.bind_eq_some_iff.mp h
  refine ax_getI (q := (RX10, TX10, 28)) (t := 7) (k := 9) dX10_uses_16 rfl (by decide) wd_765 rfl gx4 ?_
  obtain ⟨s5, gs5, h⟩ := Option.bind_eq_some_iff.mp h
  refine ax_iast dX10_uses_19 gs5 ?_
  exact ax_retv dX10_uses_20 h
set_option maxRecDepth 100000 in
set_option maxHeartbeats 4000000 in
theorem th_X10_uses {q : ax_S} {a0 : Option Nat} {a1 : Int32} {s : ax_S} (h : fn_X10_uses a0 a1 s = some q) : AC mm_X10_uses yX10_uses 0 0 0 [av_r a0, av_i a1] s (none, q) := by
  exact ax_met (L0 := [some (av_r a0), some (av_i a1)]) (by decide +kernel) rfl (fun h => absurd h (by decide)) ⟨rfl, rfl, trivial⟩ (Nat.le_of_ble_eq_true rfl) trivial (tw_X10_uses h)
/-! X10_asks -/
abbrev mm_X10_asks : ax_M := (RX10, cX10_asks, none, 4, false)
def fn_X10_asks (a0 : Option Nat) (a1 : Int32) (a2 : Int32) (s : ax_S) : Option (ax_S) :=
  (ax_sh s 7 a0).bind fun w1 =>
  (fn_X10_find a0 a1 a2 s).bind fun q2 =>
  if q2.1 < 0 then
    (ax_gr q2.2 7 10 a0).bind fun r4 =>
    (ax_al q2.2 9 r4 (2)).bind fun x5 =>
    (ax_as q2.2 9 r4 (2) (x5 + (1))).bind fun s6 =>
    (ax_gr s6 7 16 a0).bind fun r7 =>
    (ax_gi s6 7 18 a0).bind fun x8 =>
    (ax_as s6 9 r7 x8 a1).bind fun s9 =>
    (ax_gr s9 7 17 a0).bind fun r10 =>
    (ax_gi s9 7 18 a0).bind fun x11 =>
    (ax_as s9 9 r10 x11 (0)).bind fun s12 =>
    (ax_gi s12 7 18 a0).bind fun x13 =>
    (ax_pi s12 7 18 a0 (x13 + (1))).bind fun s14 =>
    some s14
  else
    (ax_gr q2.2 7 10 a0).bind fun r15 =>
    (ax_al q2.2 9 r15 (1)).bind fun x16 =>
    (ax_as q2.2 9 r15 (1) (x16 + (1))).bind fun s17 =>
    (ax_sh s17 7 a0).bind fun w18 =>
    (fn_X10_uses a0 q2.1 s17).bind fun q19 =>
    some q19
set_option maxRecDepth 100000 in
set_option maxHeartbeats 4000000 in
theorem tw_X10_asks {q : ax_S} {a0 : Option Nat} {a1 : Int32} {a2 : Int32} {s : ax_S} (h : fn_X10_asks a0 a1 a2 s = some q) : AW mm_X10_asks 1 0 0 0 [some (av_r a0), some (av_i a1), some (av_i a2), none] [] s (none, q) := by
  unfold fn_X10_asks at h
  refine ax_aload_n (i := 0) dX10_asks_0 rfl rfl ?_
  refine ax_iload_n (i := 1) dX10_asks_1 rfl rfl ?_
  refine ax_iload_n (i := 2) dX10_asks_2 rfl rfl ?_
  obtain ⟨w1, gw1, h⟩ := Option.bind_eq_some_iff.mp h
  obtain ⟨q2, gq2, h⟩ := Option.bind_eq_some_iff.mp h
  refine ax_cV (As := [av_i a1, av_i a2]) (t := 7) dX10_asks_3 gw1 (th_X10_find gq2) rfl (And.intro wd_962 wd_59) wd_959 wd_961 wd_31 cy_X10_find (by omega) (by decide) (Nat.le_of_ble_eq_true rfl) rfl ?_
  refine ax_istore_n (i := 3) (L2 := [some (av_r a0), some (av_i a1), some (av_i a2), some (av_i q2.1)]) dX10_asks_6 rfl (by decide) rfl rfl ?_
  refine ax_iload_n (i := 3) dX10_asks_7 rfl rfl ?_
  refine ax_if_lt (tgt := 29) dX10_asks_8 (by decide) (fun c3 => ?_) (fun c3 => ?_)
  · rw [if_pos c3] at h
    refine ax_aload_n (i := 0) dX10_asks_29 rfl rfl ?_
    obtain ⟨r4, gr4, h⟩ := Option.bind_eq_some_iff.mp h
    refine ax_getR (q := (RX10, TX10, 28)) (t := 7) (k := 10) dX10_asks_30 rfl (by decide) wd_766 rfl gr4 ?_
    refine ax_iconst (v := (2)) dX10_asks_33 rfl ?_
    refine ax_dup2 dX10_asks_34 trivial trivial ?_
    obtain ⟨x5, gx5, h⟩ := Option.bind_eq_some_iff.mp h
    refine ax_iald dX10_asks_35 gx5 ?_
    refine ax_iconst (v := (1)) dX10_asks_36 rfl ?_
    refine ax_iadd dX10_asks_37 ?_
    obtain ⟨s6, gs6, h⟩ := Option.bind_eq_some_iff.mp h
    refine ax_iast dX10_asks_38 gs6 ?_
    refine ax_aload_n (i := 0) dX10_asks_39 rfl rfl ?_
    obtain ⟨r7, gr7, h⟩ := Option.bind_eq_some_iff.mp h
    refine ax_getR (q := (RX10, TX10, 28)) (t := 7) (k := 16) dX10_asks_40 rfl (by decide) wd_772 rfl gr7 ?_
    refine ax_aload_n (i := 0) dX10_asks_43 rfl rfl ?_
    obtain ⟨x8, gx8, h⟩ := Option.bind_eq_some_iff.mp h
    refine ax_getI (q := (RX10, TX10, 28)) (t := 7) (k := 18) dX10_asks_44 rfl (by decide) wd_774 rfl gx8 ?_
    refine ax_iload_n (i := 1) dX10_asks_47 rfl rfl ?_
    obtain ⟨s9, gs9, h⟩ := Option.bind_eq_some_iff.mp h
    refine ax_iast dX10_asks_48 gs9 ?_
    refine ax_aload_n (i := 0) dX10_asks_49 rfl rfl ?_
    obtain ⟨r10, gr10, h⟩ := Option.bind_eq_some_iff.mp h
    refine ax_getR (q := (RX10, TX10, 28)) (t := 7) (k := 17) dX10_asks_50 rfl (by decide) wd_773 rfl gr10 ?_
    refine ax_aload_n (i := 0) dX10_asks_53 rfl rfl ?_
    obtain ⟨x11, gx11, h⟩ := Option.bind_eq_some_iff.mp h
    refine ax_getI (q := (RX10, TX10, 28)) (t := 7) (k := 18) dX10_asks_54 rfl (by decide) wd_774 rfl gx11 ?_
    refine ax_iconst (v := (0)) dX10_asks_57 rfl ?_
    obtain ⟨s12, gs12, h⟩ := Option.bind_eq_some_iff.mp h
    refine ax_iast dX10_asks_58 gs12 ?_
    refine ax_aload_n (i := 0) dX10_asks_59 rfl rfl ?_
    refine ax_dup dX10_asks_60 trivial ?_
    obtain ⟨x13, gx13, h⟩ := Option.bind_eq_some_iff.mp h
    refine ax_getI (q := (RX10, TX10, 28)) (t := 7) (k := 18) dX10_asks_61 rfl (by decide) wd_774 rfl gx13 ?_
    refine ax_iconst (v := (1)) dX10_asks_64 rfl ?_
    refine ax_iadd dX10_asks_65 ?_
    obtain ⟨s14, gs14, h⟩ := Option.bind_eq_some_iff.mp h
    refine ax_putI (q := (RX10, TX10, 28)) (t := 7) (k := 18) dX10_asks_66 rfl (by decide) wd_774 rfl rfl ⟨rfl, rfl⟩ gs14 ?_
    exact ax_retv dX10_asks_69 h
  · rw [if_neg c3] at h
    refine ax_aload_n (i := 0) dX10_asks_11 rfl rfl ?_
    obtain ⟨r15, gr15, h⟩ := Option.bind_eq_some_iff.mp h
    refine ax_getR (q := (RX10, TX10, 28)) (t := 7) (k := 10) dX10_asks_12 rfl (by decide) wd_766 rfl gr15 ?_
    refine ax_iconst (v := (1)) dX10_asks_15 rfl ?_
    refine ax_dup2 dX10_asks_16 trivial trivial ?_
    obtain ⟨x16, gx16, h⟩ := Option.bind_eq_some_iff.mp h
    refine ax_iald dX10_asks_17 gx16 ?_
    refine ax_iconst (v := (1)) dX10_asks_18 rfl ?_
    refine ax_iadd dX10_asks_19 ?_
    obtain ⟨s17, gs17, h⟩ := Option.bind_eq_some_iff.mp h
    refine ax_iast dX10_asks_20 gs17 ?_
    refine ax_aload_n (i := 0) dX10_asks_21 rfl rfl ?_
    refine ax_iload_n (i := 3) dX10_asks_22 rfl rfl ?_
    obtain ⟨w18, gw18, h⟩ := Option.bind_eq_some_iff.mp h
    obtain ⟨q19, gq19, h⟩ := Option.bind_eq_some_iff.mp h
    refine ax_cV (As := [av_i q2.1]) (t := 7) dX10_asks_23 gw18 (th_X10_uses gq19) rfl (And.intro wd_966 wd_59) wd_963 wd_965 wd_32 cy_X10_uses (by omega) (by decide) (Nat.le_of_ble_eq_true rfl) rfl ?_
    refine ax_goto (tgt := 69) dX10_asks_26 (by decide) ?_
    exact ax_retv dX10_asks_69 h
set_option maxRecDepth 100000 in
set_option maxHeartbeats 4000000 in
theorem th_X10_asks {q : ax_S} {a0 : Option Nat} {a1 : Int32} {a2 : Int32} {s : ax_S} (h : fn_X10_asks a0 a1 a2 s = some q) : AC mm_X10_asks yX10_asks 1 0 0 [av_r a0, av_i a1, av_i a2] s (none, q) := by
  exact ax_met (L0 := [some (av_r a0), some (av_i a1), some (av_i a2), none]) (by decide +kernel) rfl (fun h => absurd h (by decide)) ⟨rfl, rfl, rfl, trivial⟩ (Nat.le_of_ble_eq_true rfl) trivial (tw_X10_asks h)
/-! X10_isInRange -/
abbrev mm_X10_isInRange : ax_M := (RX10, cX10_isInRange, (some .boolean), 3, false)
def fi_X10_isInRange (a0 : Option Nat) (a1 : Int32) (a2 : Int32) (s : ax_S) : Option (Int32 × ax_S) :=
  (ax_gr s 7 0 a0).bind fun r1 =>
  (fn_X10_at a1 (1) s).bind fun q2 =>
  (ax_al q2.2 9 r1 q2.1).bind fun x3 =>
  (ax_gr q2.2 7 0 a0).bind fun r4 =>
  (fn_X10_at a1 (2) q2.2).bind fun q5 =>
  (ax_al q5.2 9 r4 q5.1).bind fun x6 =>
  (fn_X10_in a2 x3 x6 q5.2).bind fun q7 =>
  some (q7.1, q7.2)
set_option maxRecDepth 100000 in
set_option maxHeartbeats 4000000 in
theorem tw_X10_isInRange {q : Int32 × ax_S} {a0 : Option Nat} {a1 : Int32} {a2 : Int32} {s : ax_S} (h : fi_X10_isInRange a0 a1 a2 s = some q) : AW mm_X10_isInRange 1 0 0 0 [some (av_r a0), some (av_i a1), some (av_i a2)] [] s (some (av_i q.1), q.2) := by
  unfold fi_X10_isInRange at h
  refine ax_iload_n (i := 2) dX10_isInRange_0 rfl rfl ?_
  refine ax_aload_n (i := 0) dX10_isInRange_1 rfl rfl ?_
  obtain ⟨r1, gr1, h⟩ := Option.bind_eq_some_iff.mp h
  refine ax_getR (q := (RX10, TX10, 28)) (t := 7) (k := 0) dX10_isInRange_2 rfl (by decide) wd_756 rfl gr1 ?_
  refine ax_iload_n (i := 1) dX10_isInRange_5 rfl rfl ?_
  refine ax_iconst (v := (1)) dX10_isInRange_6 rfl ?_
  obtain ⟨q2, gq2, h⟩ := Option.bind_eq_some_iff.mp h
  refine ax_cS (As := [av_i a1, av_i (1)]) dX10_isInRange_7 (th_X10_at gq2) (And.intro wd_858 wd_59) wd_856 wd_857 cy_X10_at (by omega) (by decide) (Nat.le_of_ble_eq_true rfl) rfl ?_
  obtain ⟨x3, gx3, h⟩ := Option.bind_eq_some_iff.mp h
  refine ax_iald dX10_isInRange_10 gx3 ?_
  refine ax_aload_n (i := 0) dX10_isInRange_11 rfl rfl ?_
  obtain ⟨r4, gr4, h⟩ := Option.bind_eq_some_iff.mp h
  refine ax_getR (q := (RX10, TX10, 28)) (t := 7) (k := 0) dX10_isInRange_12 rfl (by decide) wd_756 rfl gr4 ?_
  refine ax_iload_n (i := 1) dX10_isInRange_15 rfl rfl ?_
  refine ax_iconst (v := (2)) dX10_isInRange_16 rfl ?_
  obtain ⟨q5, gq5, h⟩ := Option.bind_eq_some_iff.mp h
  refine ax_cS (As := [av_i a1, av_i (2)]) dX10_isInRange_17 (th_X10_at gq5) (And.intro wd_858 wd_59) wd_856 wd_857 cy_X10_at (by omega) (by decide) (Nat.le_of_ble_eq_true rfl) rfl ?_
  obtain ⟨x6, gx6, h⟩ := Option.bind_eq_some_iff.mp h
  refine ax_iald dX10_isInRange_20 gx6 ?_
  obtain ⟨q7, gq7, h⟩ := Option.bind_eq_some_iff.mp h
  refine ax_cS (As := [av_i a2, av_i x3, av_i x6]) dX10_isInRange_21 (th_X10_in gq7) (And.intro wd_851 wd_59) wd_849 wd_850 cy_X10_in (by omega) (by decide) (Nat.le_of_ble_eq_true rfl) rfl ?_
  exact ax_reti dX10_isInRange_24 h
def fn_X10_isInRange (a0 : Option Nat) (a1 : Int32) (a2 : Int32) (s : ax_S) : Option (Int32 × ax_S) := ax_bz (fi_X10_isInRange a0 a1 a2 s)
set_option maxRecDepth 100000 in
set_option maxHeartbeats 4000000 in
theorem th_X10_isInRange {q : Int32 × ax_S} {a0 : Option Nat} {a1 : Int32} {a2 : Int32} {s : ax_S} (h : fn_X10_isInRange a0 a1 a2 s = some q) : AC mm_X10_isInRange yX10_isInRange 1 0 0 [av_r a0, av_i a1, av_i a2] s (some (av_i q.1), q.2) := by
  obtain ⟨h, hz⟩ := ax_bz_of h
  exact ax_met (L0 := [some (av_r a0), some (av_i a1), some (av_i a2)]) (by decide +kernel) rfl (fun h => absurd h (by decide)) ⟨rfl, rfl, rfl, trivial⟩ (Nat.le_of_ble_eq_true rfl) hz (tw_X10_isInRange h)
/-! X10_limit -/
abbrev mm_X10_limit : ax_M := (RX10, cX10_limit, (some .int), 1, false)
def fn_X10_limit (a0 : Int32) (s : ax_S) : Option (Int32 × ax_S) :=
  if 0 ≤ a0 then
    if a0 ≤ (255) then
      some (a0, s)
    else
      some ((255), s)
  else
    some ((0), s)
set_option maxRecDepth 100000 in
set_option maxHeartbeats 4000000 in
theorem tw_X10_limit {q : Int32 × ax_S} {a0 : Int32} {s : ax_S} (h : fn_X10_limit a0 s = some q) : AW mm_X10_limit 0 0 0 0 [some (av_i a0)] [] s (some (av_i q.1), q.2) := by
  unfold fn_X10_limit at h
  refine ax_iload_n (i := 0) dX10_limit_0 rfl rfl ?_
  refine ax_if_ge (tgt := 8) dX10_limit_1 (by decide) (fun c1 => ?_) (fun c1 => ?_)
  · rw [if_pos c1] at h
    refine ax_iload_n (i := 0) dX10_limit_8 rfl rfl ?_
    refine ax_sipush (v := (255)) dX10_limit_9 rfl ?_
    refine ax_icmp_le (tgt := 21) dX10_limit_12 (by decide) (fun c2 => ?_) (fun c2 => ?_)
    · rw [if_pos c2] at h
      refine ax_iload_n (i := 0) dX10_limit_21 rfl rfl ?_
      exact ax_reti dX10_limit_22 h
    · rw [if_neg c2] at h
      refine ax_sipush (v := (255)) dX10_limit_15 rfl ?_
      refine ax_goto (tgt := 22) dX10_limit_18 (by decide) ?_
      exact ax_reti dX10_limit_22 h
  · rw [if_neg c1] at h
    refine ax_iconst (v := (0)) dX10_limit_4 rfl ?_
    refine ax_goto (tgt := 22) dX10_limit_5 (by decide) ?_
    exact ax_reti dX10_limit_22 h
set_option maxRecDepth 100000 in
set_option maxHeartbeats 4000000 in
theorem th_X10_limit {q : Int32 × ax_S} {a0 : Int32} {s : ax_S} (h : fn_X10_limit a0 s = some q) : AC mm_X10_limit yX10_limit 0 0 0 [av_i a0] s (some (av_i q.1), q.2) := by
  exact ax_met (L0 := [some (av_i a0)]) (by decide +kernel) rfl (fun h => absurd h (by decide)) ⟨rfl, trivial⟩ (Nat.le_of_ble_eq_true rfl) trivial (tw_X10_limit h)
/-! X10_keyed -/
abbrev mm_X10_keyed : ax_M := (RX10, cX10_keyed, (some .int), 5, false)
def fb_X10_keyed_30 (a3 : Int32) (b0 : Int32) (s : ax_S) : Option (Int32 × ax_S) :=
  if b0 = 0 then
    some ((255), s)
  else
    if b0 ≤ a3 then
      (if (a3 + (1)) = 0 then none else some ()).bind fun u3 =>
      some (((255) - (((255) * b0) / (a3 + (1)))), s)
    else
      some ((0), s)
set_option maxRecDepth 100000 in
set_option maxHeartbeats 4000000 in
theorem tb_X10_keyed_30 {q : Int32 × ax_S} {a3 : Int32} {b0 : Int32} {s : ax_S} (h : fb_X10_keyed_30 a3 b0 s = some q) : AW mm_X10_keyed 0 0 0 30 [none, none, none, (some (av_i a3)), none] [av_i b0] s (some (av_i q.1), q.2) := by
  unfold fb_X10_keyed_30 at h
  refine ax_istore (i := 4) (L2 := [none, none, none, some (av_i a3), some (av_i b0)]) dX10_keyed_30 (by decide) rfl rfl ?_
  refine ax_iload (i := 4) dX10_keyed_32 rfl ?_
  refine ax_if_ne (tgt := 43) dX10_keyed_34 (by decide) (fun c1 => ?_) (fun c1 => ?_)
  · rw [if_neg c1] at h
    refine ax_iload (i := 4) dX10_keyed_43 rfl ?_
    refine ax_iload_n (i := 3) dX10_keyed_45 rfl rfl ?_
    refine ax_icmp_le (tgt := 53) dX10_keyed_46 (by decide) (fun c2 => ?_) (fun c2 => ?_)
    · rw [if_pos c2] at h
      refine ax_sipush (v := (255)) dX10_keyed_53 rfl ?_
      refine ax_sipush (v := (255)) dX10_keyed_56 rfl ?_
      refine ax_iload (i := 4) dX10_keyed_59 rfl ?_
      refine ax_imul dX10_keyed_61 ?_
      refine ax_iload_n (i := 3) dX10_keyed_62 rfl rfl ?_
      refine ax_iconst (v := (1)) dX10_keyed_63 rfl ?_
      refine ax_iadd dX10_keyed_64 ?_
      obtain ⟨u3, gu3, h⟩ := Option.bind_eq_some_iff.mp h
      refine ax_idiv dX10_keyed_65 (ax_ne_of gu3) ?_
      refine ax_isub dX10_keyed_66 ?_
      exact ax_reti dX10_keyed_67 h
    · rw [if_neg c2] at h
      refine ax_iconst (v := (0)) dX10_keyed_49 rfl ?_
      refine ax_goto (tgt := 67) dX10_keyed_50 (by decide) ?_
      exact ax_reti dX10_keyed_67 h
  · rw [if_pos c1] at h
    refine ax_sipush (v := (255)) dX10_keyed_37 rfl ?_
    refine ax_goto (tgt := 67) dX10_keyed_40 (by decide) ?_
    exact ax_reti dX10_keyed_67 h
def fn_X10_keyed (a0 : Int32) (a1 : Int32) (a2 : Int32) (a3 : Int32) (s : ax_S) : Option (Int32 × ax_S) :=
  if a1 ≤ a2 then
    if a1 ≤ a0 then
      if a0 ≤ a2 then
        fb_X10_keyed_30 a3 (0) s
      else
        fb_X10_keyed_30 a3 (a0 - a2) s
    else
      fb_X10_keyed_30 a3 (a1 - a0) s
  else
    some ((0), s)
set_option maxRecDepth 100000 in
set_option maxHeartbeats 4000000 in
theorem tw_X10_keyed {q : Int32 × ax_S} {a0 : Int32} {a1 : Int32} {a2 : Int32} {a3 : Int32} {s : ax_S} (h : fn_X10_keyed a0 a1 a2 a3 s = some q) : AW mm_X10_keyed 0 0 0 0 [some (av_i a0), some (av_i a1), some (av_i a2), some (av_i a3), none] [] s (some (av_i q.1), q.2) := by
  unfold fn_X10_keyed at h
  refine ax_iload_n (i := 1) dX10_keyed_0 rfl rfl ?_
  refine ax_iload_n (i := 2) dX10_keyed_1 rfl rfl ?_
  refine ax_icmp_le (tgt := 7) dX10_keyed_2 (by decide) (fun c4 => ?_) (fun c4 => ?_)
  · rw [if_pos c4] at h
    refine ax_iload_n (i := 0) dX10_keyed_7 rfl rfl ?_
    refine ax_iload_n (i := 1) dX10_keyed_8 rfl rfl ?_
    refine ax_icmp_ge (tgt := 18) dX10_keyed_9 (by decide) (fun c5 => ?_) (fun c5 => ?_)
    · rw [if_pos c5] at h
      refine ax_iload_n (i := 0) dX10_keyed_18 rfl rfl ?_
      refine ax_iload_n (i := 2) dX10_keyed_19 rfl rfl ?_
      refine ax_icmp_le (tgt := 29) dX10_keyed_20 (by decide) (fun c6 => ?_) (fun c6 => ?_)
      · rw [if_pos c6] at h
        refine ax_iconst (v := (0)) dX10_keyed_29 rfl ?_
        exact ax_less (L' := [none, none, none, (some (av_i a3)), none]) ⟨rfl, trivial⟩ (tb_X10_keyed_30  h)
      · rw [if_neg c6] at h
        refine ax_iload_n (i := 0) dX10_keyed_23 rfl rfl ?_
        refine ax_iload_n (i := 2) dX10_keyed_24 rfl rfl ?_
        refine ax_isub dX10_keyed_25 ?_
        refine ax_goto (tgt := 30) dX10_keyed_26 (by decide) ?_
        exact ax_less (L' := [none, none, none, (some (av_i a3)), none]) ⟨rfl, trivial⟩ (tb_X10_keyed_30  h)
    · rw [if_neg c5] at h
      refine ax_iload_n (i := 1) dX10_keyed_12 rfl rfl ?_
      refine ax_iload_n (i := 0) dX10_keyed_13 rfl rfl ?_
      refine ax_isub dX10_keyed_14 ?_
      refine ax_goto (tgt := 30) dX10_keyed_15 (by decide) ?_
      exact ax_less (L' := [none, none, none, (some (av_i a3)), none]) ⟨rfl, trivial⟩ (tb_X10_keyed_30  h)
  · rw [if_neg c4] at h
    refine ax_iconst (v := (0)) dX10_keyed_5 rfl ?_
    exact ax_reti dX10_keyed_6 h
set_option maxRecDepth 100000 in
set_option maxHeartbeats 4000000 in
theorem th_X10_keyed {q : Int32 × ax_S} {a0 : Int32} {a1 : Int32} {a2 : Int32} {a3 : Int32} {s : ax_S} (h : fn_X10_keyed a0 a1 a2 a3 s = some q) : AC mm_X10_keyed yX10_keyed 0 0 0 [av_i a0, av_i a1, av_i a2, av_i a3] s (some (av_i q.1), q.2) := by
  exact ax_met (L0 := [some (av_i a0), some (av_i a1), some (av_i a2), some (av_i a3), none]) (by decide +kernel) rfl (fun h => absurd h (by decide)) ⟨rfl, rfl, rfl, rfl, trivial⟩ (Nat.le_of_ble_eq_true rfl) trivial (tw_X10_keyed h)
/-! X10_seen -/
abbrev mm_X10_seen : ax_M := (RX10, cX10_seen, (some .int), 6, false)
def fn_X10_seen (a0 : Option Nat) (a1 : Int32) (a2 : Int32) (a3 : Int32) (a4 : Int32) (s : ax_S) : Option (Int32 × ax_S) :=
  (ax_gr s 7 0 a0).bind fun r1 =>
  (fn_X10_at a1 ((3) + a2) s).bind fun q2 =>
  (ax_al q2.2 9 r1 q2.1).bind fun x3 =>
  if 0 ≤ x3 then
    (ax_gr q2.2 7 8 a0).bind fun r5 =>
    (ax_sh q2.2 7 a0).bind fun w6 =>
    (fn_X10_find a0 x3 a3 q2.2).bind fun q7 =>
    (ax_al q7.2 9 r5 (((96) * q7.1) + a4)).bind fun x8 =>
    some (x8, q7.2)
  else
    some ((0), q2.2)
set_option maxRecDepth 100000 in
set_option maxHeartbeats 4000000 in
theorem tw_X10_seen {q : Int32 × ax_S} {a0 : Option Nat} {a1 : Int32} {a2 : Int32} {a3 : Int32} {a4 : Int32} {s : ax_S} (h : fn_X10_seen a0 a1 a2 a3 a4 s = some q) : AW mm_X10_seen 1 0 0 0 [some (av_r a0), some (av_i a1), some (av_i a2), some (av_i a3), some (av_i a4), none] [] s (some (av_i q.1), q.2) := by
  unfold fn_X10_seen at h
  refine ax_aload_n (i := 0) dX10_seen_0 rfl rfl ?_
  obtain ⟨r1, gr1, h⟩ := Option.bind_eq_some_iff.mp h
  refine ax_getR (q := (RX10, TX10, 28)) (t := 7) (k := 0) dX10_seen_1 rfl (by decide) wd_756 rfl gr1 ?_
  refine ax_iload_n (i := 1) dX10_seen_4 rfl rfl ?_
  refine ax_iconst (v := (3)) dX10_seen_5 rfl ?_
  refine ax_iload_n (i := 2) dX10_seen_6 rfl rfl ?_
  refine ax_iadd dX10_seen_7 ?_
  obtain ⟨q2, gq2, h⟩ := Option.bind_eq_some_iff.mp h
  refine ax_cS (As := [av_i a1, av_i ((3) + a2)]) dX10_seen_8 (th_X10_at gq2) (And.intro wd_858 wd_59) wd_856 wd_857 cy_X10_at (by omega) (by decide) (Nat.le_of_ble_eq_true rfl) rfl ?_
  obtain ⟨x3, gx3, h⟩ := Option.bind_eq_some_iff.mp h
  refine ax_iald dX10_seen_11 gx3 ?_
  refine ax_istore (i := 5) (L2 := [some (av_r a0), some (av_i a1), some (av_i a2), some (av_i a3), some (av_i a4), some (av_i x3)]) dX10_seen_12 (by decide) rfl rfl ?_
  refine ax_iload (i := 5) dX10_seen_14 rfl ?_
  refine ax_if_ge (tgt := 23) dX10_seen_16 (by decide) (fun c4 => ?_) (fun c4 => ?_)
  · rw [if_pos c4] at h
    refine ax_aload_n (i := 0) dX10_seen_23 rfl rfl ?_
    obtain ⟨r5, gr5, h⟩ := Option.bind_eq_some_iff.mp h
    refine ax_getR (q := (RX10, TX10, 28)) (t := 7) (k := 8) dX10_seen_24 rfl (by decide) wd_764 rfl gr5 ?_
    refine ax_bipush (v := (96)) dX10_seen_27 rfl ?_
    refine ax_aload_n (i := 0) dX10_seen_29 rfl rfl ?_
    refine ax_iload (i := 5) dX10_seen_30 rfl ?_
    refine ax_iload_n (i := 3) dX10_seen_32 rfl rfl ?_
    obtain ⟨w6, gw6, h⟩ := Option.bind_eq_some_iff.mp h
    obtain ⟨q7, gq7, h⟩ := Option.bind_eq_some_iff.mp h
    refine ax_cV (As := [av_i x3, av_i a3]) (t := 7) dX10_seen_33 gw6 (th_X10_find gq7) rfl (And.intro wd_962 wd_59) wd_959 wd_961 wd_31 cy_X10_find (by omega) (by decide) (Nat.le_of_ble_eq_true rfl) rfl ?_
    refine ax_imul dX10_seen_36 ?_
    refine ax_iload (i := 4) dX10_seen_37 rfl ?_
    refine ax_iadd dX10_seen_39 ?_
    obtain ⟨x8, gx8, h⟩ := Option.bind_eq_some_iff.mp h
    refine ax_iald dX10_seen_40 gx8 ?_
    exact ax_reti dX10_seen_41 h
  · rw [if_neg c4] at h
    refine ax_iconst (v := (0)) dX10_seen_19 rfl ?_
    refine ax_goto (tgt := 41) dX10_seen_20 (by decide) ?_
    exact ax_reti dX10_seen_41 h
set_option maxRecDepth 100000 in
set_option maxHeartbeats 4000000 in
theorem th_X10_seen {q : Int32 × ax_S} {a0 : Option Nat} {a1 : Int32} {a2 : Int32} {a3 : Int32} {a4 : Int32} {s : ax_S} (h : fn_X10_seen a0 a1 a2 a3 a4 s = some q) : AC mm_X10_seen yX10_seen 1 0 0 [av_r a0, av_i a1, av_i a2, av_i a3, av_i a4] s (some (av_i q.1), q.2) := by
  exact ax_met (L0 := [some (av_r a0), some (av_i a1), some (av_i a2), some (av_i a3), some (av_i a4), none]) (by decide +kernel) rfl (fun h => absurd h (by decide)) ⟨rfl, rfl, rfl, rfl, rfl, trivial⟩ (Nat.le_of_ble_eq_true rfl) trivial (tw_X10_seen h)
/-! X10_blurred -/
abbrev mm_X10_blurred : ax_M := (RX10, cX10_blurred, (some .int), 8, false)
def fb_X10_blurred_15 : Nat → Option Nat → Int32 → Int32 → Int32 → Int32 → Int32 → Int32 → Int32 → ax_S → Option (Int32 × ax_S)
  | 0, _, _, _, _, _, _, _, _, _ => none
  | n + 1, a0, a1, a2, a3, a4, a5, a6, a7, s =>
    if ((a3 - a3 / (8) * (8)) + a4) < a7 then
      (if a6 = 0 then none else some ()).bind fun u2 =>
      some ((a5 / a6), s)
    else
      (fn_X10_in a7 (0) (7) s).bind fun q3 =>
      if q3.1 = 0 then
        (fb_X10_blurred_15 n) a0 a1 a2 a3 a4 a5 a6 (a7 + (1)) q3.2
      else
        (ax_sh q3.2 7 a0).bind fun w5 =>
        (fn_X10_seen a0 a1 (0) a2 ((a3 - (a3 - a3 / (8) * (8))) + a7) q3.2).bind fun q6 =>
        ax_bd ((a5 + q6.1)) fun v7 =>
        (fb_X10_blurred_15 n) a0 a1 a2 a3 a4 v7 (a6 + (1)) (a7 + (1)) q6.2
set_option maxRecDepth 100000 in
set_option maxHeartbeats 4000000 in
theorem tb_X10_blurred_15 {q : Int32 × ax_S} : ∀ (n : Nat) (a0 : Option Nat) (a1 : Int32) (a2 : Int32) (a3 : Int32) (a4 : Int32) (a5 : Int32) (a6 : Int32) (a7 : Int32) (s : ax_S) (h : fb_X10_blurred_15 n a0 a1 a2 a3 a4 a5 a6 a7 s = some q), AW mm_X10_blurred 2 0 0 15 [(some (av_r a0)), (some (av_i a1)), (some (av_i a2)), (some (av_i a3)), (some (av_i a4)), (some (av_i a5)), (some (av_i a6)), (some (av_i a7))] [] s (some (av_i q.1), q.2) := by
  intro n
  induction n with
  | zero =>
    intro a0 a1 a2 a3 a4 a5 a6 a7 s h
    exact ax_no h
  | succ n ih =>
    intro a0 a1 a2 a3 a4 a5 a6 a7 s h
    unfold fb_X10_blurred_15 at h
    refine ax_iload (i := 7) dX10_blurred_15 rfl ?_
    refine ax_iload_n (i := 3) dX10_blurred_17 rfl rfl ?_
    refine ax_bipush (v := (8)) dX10_blurred_18 rfl ?_
    refine ax_irem dX10_blurred_20 (by decide) ?_
    refine ax_iload (i := 4) dX10_blurred_21 rfl ?_
    refine ax_iadd dX10_blurred_23 ?_
    refine ax_icmp_gt (tgt := 68) dX10_blurred_24 (by decide) (fun c1 => ?_) (fun c1 => ?_)
    · rw [if_pos c1] at h
      refine ax_iload (i := 5) dX10_blurred_68 rfl ?_
      refine ax_iload (i := 6) dX10_blurred_70 rfl ?_
      obtain ⟨u2, gu2, h⟩ := Option.bind_eq_some_iff.mp h
      refine ax_idiv dX10_blurred_72 (ax_ne_of gu2) ?_
      exact ax_reti dX10_blurred_73 h
    · rw [if_neg c1] at h
      refine ax_iload (i := 7) dX10_blurred_27 rfl ?_
      refine ax_iconst (v := (0)) dX10_blurred_29 rfl ?_
      refine ax_bipush (v := (7)) dX10_blurred_30 rfl ?_
      obtain ⟨q3, gq3, h⟩ := Option.bind_eq_some_iff.mp h
      refine ax_cS (As := [av_i a7, av_i (0), av_i (7)]) dX10_blurred_32 (th_X10_in gq3) (And.intro wd_851 wd_59) wd_849 wd_850 cy_X10_in (by omega) (by decide) (Nat.le_of_ble_eq_true rfl) rfl ?_
      refine ax_if_eq (tgt := 62) dX10_blurred_35 (by decide) (fun c4 => ?_) (fun c4 => ?_)
      · rw [if_pos c4] at h
        refine ax_iinc (i := 7) (v := (a7 + (1))) (L2 := [some (av_r a0), some (av_i a1), some (av_i a2), some (av_i a3), some (av_i a4), some (av_i a5), some (av_i a6), some (av_i (a7 + (1)))]) dX10_blurred_62 rfl rfl (by decide) rfl rfl ?_
        refine ax_goto (tgt := 15) dX10_blurred_65 (by decide) ?_
        exact ax_less (L' := [(some (av_r a0)), (some (av_i a1)), (some (av_i a2)), (some (av_i a3)), (some (av_i a4)), (some (av_i a5)), (some (av_i a6)), (some (av_i (a7 + (1))))]) ⟨rfl, rfl, rfl, rfl, rfl, rfl, rfl, rfl, trivial⟩ (ih _ _ _ _ _ _ _ _ _ h)
      · rw [if_neg c4] at h
        refine ax_iload (i := 5) dX10_blurred_38 rfl ?_
        refine ax_aload_n (i := 0) dX10_blurred_40 rfl rfl ?_
        refine ax_iload_n (i := 1) dX10_blurred_41 rfl rfl ?_
        refine ax_iconst (v := (0)) dX10_blurred_42 rfl ?_
        refine ax_iload_n (i := 2) dX10_blurred_43 rfl rfl ?_
        refine ax_iload_n (i := 3) dX10_blurred_44 rfl rfl ?_
        refine ax_iload_n (i := 3) dX10_blurred_45 rfl rfl ?_
        refine ax_bipush (v := (8)) dX10_blurred_46 rfl ?_
        refine ax_irem dX10_blurred_48 (by decide) ?_
        refine ax_isub dX10_blurred_49 ?_
        refine ax_iload (i := 7) dX10_blurred_50 rfl ?_
        refine ax_iadd dX10_blurred_52 ?_
        obtain ⟨w5, gw5, h⟩ := Option.bind_eq_some_iff.mp h
        obtain ⟨q6, gq6, h⟩ := Option.bind_eq_some_iff.mp h
        refine ax_cV (As := [av_i a1, av_i (0), av_i a2, av_i ((a3 - (a3 - a3 / (8) * (8))) + a7)]) (t := 7) dX10_blurred_53 gw5 (th_X10_seen gq6) rfl (And.intro wd_990 wd_59) wd_987 wd_989 wd_38 cy_X10_seen (by omega) (by decide) (Nat.le_of_ble_eq_true rfl) rfl ?_
        refine ax_iadd dX10_blurred_56 ?_
        refine ax_bdI h (fun v7 h => ?_)
        refine ax_istore (i := 5) (L2 := [some (av_r a0), some (av_i a1), some (av_i a2), some (av_i a3), some (av_i a4), some (av_i v7), some (av_i a6), some (av_i a7)]) dX10_blurred_57 (by decide) rfl rfl ?_
        refine ax_iinc (i := 6) (v := (a6 + (1))) (L2 := [some (av_r a0), some (av_i a1), some (av_i a2), some (av_i a3), some (av_i a4), some (av_i v7), some (av_i (a6 + (1))), some (av_i a7)]) dX10_blurred_59 rfl rfl (by decide) rfl rfl ?_
        refine ax_iinc (i := 7) (v := (a7 + (1))) (L2 := [some (av_r a0), some (av_i a1), some (av_i a2), some (av_i a3), some (av_i a4), some (av_i v7), some (av_i (a6 + (1))), some (av_i (a7 + (1)))]) dX10_blurred_62 rfl rfl (by decide) rfl rfl ?_
        refine ax_goto (tgt := 15) dX10_blurred_65 (by decide) ?_
        exact ax_less (L' := [(some (av_r a0)), (some (av_i a1)), (some (av_i a2)), (some (av_i a3)), (some (av_i a4)), (some (av_i v7)), (some (av_i (a6 + (1)))), (some (av_i (a7 + (1))))]) ⟨rfl, rfl, rfl, rfl, rfl, rfl, rfl, rfl, trivial⟩ (ih _ _ _ _ _ _ _ _ _ h)
def fn_X10_blurred (a0 : Option Nat) (a1 : Int32) (a2 : Int32) (a3 : Int32) (a4 : Int32) (s : ax_S) : Option (Int32 × ax_S) :=
  ax_bd (((a3 - a3 / (8) * (8)) - a4)) fun v8 =>
  fb_X10_blurred_15 10000 a0 a1 a2 a3 a4 (0) (0) v8 s
set_option maxRecDepth 100000 in
set_option maxHeartbeats 4000000 in
theorem tw_X10_blurred {q : Int32 × ax_S} {a0 : Option Nat} {a1 : Int32} {a2 : Int32} {a3 : Int32} {a4 : Int32} {s : ax_S} (h : fn_X10_blurred a0 a1 a2 a3 a4 s = some q) : AW mm_X10_blurred 2 0 0 0 [some (av_r a0), some (av_i a1), some (av_i a2), some (av_i a3), some (av_i a4), none, none, none] [] s (some (av_i q.1), q.2) := by
  unfold fn_X10_blurred at h
  refine ax_iconst (v := (0)) dX10_blurred_0 rfl ?_
  refine ax_istore (i := 5) (L2 := [some (av_r a0), some (av_i a1), some (av_i a2), some (av_i a3), some (av_i a4), some (av_i (0)), none, none]) dX10_blurred_1 (by decide) rfl rfl ?_
  refine ax_iconst (v := (0)) dX10_blurred_3 rfl ?_
  refine ax_istore (i := 6) (L2 := [some (av_r a0), some (av_i a1), some (av_i a2), some (av_i a3), some (av_i a4), some (av_i (0)), some (av_i (0)), none]) dX10_blurred_4 (by decide) rfl rfl ?_
  refine ax_iload_n (i := 3) dX10_blurred_6 rfl rfl ?_
  refine ax_bipush (v := (8)) dX10_blurred_7 rfl ?_
  refine ax_irem dX10_blurred_9 (by decide) ?_
  refine ax_iload (i := 4) dX10_blurred_10 rfl ?_
  refine ax_isub dX10_blurred_12 ?_
  refine ax_bdI h (fun v8 h => ?_)
  refine ax_istore (i := 7) (L2 := [some (av_r a0), some (av_i a1), some (av_i a2), some (av_i a3), some (av_i a4), some (av_i (0)), some (av_i (0)), some (av_i v8)]) dX10_blurred_13 (by decide) rfl rfl ?_
  exact ax_less (L' := [(some (av_r a0)), (some (av_i a1)), (some (av_i a2)), (some (av_i a3)), (some (av_i a4)), (some (av_i (0))), (some (av_i (0))), (some (av_i v8))]) ⟨rfl, rfl, rfl, rfl, rfl, rfl, rfl, rfl, trivial⟩ (tb_X10_blurred_15  _ _ _ _ _ _ _ _ _ _ h)
set_option maxRecDepth 100000 in
set_option maxHeartbeats 4000000 in
theorem th_X10_blurred {q : Int32 × ax_S} {a0 : Option Nat} {a1 : Int32} {a2 : Int32} {a3 : Int32} {a4 : Int32} {s : ax_S} (h : fn_X10_blurred a0 a1 a2 a3 a4 s = some q) : AC mm_X10_blurred yX10_blurred 2 0 0 [av_r a0, av_i a1, av_i a2, av_i a3, av_i a4] s (some (av_i q.1), q.2) := by
  exact ax_met (L0 := [some (av_r a0), some (av_i a1), some (av_i a2), some (av_i a3), some (av_i a4), none, none, none]) (by decide +kernel) rfl (fun h => absurd h (by decide)) ⟨rfl, rfl, rfl, rfl, rfl, trivial⟩ (Nat.le_of_ble_eq_true rfl) trivial (tw_X10_blurred h)
/-! X10_made -/
abbrev mm_X10_made : ax_M := (RX10, cX10_made, (some .int), 7, false)
def fn_X10_made (a0 : Option Nat) (a1 : Int32) (a2 : Int32) (a3 : Int32) (s : ax_S) : Option (Int32 × ax_S) :=
  (ax_sh s 7 a0).bind fun w1 =>
  (fn_X10_kind a0 a1 s).bind fun q2 =>
  (ax_sh q2.2 7 a0).bind fun w3 =>
  (fn_X10_isInRange a0 a1 a2 q2.2).bind fun q4 =>
  if q4.1 = 0 then
    if q2.1 = 0 then
      some ((0), q4.2)
    else
      (ax_sh q4.2 7 a0).bind fun w52 =>
      (fn_X10_seen a0 a1 (0) a2 a3 q4.2).bind fun q53 =>
      some (q53.1, q53.2)
  else
    ax_bd ((a3 / (32))) fun v6 =>
    (fn_X10_at a1 (6) q4.2).bind fun q7 =>
    if q2.1 = 0 then
      (ax_gr q7.2 7 0 a0).bind fun r9 =>
      (ax_al q7.2 9 r9 q7.1).bind fun x10 =>
      some (((((((((7) * x10) + ((31) * (a3 - a3 / (8) * (8)))) + ((17) * ((a3 / (8)) - (a3 / (8)) / (4) * (4)))) + ((11) * a2)) + ((53) * v6)) + (((a3 - a3 / (8) * (8)) * ((a3 / (8)) - (a3 / (8)) / (4) * (4))) * a2)) - (((((((7) * x10) + ((31) * (a3 - a3 / (8) * (8)))) + ((17) * ((a3 / (8)) - (a3 / (8)) / (4) * (4)))) + ((11) * a2)) + ((53) * v6)) + (((a3 - a3 / (8) * (8)) * ((a3 / (8)) - (a3 / (8)) / (4) * (4))) * a2)) / (256) * (256)), q7.2)
    else
    if q2.1 = 1 then
      (ax_sh q7.2 7 a0).bind fun w12 =>
      (fn_X10_seen a0 a1 (0) a2 a3 q7.2).bind fun q13 =>
      (ax_gr q13.2 7 0 a0).bind fun r14 =>
      (ax_al q13.2 9 r14 (q7.1 + v6)).bind fun x15 =>
      (fn_X10_limit ((q13.1 * x15) / (16)) q13.2).bind fun q16 =>
      some (q16.1, q16.2)
    else
    if q2.1 = 2 then
      (ax_sh q7.2 7 a0).bind fun w18 =>
      (fn_X10_seen a0 a1 (0) a2 a3 q7.2).bind fun q19 =>
      (ax_gr q19.2 7 0 a0).bind fun r20 =>
      (ax_al q19.2 9 r20 (q7.1 + v6)).bind fun x21 =>
      (fn_X10_limit (q19.1 + x21) q19.2).bind fun q22 =>
      some (q22.1, q22.2)
    else
    if q2.1 = 3 then
      (ax_sh q7.2 7 a0).bind fun w24 =>
      (fn_X10_seen a0 a1 (0) a2 a3 q7.2).bind fun q25 =>
      some (((255) - q25.1), q25.2)
    else
    if q2.1 = 4 then
      (ax_gr q7.2 7 0 a0).bind fun r27 =>
      (ax_al q7.2 9 r27 q7.1).bind fun x28 =>
      (ax_sh q7.2 7 a0).bind fun w29 =>
      (fn_X10_blurred a0 a1 a2 a3 x28 q7.2).bind fun q30 =>
      some (q30.1, q30.2)
    else
    if q2.1 = 5 then
      (ax_gr q7.2 7 0 a0).bind fun r32 =>
      (ax_al q7.2 9 r32 q7.1).bind fun x33 =>
      (ax_sh q7.2 7 a0).bind fun w34 =>
      (fn_X10_seen a0 a1 (0) a2 (((32) * x33) + (a3 - a3 / (32) * (32))) q7.2).bind fun q35 =>
      (ax_gr q35.2 7 0 a0).bind fun r36 =>
      (ax_al q35.2 9 r36 (q7.1 + (1))).bind fun x37 =>
      (ax_gr q35.2 7 0 a0).bind fun r38 =>
      (ax_al q35.2 9 r38 (q7.1 + (2))).bind fun x39 =>
      (ax_gr q35.2 7 0 a0).bind fun r40 =>
      (ax_al q35.2 9 r40 (q7.1 + (3))).bind fun x41 =>
      (fn_X10_keyed q35.1 x37 x39 x41 q35.2).bind fun q42 =>
      some (q42.1, q42.2)
    else
    (ax_sh q7.2 7 a0).bind fun w43 =>
    (fn_X10_seen a0 a1 (0) a2 a3 q7.2).bind fun q44 =>
    (ax_sh q44.2 7 a0).bind fun w45 =>
    (fn_X10_seen a0 a1 (2) a2 a3 q44.2).bind fun q46 =>
    (ax_sh q46.2 7 a0).bind fun w47 =>
    (fn_X10_seen a0 a1 (1) a2 a3 q46.2).bind fun q48 =>
    (ax_sh q48.2 7 a0).bind fun w49 =>
    (fn_X10_seen a0 a1 (2) a2 a3 q48.2).bind fun q50 =>
    some ((((q44.1 * ((255) - q46.1)) + (q48.1 * q50.1)) / (255)), q50.2)
set_option maxRecDepth 100000 in
set_option maxHeartbeats 4000000 in
theorem tw_X10_made {q : Int32 × ax_S} {a0 : Option Nat} {a1 : Int32} {a2 : Int32} {a3 : Int32} {s : ax_S} (h : fn_X10_made a0 a1 a2 a3 s = some q) : AW mm_X10_made 3 0 0 0 [some (av_r a0), some (av_i a1), some (av_i a2), some (av_i a3), none, none, none] [] s (some (av_i q.1), q.2) := by
  unfold fn_X10_made at h
  refine ax_aload_n (i := 0) dX10_made_0 rfl rfl ?_
  refine ax_iload_n (i := 1) dX10_made_1 rfl rfl ?_
  obtain ⟨w1, gw1, h⟩ := Option.bind_eq_some_iff.mp h
  obtain ⟨q2, gq2, h⟩ := Option.bind_eq_some_iff.mp h
  refine ax_cV (As := [av_i a1]) (t := 7) dX10_made_2 gw1 (th_X10_kind gq2) rfl (And.intro wd_877 wd_59) wd_874 wd_876 wd_19 cy_X10_kind (by omega) (by decide) (Nat.le_of_ble_eq_true rfl) rfl ?_
  refine ax_istore (i := 4) (L2 := [some (av_r a0), some (av_i a1), some (av_i a2), some (av_i a3), some (av_i q2.1), none, none]) dX10_made_5 (by decide) rfl rfl ?_
  refine ax_aload_n (i := 0) dX10_made_7 rfl rfl ?_
  refine ax_iload_n (i := 1) dX10_made_8 rfl rfl ?_
  refine ax_iload_n (i := 2) dX10_made_9 rfl rfl ?_
  obtain ⟨w3, gw3, h⟩ := Option.bind_eq_some_iff.mp h
  obtain ⟨q4, gq4, h⟩ := Option.bind_eq_some_iff.mp h
  refine ax_cV (As := [av_i a1, av_i a2]) (t := 7) dX10_made_10 gw3 (th_X10_isInRange gq4) rfl (And.intro wd_970 wd_59) wd_967 wd_969 wd_33 cy_X10_isInRange (by omega) (by decide) (Nat.le_of_ble_eq_true rfl) rfl ?_
  refine ax_if_ne (tgt := 34) dX10_made_13 (by decide) (fun c5 => ?_) (fun c5 => ?_)
  · rw [if_neg c5] at h
    refine ax_iload_n (i := 3) dX10_made_34 rfl rfl ?_
    refine ax_bipush (v := (32)) dX10_made_35 rfl ?_
    refine ax_idiv dX10_made_37 (by decide) ?_
    refine ax_bdI h (fun v6 h => ?_)
    refine ax_istore (i := 5) (L2 := [some (av_r a0), some (av_i a1), some (av_i a2), some (av_i a3), some (av_i q2.1), some (av_i v6), none]) dX10_made_38 (by decide) rfl rfl ?_
    refine ax_iload_n (i := 1) dX10_made_40 rfl rfl ?_
    refine ax_bipush (v := (6)) dX10_made_41 rfl ?_
    obtain ⟨q7, gq7, h⟩ := Option.bind_eq_some_iff.mp h
    refine ax_cS (As := [av_i a1, av_i (6)]) dX10_made_43 (th_X10_at gq7) (And.intro wd_858 wd_59) wd_856 wd_857 cy_X10_at (by omega) (by decide) (Nat.le_of_ble_eq_true rfl) rfl ?_
    refine ax_istore (i := 6) (L2 := [some (av_r a0), some (av_i a1), some (av_i a2), some (av_i a3), some (av_i q2.1), some (av_i v6), some (av_i q7.1)]) dX10_made_46 (by decide) rfl rfl ?_
    refine ax_iload (i := 4) dX10_made_48 rfl ?_
    by_cases c8 : q2.1 = 0
    · rw [if_pos c8] at h
      refine ax_swC (c := 0) (off := 38) (tgt := 88) dX10_made_50 c8 (by decide) (by decide) (by decide) rfl (by decide) ?_
      refine ax_bipush (v := (7)) dX10_made_88 rfl ?_
      refine ax_aload_n (i := 0) dX10_made_90 rfl rfl ?_
      obtain ⟨r9, gr9, h⟩ := Option.bind_eq_some_iff.mp h
      refine ax_getR (q := (RX10, TX10, 28)) (t := 7) (k := 0) dX10_made_91 rfl (by decide) wd_756 rfl gr9 ?_
      refine ax_iload (i := 6) dX10_made_94 rfl ?_
      obtain ⟨x10, gx10, h⟩ := Option.bind_eq_some_iff.mp h
      refine ax_iald dX10_made_96 gx10 ?_
      refine ax_imul dX10_made_97 ?_
      refine ax_bipush (v := (31)) dX10_made_98 rfl ?_
      refine ax_iload_n (i := 3) dX10_made_100 rfl rfl ?_
      refine ax_bipush (v := (8)) dX10_made_101 rfl ?_
      refine ax_irem dX10_made_103 (by decide) ?_
      refine ax_imul dX10_made_104 ?_
      refine ax_iadd dX10_made_105 ?_
      refine ax_bipush (v := (17)) dX10_made_106 rfl ?_
      refine ax_iload_n (i := 3) dX10_made_108 rfl rfl ?_
      refine ax_bipush (v := (8)) dX10_made_109 rfl ?_
      refine ax_idiv dX10_made_111 (by decide) ?_
      refine ax_iconst (v := (4)) dX10_made_112 rfl ?_
      refine ax_irem dX10_made_113 (by decide) ?_
      refine ax_imul dX10_made_114 ?_
      refine ax_iadd dX10_made_115 ?_
      refine ax_bipush (v := (11)) dX10_made_116 rfl ?_
      refine ax_iload_n (i := 2) dX10_made_118 rfl rfl ?_
      refine ax_imul dX10_made_119 ?_
      refine ax_iadd dX10_made_120 ?_
      refine ax_bipush (v := (53)) dX10_made_121 rfl ?_
      refine ax_iload (i := 5) dX10_made_123 rfl ?_
      refine ax_imul dX10_made_125 ?_
      refine ax_iadd dX10_made_126 ?_
      refine ax_iload_n (i := 3) dX10_made_127 rfl rfl ?_
      refine ax_bipush (v := (8)) dX10_made_128 rfl ?_
      refine ax_irem dX10_made_130 (by decide) ?_
      refine ax_iload_n (i := 3) dX10_made_131 rfl rfl ?_
      refine ax_bipush (v := (8)) dX10_made_132 rfl ?_
      refine ax_idiv dX10_made_134 (by decide) ?_
      refine ax_iconst (v := (4)) dX10_made_135 rfl ?_
      refine ax_irem dX10_made_136 (by decide) ?_
      refine ax_imul dX10_made_137 ?_
      refine ax_iload_n (i := 2) dX10_made_138 rfl rfl ?_
      refine ax_imul dX10_made_139 ?_
      refine ax_iadd dX10_made_140 ?_
      refine ax_sipush (v := (256)) dX10_made_141 rfl ?_
      refine ax_irem dX10_made_144 (by decide) ?_
      exact ax_reti dX10_made_145 h
    rw [if_neg c8] at h
    by_cases c11 : q2.1 = 1
    · rw [if_pos c11] at h
      refine ax_swC (c := 1) (off := 96) (tgt := 146) dX10_made_50 c11 (by decide) (by decide) (by decide) rfl (by decide) ?_
      refine ax_aload_n (i := 0) dX10_made_146 rfl rfl ?_
      refine ax_iload_n (i := 1) dX10_made_147 rfl rfl ?_
      refine ax_iconst (v := (0)) dX10_made_148 rfl ?_
      refine ax_iload_n (i := 2) dX10_made_149 rfl rfl ?_
      refine ax_iload_n (i := 3) dX10_made_150 rfl rfl ?_
      obtain ⟨w12, gw12, h⟩ := Option.bind_eq_some_iff.mp h
      obtain ⟨q13, gq13, h⟩ := Option.bind_eq_some_iff.mp h
      refine ax_cV (As := [av_i a1, av_i (0), av_i a2, av_i a3]) (t := 7) dX10_made_151 gw12 (th_X10_seen gq13) rfl (And.intro wd_990 wd_59) wd_987 wd_989 wd_38 cy_X10_seen (by omega) (by decide) (Nat.le_of_ble_eq_true rfl) rfl ?_
      refine ax_aload_n (i := 0) dX10_made_154 rfl rfl ?_
      obtain ⟨r14, gr14, h⟩ := Option.bind_eq_some_iff.mp h
      refine ax_getR (q := (RX10, TX10, 28)) (t := 7) (k := 0) dX10_made_155 rfl (by decide) wd_756 rfl gr14 ?_
      refine ax_iload (i := 6) dX10_made_158 rfl ?_
      refine ax_iload (i := 5) dX10_made_160 rfl ?_
      refine ax_iadd dX10_made_162 ?_
      obtain ⟨x15, gx15, h⟩ := Option.bind_eq_some_iff.mp h
      refine ax_iald dX10_made_163 gx15 ?_
      refine ax_imul dX10_made_164 ?_
      refine ax_bipush (v := (16)) dX10_made_165 rfl ?_
      refine ax_idiv dX10_made_167 (by decide) ?_
      obtain ⟨q16, gq16, h⟩ := Option.bind_eq_some_iff.mp h
      refine ax_cS (As := [av_i ((q13.1 * x15) / (16))]) dX10_made_168 (th_X10_limit gq16) (And.intro wd_993 wd_59) wd_991 wd_992 cy_X10_limit (by omega) (by decide) (Nat.le_of_ble_eq_true rfl) rfl ?_
      exact ax_reti dX10_made_171 h
    rw [if_neg c11] at h
    by_cases c17 : q2.1 = 2
    · rw [if_pos c17] at h
      refine ax_swC (c := 2) (off := 122) (tgt := 172) dX10_made_50 c17 (by decide) (by decide) (by decide) rfl (by decide) ?_
      refine ax_aload_n (i := 0) dX10_made_172 rfl rfl ?_
      refine ax_iload_n (i := 1) dX10_made_173 rfl rfl ?_
      refine ax_iconst (v := (0)) dX10_made_174 rfl ?_
      refine ax_iload_n (i := 2) dX10_made_175 rfl rfl ?_
      refine ax_iload_n (i := 3) dX10_made_176 rfl rfl ?_
      obtain ⟨w18, gw18, h⟩ := Option.bind_eq_some_iff.mp h
      obtain ⟨q19, gq19, h⟩ := Option.bind_eq_some_iff.mp h
      refine ax_cV (As := [av_i a1, av_i (0), av_i a2, av_i a3]) (t := 7) dX10_made_177 gw18 (th_X10_seen gq19) rfl (And.intro wd_990 wd_59) wd_987 wd_989 wd_38 cy_X10_seen (by omega) (by decide) (Nat.le_of_ble_eq_true rfl) rfl ?_
      refine ax_aload_n (i := 0) dX10_made_180 rfl rfl ?_
      obtain ⟨r20, gr20, h⟩ := Option.bind_eq_some_iff.mp h
      refine ax_getR (q := (RX10, TX10, 28)) (t := 7) (k := 0) dX10_made_181 rfl (by decide) wd_756 rfl gr20 ?_
      refine ax_iload (i := 6) dX10_made_184 rfl ?_
      refine ax_iload (i := 5) dX10_made_186 rfl ?_
      refine ax_iadd dX10_made_188 ?_
      obtain ⟨x21, gx21, h⟩ := Option.bind_eq_some_iff.mp h
      refine ax_iald dX10_made_189 gx21 ?_
      refine ax_iadd dX10_made_190 ?_
      obtain ⟨q22, gq22, h⟩ := Option.bind_eq_some_iff.mp h
      refine ax_cS (As := [av_i (q19.1 + x21)]) dX10_made_191 (th_X10_limit gq22) (And.intro wd_993 wd_59) wd_991 wd_992 cy_X10_limit (by omega) (by decide) (Nat.le_of_ble_eq_true rfl) rfl ?_
      exact ax_reti dX10_made_194 h
    rw [if_neg c17] at h
    by_cases c23 : q2.1 = 3
    · rw [if_pos c23] at h
      refine ax_swC (c := 3) (off := 145) (tgt := 195) dX10_made_50 c23 (by decide) (by decide) (by decide) rfl (by decide) ?_
      refine ax_sipush (v := (255)) dX10_made_195 rfl ?_
      refine ax_aload_n (i := 0) dX10_made_198 rfl rfl ?_
      refine ax_iload_n (i := 1) dX10_made_199 rfl rfl ?_
      refine ax_iconst (v := (0)) dX10_made_200 rfl ?_
      refine ax_iload_n (i := 2) dX10_made_201 rfl rfl ?_
      refine ax_iload_n (i := 3) dX10_made_202 rfl rfl ?_
      obtain ⟨w24, gw24, h⟩ := Option.bind_eq_some_iff.mp h
      obtain ⟨q25, gq25, h⟩ := Option.bind_eq_some_iff.mp h
      refine ax_cV (As := [av_i a1, av_i (0), av_i a2, av_i a3]) (t := 7) dX10_made_203 gw24 (th_X10_seen gq25) rfl (And.intro wd_990 wd_59) wd_987 wd_989 wd_38 cy_X10_seen (by omega) (by decide) (Nat.le_of_ble_eq_true rfl) rfl ?_
      refine ax_isub dX10_made_206 ?_
      exact ax_reti dX10_made_207 h
    rw [if_neg c23] at h
    by_cases c26 : q2.1 = 4
    · rw [if_pos c26] at h
      refine ax_swC (c := 4) (off := 158) (tgt := 208) dX10_made_50 c26 (by decide) (by decide) (by decide) rfl (by decide) ?_
      refine ax_aload_n (i := 0) dX10_made_208 rfl rfl ?_
      refine ax_iload_n (i := 1) dX10_made_209 rfl rfl ?_
      refine ax_iload_n (i := 2) dX10_made_210 rfl rfl ?_
      refine ax_iload_n (i := 3) dX10_made_211 rfl rfl ?_
      refine ax_aload_n (i := 0) dX10_made_212 rfl rfl ?_
      obtain ⟨r27, gr27, h⟩ := Option.bind_eq_some_iff.mp h
      refine ax_getR (q := (RX10, TX10, 28)) (t := 7) (k := 0) dX10_made_213 rfl (by decide) wd_756 rfl gr27 ?_
      refine ax_iload (i := 6) dX10_made_216 rfl ?_
      obtain ⟨x28, gx28, h⟩ := Option.bind_eq_some_iff.mp h
      refine ax_iald dX10_made_218 gx28 ?_
      obtain ⟨w29, gw29, h⟩ := Option.bind_eq_some_iff.mp h
      obtain ⟨q30, gq30, h⟩ := Option.bind_eq_some_iff.mp h
      refine ax_cV (As := [av_i a1, av_i a2, av_i a3, av_i x28]) (t := 7) dX10_made_219 gw29 (th_X10_blurred gq30) rfl (And.intro wd_997 wd_59) wd_994 wd_996 wd_39 cy_X10_blurred (by omega) (by decide) (Nat.le_of_ble_eq_true rfl) rfl ?_
      exact ax_reti dX10_made_222 h
    rw [if_neg c26] at h
    by_cases c31 : q2.1 = 5
    · rw [if_pos c31] at h
      refine ax_swC (c := 5) (off := 173) (tgt := 223) dX10_made_50 c31 (by decide) (by decide) (by decide) rfl (by decide) ?_
      refine ax_aload_n (i := 0) dX10_made_223 rfl rfl ?_
      refine ax_iload_n (i := 1) dX10_made_224 rfl rfl ?_
      refine ax_iconst (v := (0)) dX10_made_225 rfl ?_
      refine ax_iload_n (i := 2) dX10_made_226 rfl rfl ?_
      refine ax_bipush (v := (32)) dX10_made_227 rfl ?_
      refine ax_aload_n (i := 0) dX10_made_229 rfl rfl ?_
      obtain ⟨r32, gr32, h⟩ := Option.bind_eq_some_iff.mp h
      refine ax_getR (q := (RX10, TX10, 28)) (t := 7) (k := 0) dX10_made_230 rfl (by decide) wd_756 rfl gr32 ?_
      refine ax_iload (i := 6) dX10_made_233 rfl ?_
      obtain ⟨x33, gx33, h⟩ := Option.bind_eq_some_iff.mp h
      refine ax_iald dX10_made_235 gx33 ?_
      refine ax_imul dX10_made_236 ?_
      refine ax_iload_n (i := 3) dX10_made_237 rfl rfl ?_
      refine ax_bipush (v := (32)) dX10_made_238 rfl ?_
      refine ax_irem dX10_made_240 (by decide) ?_
      refine ax_iadd dX10_made_241 ?_
      obtain ⟨w34, gw34, h⟩ := Option.bind_eq_some_iff.mp h
      obtain ⟨q35, gq35, h⟩ := Option.bind_eq_some_iff.mp h
      refine ax_cV (As := [av_i a1, av_i (0), av_i a2, av_i (((32) * x33) + (a3 - a3 / (32) * (32)))]) (t := 7) dX10_made_242 gw34 (th_X10_seen gq35) rfl (And.intro wd_990 wd_59) wd_987 wd_989 wd_38 cy_X10_seen (by omega) (by decide) (Nat.le_of_ble_eq_true rfl) rfl ?_
      refine ax_aload_n (i := 0) dX10_made_245 rfl rfl ?_
      obtain ⟨r36, gr36, h⟩ := Option.bind_eq_some_iff.mp h
      refine ax_getR (q := (RX10, TX10, 28)) (t := 7) (k := 0) dX10_made_246 rfl (by decide) wd_756 rfl gr36 ?_
      refine ax_iload (i := 6) dX10_made_249 rfl ?_
      refine ax_iconst (v := (1)) dX10_made_251 rfl ?_
      refine ax_iadd dX10_made_252 ?_
      obtain ⟨x37, gx37, h⟩ := Option.bind_eq_some_iff.mp h
      refine ax_iald dX10_made_253 gx37 ?_
      refine ax_aload_n (i := 0) dX10_made_254 rfl rfl ?_
      obtain ⟨r38, gr38, h⟩ := Option.bind_eq_some_iff.mp h
      refine ax_getR (q := (RX10, TX10, 28)) (t := 7) (k := 0) dX10_made_255 rfl (by decide) wd_756 rfl gr38 ?_
      refine ax_iload (i := 6) dX10_made_258 rfl ?_
      refine ax_iconst (v := (2)) dX10_made_260 rfl ?_
      refine ax_iadd dX10_made_261 ?_
      obtain ⟨x39, gx39, h⟩ := Option.bind_eq_some_iff.mp h
      refine ax_iald dX10_made_262 gx39 ?_
      refine ax_aload_n (i := 0) dX10_made_263 rfl rfl ?_
      obtain ⟨r40, gr40, h⟩ := Option.bind_eq_some_iff.mp h
      refine ax_getR (q := (RX10, TX10, 28)) (t := 7) (k := 0) dX10_made_264 rfl (by decide) wd_756 rfl gr40 ?_
      refine ax_iload (i := 6) dX10_made_267 rfl ?_
      refine ax_iconst (v := (3)) dX10_made_269 rfl ?_
      refine ax_iadd dX10_made_270 ?_
      obtain ⟨x41, gx41, h⟩ := Option.bind_eq_some_iff.mp h
      refine ax_iald dX10_made_271 gx41 ?_
      obtain ⟨q42, gq42, h⟩ := Option.bind_eq_some_iff.mp h
      refine ax_cS (As := [av_i q35.1, av_i x37, av_i x39, av_i x41]) dX10_made_272 (th_X10_keyed gq42) (And.intro wd_1000 wd_59) wd_998 wd_999 cy_X10_keyed (by omega) (by decide) (Nat.le_of_ble_eq_true rfl) rfl ?_
      exact ax_reti dX10_made_275 h
    rw [if_neg c31] at h
    refine ax_swD (tgt := 276) dX10_made_50 (fun c hc1 hc2 => ?_) (by decide) ?_
    · have hcc : c = 0 ∨ c = 1 ∨ c = 2 ∨ c = 3 ∨ c = 4 ∨ c = 5 := by omega
      rcases hcc with rfl | rfl | rfl | rfl | rfl | rfl
      · exact Or.inr (fun e => c8 (e.trans (by decide)))
      · exact Or.inr (fun e => c11 (e.trans (by decide)))
      · exact Or.inr (fun e => c17 (e.trans (by decide)))
      · exact Or.inr (fun e => c23 (e.trans (by decide)))
      · exact Or.inr (fun e => c26 (e.trans (by decide)))
      · exact Or.inr (fun e => c31 (e.trans (by decide)))
    refine ax_aload_n (i := 0) dX10_made_276 rfl rfl ?_
    refine ax_iload_n (i := 1) dX10_made_277 rfl rfl ?_
    refine ax_iconst (v := (0)) dX10_made_278 rfl ?_
    refine ax_iload_n (i := 2) dX10_made_279 rfl rfl ?_
    refine ax_iload_n (i := 3) dX10_made_280 rfl rfl ?_
    obtain ⟨w43, gw43, h⟩ := Option.bind_eq_some_iff.mp h
    obtain ⟨q44, gq44, h⟩ := Option.bind_eq_some_iff.mp h
    refine ax_cV (As := [av_i a1, av_i (0), av_i a2, av_i a3]) (t := 7) dX10_made_281 gw43 (th_X10_seen gq44) rfl (And.intro wd_990 wd_59) wd_987 wd_989 wd_38 cy_X10_seen (by omega) (by decide) (Nat.le_of_ble_eq_true rfl) rfl ?_
    refine ax_sipush (v := (255)) dX10_made_284 rfl ?_
    refine ax_aload_n (i := 0) dX10_made_287 rfl rfl ?_
    refine ax_iload_n (i := 1) dX10_made_288 rfl rfl ?_
    refine ax_iconst (v := (2)) dX10_made_289 rfl ?_
    refine ax_iload_n (i := 2) dX10_made_290 rfl rfl ?_
    refine ax_iload_n (i := 3) dX10_made_291 rfl rfl ?_
    obtain ⟨w45, gw45, h⟩ := Option.bind_eq_some_iff.mp h
    obtain ⟨q46, gq46, h⟩ := Option.bind_eq_some_iff.mp h
    refine ax_cV (As := [av_i a1, av_i (2), av_i a2, av_i a3]) (t := 7) dX10_made_292 gw45 (th_X10_seen gq46) rfl (And.intro wd_990 wd_59) wd_987 wd_989 wd_38 cy_X10_seen (by omega) (by decide) (Nat.le_of_ble_eq_true rfl) rfl ?_
    refine ax_isub dX10_made_295 ?_
    refine ax_imul dX10_made_296 ?_
    refine ax_aload_n (i := 0) dX10_made_297 rfl rfl ?_
    refine ax_iload_n (i := 1) dX10_made_298 rfl rfl ?_
    refine ax_iconst (v := (1)) dX10_made_299 rfl ?_
    refine ax_iload_n (i := 2) dX10_made_300 rfl rfl ?_
    refine ax_iload_n (i := 3) dX10_made_301 rfl rfl ?_
    obtain ⟨w47, gw47, h⟩ := Option.bind_eq_some_iff.mp h
    obtain ⟨q48, gq48, h⟩ := Option.bind_eq_some_iff.mp h
    refine ax_cV (As := [av_i a1, av_i (1), av_i a2, av_i a3]) (t := 7) dX10_made_302 gw47 (th_X10_seen gq48) rfl (And.intro wd_990 wd_59) wd_987 wd_989 wd_38 cy_X10_seen (by omega) (by decide) (Nat.le_of_ble_eq_true rfl) rfl ?_
    refine ax_aload_n (i := 0) dX10_made_305 rfl rfl ?_
    refine ax_iload_n (i := 1) dX10_made_306 rfl rfl ?_
    refine ax_iconst (v := (2)) dX10_made_307 rfl ?_
    refine ax_iload_n (i := 2) dX10_made_308 rfl rfl ?_
    refine ax_iload_n (i := 3) dX10_made_309 rfl rfl ?_
    obtain ⟨w49, gw49, h⟩ := Option.bind_eq_some_iff.mp h
    obtain ⟨q50, gq50, h⟩ := Option.bind_eq_some_iff.mp h
    refine ax_cV (As := [av_i a1, av_i (2), av_i a2, av_i a3]) (t := 7) dX10_made_310 gw49 (th_X10_seen gq50) rfl (And.intro wd_990 wd_59) wd_987 wd_989 wd_38 cy_X10_seen (by omega) (by decide) (Nat.le_of_ble_eq_true rfl) rfl ?_
    refine ax_imul dX10_made_313 ?_
    refine ax_iadd dX10_made_314 ?_
    refine ax_sipush (v := (255)) dX10_made_315 rfl ?_
    refine ax_idiv dX10_made_318 (by decide) ?_
    exact ax_reti dX10_made_319 h
  · rw [if_pos c5] at h
    refine ax_iload (i := 4) dX10_made_16 rfl ?_
    refine ax_if_ne (tgt := 25) dX10_made_18 (by decide) (fun c51 => ?_) (fun c51 => ?_)
    · rw [if_neg c51] at h
      refine ax_aload_n (i := 0) dX10_made_25 rfl rfl ?_
      refine ax_iload_n (i := 1) dX10_made_26 rfl rfl ?_
      refine ax_iconst (v := (0)) dX10_made_27 rfl ?_
      refine ax_iload_n (i := 2) dX10_made_28 rfl rfl ?_
      refine ax_iload_n (i := 3) dX10_made_29 rfl rfl ?_
      obtain ⟨w52, gw52, h⟩ := Option.bind_eq_some_iff.mp h
      obtain ⟨q53, gq53, h⟩ := Option.bind_eq_some_iff.mp h
      refine ax_cV (As := [av_i a1, av_i (0), av_i a2, av_i a3]) (t := 7) dX10_made_30 gw52 (th_X10_seen gq53) rfl (And.intro wd_990 wd_59) wd_987 wd_989 wd_38 cy_X10_seen (by omega) (by decide) (Nat.le_of_ble_eq_true rfl) rfl ?_
      exact ax_reti dX10_made_33 h
    · rw [if_pos c51] at h
      refine ax_iconst (v := (0)) dX10_made_21 rfl ?_
      refine ax_goto (tgt := 33) dX10_made_22 (by decide) ?_
      exact ax_reti dX10_made_33 h
set_option maxRecDepth 100000 in
set_option maxHeartbeats 4000000 in
theorem th_X10_made {q : Int32 × ax_S} {a0 : Option Nat} {a1 : Int32} {a2 : Int32} {a3 : Int32} {s : ax_S} (h : fn_X10_made a0 a1 a2 a3 s = some q) : AC mm_X10_made yX10_made 3 0 0 [av_r a0, av_i a1, av_i a2, av_i a3] s (some (av_i q.1), q.2) := by
  exact ax_met (L0 := [some (av_r a0), some (av_i a1), some (av_i a2), some (av_i a3), none, none, none]) (by decide +kernel) rfl (fun h => absurd h (by decide)) ⟨rfl, rfl, rfl, rfl, trivial⟩ (Nat.le_of_ble_eq_true rfl) trivial (tw_X10_made h)
/-! X10_makes -/
abbrev mm_X10_makes : ax_M := (RX10, cX10_makes, none, 5, false)
def fb_X10_makes_42 : Nat → Option Nat → Int32 → Int32 → Int32 → Int32 → ax_S → Option (ax_S)
  | 0, _, _, _, _, _, _ => none
  | n + 1, a0, a1, a2, a3, a4, s =>
    if (96) ≤ a4 then
      (ax_sh s 7 a0).bind fun w2 =>
      (fn_X10_uses a0 a3 s).bind fun q3 =>
      some q3
    else
      (ax_gr s 7 8 a0).bind fun r4 =>
      (ax_sh s 7 a0).bind fun w5 =>
      (fn_X10_made a0 a1 a2 a4 s).bind fun q6 =>
      (ax_as q6.2 9 r4 (((96) * a3) + a4) q6.1).bind fun s7 =>
      (fb_X10_makes_42 n) a0 a1 a2 a3 (a4 + (1)) s7
set_option maxRecDepth 100000 in
set_option maxHeartbeats 4000000 in
theorem tb_X10_makes_42 {q : ax_S} : ∀ (n : Nat) (a0 : Option Nat) (a1 : Int32) (a2 : Int32) (a3 : Int32) (a4 : Int32) (s : ax_S) (h : fb_X10_makes_42 n a0 a1 a2 a3 a4 s = some q), AW mm_X10_makes 4 0 0 42 [(some (av_r a0)), (some (av_i a1)), (some (av_i a2)), (some (av_i a3)), (some (av_i a4))] [] s (none, q) := by
  intro n
  induction n with
  | zero =>
    intro a0 a1 a2 a3 a4 s h
    exact ax_no h
  | succ n ih =>
    intro a0 a1 a2 a3 a4 s h
    unfold fb_X10_makes_42 at h
    refine ax_iload (i := 4) dX10_makes_42 rfl ?_
    refine ax_bipush (v := (96)) dX10_makes_44 rfl ?_
    refine ax_icmp_ge (tgt := 75) dX10_makes_46 (by decide) (fun c1 => ?_) (fun c1 => ?_)
    · rw [if_pos c1] at h
      refine ax_aload_n (i := 0) dX10_makes_75 rfl rfl ?_
      refine ax_iload_n (i := 3) dX10_makes_76 rfl rfl ?_
      obtain ⟨w2, gw2, h⟩ := Option.bind_eq_some_iff.mp h
      obtain ⟨q3, gq3, h⟩ := Option.bind_eq_some_iff.mp h
      refine ax_cV (As := [av_i a3]) (t := 7) dX10_makes_77 gw2 (th_X10_uses gq3) rfl (And.intro wd_966 wd_59) wd_963 wd_965 wd_32 cy_X10_uses (by omega) (by decide) (Nat.le_of_ble_eq_true rfl) rfl ?_
      exact ax_retv dX10_makes_80 h
    · rw [if_neg c1] at h
      refine ax_aload_n (i := 0) dX10_makes_49 rfl rfl ?_
      obtain ⟨r4, gr4, h⟩ := Option.bind_eq_some_iff.mp h
      refine ax_getR (q := (RX10, TX10, 28)) (t := 7) (k := 8) dX10_makes_50 rfl (by decide) wd_764 rfl gr4 ?_
      refine ax_bipush (v := (96)) dX10_makes_53 rfl ?_
      refine ax_iload_n (i := 3) dX10_makes_55 rfl rfl ?_
      refine ax_imul dX10_makes_56 ?_
      refine ax_iload (i := 4) dX10_makes_57 rfl ?_
      refine ax_iadd dX10_makes_59 ?_
      refine ax_aload_n (i := 0) dX10_makes_60 rfl rfl ?_
      refine ax_iload_n (i := 1) dX10_makes_61 rfl rfl ?_
      refine ax_iload_n (i := 2) dX10_makes_62 rfl rfl ?_
      refine ax_iload (i := 4) dX10_makes_63 rfl ?_
      obtain ⟨w5, gw5, h⟩ := Option.bind_eq_some_iff.mp h
      obtain ⟨q6, gq6, h⟩ := Option.bind_eq_some_iff.mp h
      refine ax_cV (As := [av_i a1, av_i a2, av_i a4]) (t := 7) dX10_makes_65 gw5 (th_X10_made gq6) rfl (And.intro wd_986 wd_59) wd_983 wd_985 wd_37 cy_X10_made (by omega) (by decide) (Nat.le_of_ble_eq_true rfl) rfl ?_
      obtain ⟨s7, gs7, h⟩ := Option.bind_eq_some_iff.mp h
      refine ax_iast dX10_makes_68 gs7 ?_
      refine ax_iinc (i := 4) (v := (a4 + (1))) (L2 := [some (av_r a0), some (av_i a1), some (av_i a2), some (av_i a3), some (av_i (a4 + (1)))]) dX10_makes_69 rfl rfl (by decide) rfl rfl ?_
      refine ax_goto (tgt := 42) dX10_makes_72 (by decide) ?_
      exact ax_less (L' := [(some (av_r a0)), (some (av_i a1)), (some (av_i a2)), (some (av_i a3)), (some (av_i (a4 + (1))))]) ⟨rfl, rfl, rfl, rfl, rfl, trivial⟩ (ih _ _ _ _ _ _ h)
def fn_X10_makes (a0 : Option Nat) (a1 : Int32) (a2 : Int32) (s : ax_S) : Option (ax_S) :=
  (ax_gi s 7 3 a0).bind fun x8 =>
  (ax_sh s 7 a0).bind fun w9 =>
  (fn_X10_makesRoom a0 (x8 - (1)) s).bind fun q10 =>
  (ax_gi q10 7 4 a0).bind fun x11 =>
  (ax_gr q10 7 5 a0).bind fun r12 =>
  (ax_as q10 9 r12 x11 a1).bind fun s13 =>
  (ax_gr s13 7 6 a0).bind fun r14 =>
  (ax_as s13 9 r14 x11 a2).bind fun s15 =>
  (ax_gi s15 7 4 a0).bind fun x16 =>
  (ax_pi s15 7 4 a0 (x16 + (1))).bind fun s17 =>
  fb_X10_makes_42 10000 a0 a1 a2 x11 (0) s17
set_option maxRecDepth 100000 in
set_option maxHeartbeats 4000000 in
theorem tw_X10_makes {q : ax_S} {a0 : Option Nat} {a1 : Int32} {a2 : Int32} {s : ax_S} (h : fn_X10_makes a0 a1 a2 s = some q) : AW mm_X10_makes 4 0 0 0 [some (av_r a0), some (av_i a1), some (av_i a2), none, none] [] s (none, q) := by
  unfold fn_X10_makes at h
  refine ax_aload_n (i := 0) dX10_makes_0 rfl rfl ?_
  refine ax_aload_n (i := 0) dX10_makes_1 rfl rfl ?_
  obtain ⟨x8, gx8, h⟩ := Option.bind_eq_some_iff.mp h
  refine ax_getI (q := (RX10, TX10, 28)) (t := 7) (k := 3) dX10_makes_2 rfl (by decide) wd_759 rfl gx8 ?_
  refine ax_iconst (v := (1)) dX10_makes_5 rfl ?_
  refine ax_isub dX10_makes_6 ?_
  obtain ⟨w9, gw9, h⟩ := Option.bind_eq_some_iff.mp h
  obtain ⟨q10, gq10, h⟩ := Option.bind_eq_some_iff.mp h
  refine ax_cV (As := [av_i (x8 - (1))]) (t := 7) dX10_makes_7 gw9 (th_X10_makesRoom gq10) rfl (And.intro wd_978 wd_59) wd_975 wd_977 wd_35 cy_X10_makesRoom (by omega) (by decide) (Nat.le_of_ble_eq_true rfl) rfl ?_
  refine ax_aload_n (i := 0) dX10_makes_10 rfl rfl ?_
  obtain ⟨x11, gx11, h⟩ := Option.bind_eq_some_iff.mp h
  refine ax_getI (q := (RX10, TX10, 28)) (t := 7) (k := 4) dX10_makes_11 rfl (by decide) wd_760 rfl gx11 ?_
  refine ax_istore_n (i := 3) (L2 := [some (av_r a0), some (av_i a1), some (av_i a2), some (av_i x11), none]) dX10_makes_14 rfl (by decide) rfl rfl ?_
  refine ax_aload_n (i := 0) dX10_makes_15 rfl rfl ?_
  obtain ⟨r12, gr12, h⟩ := Option.bind_eq_some_iff.mp h
  refine ax_getR (q := (RX10, TX10, 28)) (t := 7) (k := 5) dX10_makes_16 rfl (by decide) wd_761 rfl gr12 ?_
  refine ax_iload_n (i := 3) dX10_makes_19 rfl rfl ?_
  refine ax_iload_n (i := 1) dX10_makes_20 rfl rfl ?_
  obtain ⟨s13, gs13, h⟩ := Option.bind_eq_some_iff.mp h
  refine ax_iast dX10_makes_21 gs13 ?_
  refine ax_aload_n (i := 0) dX10_makes_22 rfl rfl ?_
  obtain ⟨r14, gr14, h⟩ := Option.bind_eq_some_iff.mp h
  refine ax_getR (q := (RX10, TX10, 28)) (t := 7) (k := 6) dX10_makes_23 rfl (by decide) wd_762 rfl gr14 ?_
  refine ax_iload_n (i := 3) dX10_makes_26 rfl rfl ?_
  refine ax_iload_n (i := 2) dX10_makes_27 rfl rfl ?_
  obtain ⟨s15, gs15, h⟩ := Option.bind_eq_some_iff.mp h
  refine ax_iast dX10_makes_28 gs15 ?_
  refine ax_aload_n (i := 0) dX10_makes_29 rfl rfl ?_
  refine ax_dup dX10_makes_30 trivial ?_
  obtain ⟨x16, gx16, h⟩ := Option.bind_eq_some_iff.mp h
  refine ax_getI (q := (RX10, TX10, 28)) (t := 7) (k := 4) dX10_makes_31 rfl (by decide) wd_760 rfl gx16 ?_
  refine ax_iconst (v := (1)) dX10_makes_34 rfl ?_
  refine ax_iadd dX10_makes_35 ?_
  obtain ⟨s17, gs17, h⟩ := Option.bind_eq_some_iff.mp h
  refine ax_putI (q := (RX10, TX10, 28)) (t := 7) (k := 4) dX10_makes_36 rfl (by decide) wd_760 rfl rfl ⟨rfl, rfl⟩ gs17 ?_
  refine ax_iconst (v := (0)) dX10_makes_39 rfl ?_
  refine ax_istore (i := 4) (L2 := [some (av_r a0), some (av_i a1), some (av_i a2), some (av_i x11), some (av_i (0))]) dX10_makes_40 (by decide) rfl rfl ?_
  exact ax_less (L' := [(some (av_r a0)), (some (av_i a1)), (some (av_i a2)), (some (av_i x11)), (some (av_i (0)))]) ⟨rfl, rfl, rfl, rfl, rfl, trivial⟩ (tb_X10_makes_42  _ _ _ _ _ _ _ h)
set_option maxRecDepth 100000 in
set_option maxHeartbeats 4000000 in
theorem th_X10_makes {q : ax_S} {a0 : Option Nat} {a1 : Int32} {a2 : Int32} {s : ax_S} (h : fn_X10_makes a0 a1 a2 s = some q) : AC mm_X10_makes yX10_makes 4 0 0 [av_r a0, av_i a1, av_i a2] s (none, q) := by
  exact ax_met (L0 := [some (av_r a0), some (av_i a1), some (av_i a2), none, none]) (by decide +kernel) rfl (fun h => absurd h (by decide)) ⟨rfl, rfl, rfl, trivial⟩ (Nat.le_of_ble_eq_true rfl) trivial (tw_X10_makes h)
/-! X10_picture -/
abbrev mm_X10_picture : ax_M := (RX10, cX10_picture, (some .int), 7, false)
def fb_X10_picture_83 (k11 : Option Nat → Int32 → Int32 → ax_S → Option (Int32 × ax_S)) (a0 : Option Nat) (a1 : Int32) (a2 : Int32) (a3 : Int32) (a4 : Int32) (b0 : Int32) (s : ax_S) : Option (Int32 × ax_S) :=
  if b0 ≤ a4 then
    (ax_sh s 7 a0).bind fun w2 =>
    (fn_X10_makes a0 a3 a2 s).bind fun q3 =>
    (ax_gi q3 7 18 a0).bind fun x4 =>
    (ax_pi q3 7 18 a0 (x4 - (1))).bind fun s5 =>
    k11 a0 a1 a2 s5
  else
    (ax_gr s 7 17 a0).bind fun r6 =>
    (ax_gi s 7 18 a0).bind fun x7 =>
    (ax_al s 9 r6 (x7 - (1))).bind fun x8 =>
    (ax_as s 9 r6 (x7 - (1)) (x8 + (1))).bind fun s9 =>
    (ax_gr s9 7 0 a0).bind fun r10 =>
    (fn_X10_at a3 ((3) + a4) s9).bind fun q11 =>
    (ax_al q11.2 9 r10 q11.1).bind fun x12 =>
    if x12 < 0 then
      k11 a0 a1 a2 q11.2
    else
      (ax_sh q11.2 7 a0).bind fun w14 =>
      (fn_X10_asks a0 x12 a2 q11.2).bind fun q15 =>
      k11 a0 a1 a2 q15
set_option maxRecDepth 100000 in
set_option maxHeartbeats 4000000 in
theorem tb_X10_picture_83 {q : Int32 × ax_S} {k11 : Option Nat → Int32 → Int32 → ax_S → Option (Int32 × ax_S)} (hk11 : ∀ (a0 : Option Nat) (a1 : Int32) (a2 : Int32) (s : ax_S), k11 a0 a1 a2 s = some q → AW mm_X10_picture 5 0 0 11 [(some (av_r a0)), (some (av_i a1)), (some (av_i a2)), none, none, none, none] [] s (some (av_i q.1), q.2)) {a0 : Option Nat} {a1 : Int32} {a2 : Int32} {a3 : Int32} {a4 : Int32} {b0 : Int32} {s : ax_S} (h : fb_X10_picture_83 k11 a0 a1 a2 a3 a4 b0 s = some q) : AW mm_X10_picture 5 0 0 83 [(some (av_r a0)), (some (av_i a1)), (some (av_i a2)), (some (av_i a3)), (some (av_i a4)), none, none] [av_i b0] s (some (av_i q.1), q.2) := by
  unfold fb_X10_picture_83 at h
  refine ax_istore (i := 5) (L2 := [some (av_r a0), some (av_i a1), some (av_i a2), some (av_i a3), some (av_i a4), some (av_i b0), none]) dX10_picture_83 (by decide) rfl rfl ?_
  refine ax_iload (i := 4) dX10_picture_85 rfl ?_
  refine ax_iload (i := 5) dX10_picture_87 rfl ?_
  refine ax_icmp_ge (tgt := 137) dX10_picture_89 (by decide) (fun c1 => ?_) (fun c1 => ?_)
  · rw [if_pos c1] at h
    refine ax_aload_n (i := 0) dX10_picture_137 rfl rfl ?_
    refine ax_iload_n (i := 3) dX10_picture_138 rfl rfl ?_
    refine ax_iload_n (i := 2) dX10_picture_139 rfl rfl ?_
    obtain ⟨w2, gw2, h⟩ := Option.bind_eq_some_iff.mp h
    obtain ⟨q3, gq3, h⟩ := Option.bind_eq_some_iff.mp h
    refine ax_cV (As := [av_i a3, av_i a2]) (t := 7) dX10_picture_140 gw2 (th_X10_makes gq3) rfl (And.intro wd_974 wd_59) wd_971 wd_973 wd_34 cy_X10_makes (by omega) (by decide) (Nat.le_of_ble_eq_true rfl) rfl ?_
    refine ax_aload_n (i := 0) dX10_picture_143 rfl rfl ?_
    refine ax_dup dX10_picture_144 trivial ?_
    obtain ⟨x4, gx4, h⟩ := Option.bind_eq_some_iff.mp h
    refine ax_getI (q := (RX10, TX10, 28)) (t := 7) (k := 18) dX10_picture_145 rfl (by decide) wd_774 rfl gx4 ?_
    refine ax_iconst (v := (1)) dX10_picture_148 rfl ?_
    refine ax_isub dX10_picture_149 ?_
    obtain ⟨s5, gs5, h⟩ := Option.bind_eq_some_iff.mp h
    refine ax_putI (q := (RX10, TX10, 28)) (t := 7) (k := 18) dX10_picture_150 rfl (by decide) wd_774 rfl rfl ⟨rfl, rfl⟩ gs5 ?_
    refine ax_goto (tgt := 11) dX10_picture_153 (by decide) ?_
    exact ax_less (L' := [(some (av_r a0)), (some (av_i a1)), (some (av_i a2)), none, none, none, none]) ⟨rfl, rfl, rfl, trivial⟩ (hk11 _ _ _ _ h)
  · rw [if_neg c1] at h
    refine ax_aload_n (i := 0) dX10_picture_92 rfl rfl ?_
    obtain ⟨r6, gr6, h⟩ := Option.bind_eq_some_iff.mp h
    refine ax_getR (q := (RX10, TX10, 28)) (t := 7) (k := 17) dX10_picture_93 rfl (by decide) wd_773 rfl gr6 ?_
    refine ax_aload_n (i := 0) dX10_picture_96 rfl rfl ?_
    obtain ⟨x7, gx7, h⟩ := Option.bind_eq_some_iff.mp h
    refine ax_getI (q := (RX10, TX10, 28)) (t := 7) (k := 18) dX10_picture_97 rfl (by decide) wd_774 rfl gx7 ?_
    refine ax_iconst (v := (1)) dX10_picture_100 rfl ?_
    refine ax_isub dX10_picture_101 ?_
    refine ax_dup2 dX10_picture_102 trivial trivial ?_
    obtain ⟨x8, gx8, h⟩ := Option.bind_eq_some_iff.mp h
    refine ax_iald dX10_picture_103 gx8 ?_
    refine ax_iconst (v := (1)) dX10_picture_104 rfl ?_
    refine ax_iadd dX10_picture_105 ?_
    obtain ⟨s9, gs9, h⟩ := Option.bind_eq_some_iff.mp h
    refine ax_iast dX10_picture_106 gs9 ?_
    refine ax_aload_n (i := 0) dX10_picture_107 rfl rfl ?_
    obtain ⟨r10, gr10, h⟩ := Option.bind_eq_some_iff.mp h
    refine ax_getR (q := (RX10, TX10, 28)) (t := 7) (k := 0) dX10_picture_108 rfl (by decide) wd_756 rfl gr10 ?_
    refine ax_iload_n (i := 3) dX10_picture_111 rfl rfl ?_
    refine ax_iconst (v := (3)) dX10_picture_112 rfl ?_
    refine ax_iload (i := 4) dX10_picture_113 rfl ?_
    refine ax_iadd dX10_picture_115 ?_
    obtain ⟨q11, gq11, h⟩ := Option.bind_eq_some_iff.mp h
    refine ax_cS (As := [av_i a3, av_i ((3) + a4)]) dX10_picture_116 (th_X10_at gq11) (And.intro wd_858 wd_59) wd_856 wd_857 cy_X10_at (by omega) (by decide) (Nat.le_of_ble_eq_true rfl) rfl ?_
    obtain ⟨x12, gx12, h⟩ := Option.bind_eq_some_iff.mp h
    refine ax_iald dX10_picture_119 gx12 ?_
    refine ax_istore (i := 6) (L2 := [some (av_r a0), some (av_i a1), some (av_i a2), some (av_i a3), some (av_i a4), some (av_i b0), some (av_i x12)]) dX10_picture_120 (by decide) rfl rfl ?_
    refine ax_iload (i := 6) dX10_picture_122 rfl ?_
    refine ax_if_lt (tgt := 134) dX10_picture_124 (by decide) (fun c13 => ?_) (fun c13 => ?_)
    · rw [if_pos c13] at h
      refine ax_goto (tgt := 153) dX10_picture_134 (by decide) ?_
      refine ax_goto (tgt := 11) dX10_picture_153 (by decide) ?_
      exact ax_less (L' := [(some (av_r a0)), (some (av_i a1)), (some (av_i a2)), none, none, none, none]) ⟨rfl, rfl, rfl, trivial⟩ (hk11 _ _ _ _ h)
    · rw [if_neg c13] at h
      refine ax_aload_n (i := 0) dX10_picture_127 rfl rfl ?_
      refine ax_iload (i := 6) dX10_picture_128 rfl ?_
      refine ax_iload_n (i := 2) dX10_picture_130 rfl rfl ?_
      obtain ⟨w14, gw14, h⟩ := Option.bind_eq_some_iff.mp h
      obtain ⟨q15, gq15, h⟩ := Option.bind_eq_some_iff.mp h
      refine ax_cV (As := [av_i x12, av_i a2]) (t := 7) dX10_picture_131 gw14 (th_X10_asks gq15) rfl (And.intro wd_958 wd_59) wd_955 wd_957 wd_30 cy_X10_asks (by omega) (by decide) (Nat.le_of_ble_eq_true rfl) rfl ?_
      refine ax_goto (tgt := 153) dX10_picture_134 (by decide) ?_
      refine ax_goto (tgt := 11) dX10_picture_153 (by decide) ?_
      exact ax_less (L' := [(some (av_r a0)), (some (av_i a1)), (some (av_i a2)), none, none, none, none]) ⟨rfl, rfl, rfl, trivial⟩ (hk11 _ _ _ _ h)
def fb_X10_picture_11 : Nat → Option Nat → Int32 → Int32 → ax_S → Option (Int32 × ax_S)
  | 0, _, _, _, _ => none
  | n + 1, a0, a1, a2, s =>
    (ax_gi s 7 18 a0).bind fun x16 =>
    if x16 ≤ 0 then
      (ax_sh s 7 a0).bind fun w18 =>
      (fn_X10_find a0 a1 a2 s).bind fun q19 =>
      some (q19.1, q19.2)
    else
      (ax_gr s 7 16 a0).bind fun r20 =>
      (ax_gi s 7 18 a0).bind fun x21 =>
      (ax_al s 9 r20 (x21 - (1))).bind fun x22 =>
      (ax_gr s 7 17 a0).bind fun r23 =>
      (ax_gi s 7 18 a0).bind fun x24 =>
      (ax_al s 9 r23 (x24 - (1))).bind fun x25 =>
      (ax_sh s 7 a0).bind fun w26 =>
      (fn_X10_isInRange a0 x22 a2 s).bind fun q27 =>
      if q27.1 = 0 then
        (ax_gr q27.2 7 13 a0).bind fun r29 =>
        (ax_sh q27.2 7 a0).bind fun w30 =>
        (fn_X10_kind a0 x22 q27.2).bind fun q31 =>
        (ax_al q31.2 9 r29 q31.1).bind fun x32 =>
        if x32 ≤ 0 then
          fb_X10_picture_83 (fb_X10_picture_11 n) a0 a1 a2 x22 x25 (0) q31.2
        else
          fb_X10_picture_83 (fb_X10_picture_11 n) a0 a1 a2 x22 x25 (1) q31.2
      else
        (ax_gr q27.2 7 13 a0).bind fun r34 =>
        (ax_sh q27.2 7 a0).bind fun w35 =>
        (fn_X10_kind a0 x22 q27.2).bind fun q36 =>
        (ax_al q36.2 9 r34 q36.1).bind fun x37 =>
        fb_X10_picture_83 (fb_X10_picture_11 n) a0 a1 a2 x22 x25 x37 q36.2
set_option maxRecDepth 100000 in
set_option maxHeartbeats 4000000 in
theorem tb_X10_picture_11 {q : Int32 × ax_S} : ∀ (n : Nat) (a0 : Option Nat) (a1 : Int32) (a2 : Int32) (s : ax_S) (h : fb_X10_picture_11 n a0 a1 a2 s = some q), AW mm_X10_picture 5 0 0 11 [(some (av_r a0)), (some (av_i a1)), (some (av_i a2)), none, none, none, none] [] s (some (av_i q.1), q.2) := by
  intro n
  induction n with
  | zero =>
    intro a0 a1 a2 s h
    exact ax_no h
  | succ n ih =>
    intro a0 a1 a2 s h
    unfold fb_X10_picture_11 at h
    refine ax_aload_n (i := 0) dX10_picture_11 rfl rfl ?_
    obtain ⟨x16, gx16, h⟩ := Option.bind_eq_some_iff.mp h
    refine ax_getI (q := (RX10, TX10, 28)) (t := 7) (k := 18) dX10_picture_12 rfl (by decide) wd_774 rfl gx16 ?_
    refine ax_if_le (tgt := 156) dX10_picture_15 (by decide) (fun c17 => ?_) (fun c17 => ?_)
    · rw [if_pos c17] at h
      refine ax_aload_n (i := 0) dX10_picture_156 rfl rfl ?_
      refine ax_iload_n (i := 1) dX10_picture_157 rfl rfl ?_
      refine ax_iload_n (i := 2) dX10_picture_158 rfl rfl ?_
      obtain ⟨w18, gw18, h⟩ := Option.bind_eq_some_iff.mp h
      obtain ⟨q19, gq19, h⟩ := Option.bind_eq_some_iff.mp h
      refine ax_cV (As := [av_i a1, av_i a2]) (t := 7) dX10_picture_159 gw18 (th_X10_find gq19) rfl (And.intro wd_962 wd_59) wd_959 wd_961 wd_31 cy_X10_find (by omega) (by decide) (Nat.le_of_ble_eq_true rfl) rfl ?_
      exact ax_reti dX10_picture_162 h
    · rw [if_neg c17] at h
      refine ax_aload_n (i := 0) dX10_picture_18 rfl rfl ?_
      obtain ⟨r20, gr20, h⟩ := Option.bind_eq_some_iff.mp h
      refine ax_getR (q := (RX10, TX10, 28)) (t := 7) (k := 16) dX10_picture_19 rfl (by decide) wd_772 rfl gr20 ?_
      refine ax_aload_n (i := 0) dX10_picture_22 rfl rfl ?_
      obtain ⟨x21, gx21, h⟩ := Option.bind_eq_some_iff.mp h
      refine ax_getI (q := (RX10, TX10, 28)) (t := 7) (k := 18) dX10_picture_23 rfl (by decide) wd_774 rfl gx21 ?_
      refine ax_iconst (v := (1)) dX10_picture_26 rfl ?_
      refine ax_isub dX10_picture_27 ?_
      obtain ⟨x22, gx22, h⟩ := Option.bind_eq_some_iff.mp h
      refine ax_iald dX10_picture_28 gx22 ?_
      refine ax_istore_n (i := 3) (L2 := [some (av_r a0), some (av_i a1), some (av_i a2), some (av_i x22), none, none, none]) dX10_picture_29 rfl (by decide) rfl rfl ?_
      refine ax_aload_n (i := 0) dX10_picture_30 rfl rfl ?_
      obtain ⟨r23, gr23, h⟩ := Option.bind_eq_some_iff.mp h
      refine ax_getR (q := (RX10, TX10, 28)) (t := 7) (k := 17) dX10_picture_31 rfl (by decide) wd_773 rfl gr23 ?_
      refine ax_aload_n (i := 0) dX10_picture_34 rfl rfl ?_
      obtain ⟨x24, gx24, h⟩ := Option.bind_eq_some_iff.mp h
      refine ax_getI (q := (RX10, TX10, 28)) (t := 7) (k := 18) dX10_picture_35 rfl (by decide) wd_774 rfl gx24 ?_
      refine ax_iconst (v := (1)) dX10_picture_38 rfl ?_
      refine ax_isub dX10_picture_39 ?_
      obtain ⟨x25, gx25, h⟩ := Option.bind_eq_some_iff.mp h
      refine ax_iald dX10_picture_40 gx25 ?_
      refine ax_istore (i := 4) (L2 := [some (av_r a0), some (av_i a1), some (av_i a2), some (av_i x22), some (av_i x25), none, none]) dX10_picture_41 (by decide) rfl rfl ?_
      refine ax_aload_n (i := 0) dX10_picture_43 rfl rfl ?_
      refine ax_iload_n (i := 3) dX10_picture_44 rfl rfl ?_
      refine ax_iload_n (i := 2) dX10_picture_45 rfl rfl ?_
      obtain ⟨w26, gw26, h⟩ := Option.bind_eq_some_iff.mp h
      obtain ⟨q27, gq27, h⟩ := Option.bind_eq_some_iff.mp h
      refine ax_cV (As := [av_i x22, av_i a2]) (t := 7) dX10_picture_46 gw26 (th_X10_isInRange gq27) rfl (And.intro wd_970 wd_59) wd_967 wd_969 wd_33 cy_X10_isInRange (by omega) (by decide) (Nat.le_of_ble_eq_true rfl) rfl ?_
      refine ax_if_eq (tgt := 65) dX10_picture_49 (by decide) (fun c28 => ?_) (fun c28 => ?_)
      · rw [if_pos c28] at h
        refine ax_aload_n (i := 0) dX10_picture_65 rfl rfl ?_
        obtain ⟨r29, gr29, h⟩ := Option.bind_eq_some_iff.mp h
        refine ax_getR (q := (RX10, TX10, 28)) (t := 7) (k := 13) dX10_picture_66 rfl (by decide) wd_769 rfl gr29 ?_
        refine ax_aload_n (i := 0) dX10_picture_69 rfl rfl ?_
        refine ax_iload_n (i := 3) dX10_picture_70 rfl rfl ?_
        obtain ⟨w30, gw30, h⟩ := Option.bind_eq_some_iff.mp h
        obtain ⟨q31, gq31, h⟩ := Option.bind_eq_some_iff.mp h
        refine ax_cV (As := [av_i x22]) (t := 7) dX10_picture_71 gw30 (th_X10_kind gq31) rfl (And.intro wd_877 wd_59) wd_874 wd_876 wd_19 cy_X10_kind (by omega) (by decide) (Nat.le_of_ble_eq_true rfl) rfl ?_
        obtain ⟨x32, gx32, h⟩ := Option.bind_eq_some_iff.mp h
        refine ax_iald dX10_picture_74 gx32 ?_
        refine ax_if_le (tgt := 82) dX10_picture_75 (by decide) (fun c33 => ?_) (fun c33 => ?_)
        · rw [if_pos c33] at h
          refine ax_iconst (v := (0)) dX10_picture_82 rfl ?_
          exact ax_less (L' := [(some (av_r a0)), (some (av_i a1)), (some (av_i a2)), (some (av_i x22)), (some (av_i x25)), none, none]) ⟨rfl, rfl, rfl, rfl, rfl, trivial⟩ (tb_X10_picture_83 ih h)
        · rw [if_neg c33] at h
          refine ax_iconst (v := (1)) dX10_picture_78 rfl ?_
          refine ax_goto (tgt := 83) dX10_picture_79 (by decide) ?_
          exact ax_less (L' := [(some (av_r a0)), (some (av_i a1)), (some (av_i a2)), (some (av_i x22)), (some (av_i x25)), none, none]) ⟨rfl, rfl, rfl, rfl, rfl, trivial⟩ (tb_X10_picture_83 ih h)
      · rw [if_neg c28] at h
        refine ax_aload_n (i := 0) dX10_picture_52 rfl rfl ?_
        obtain ⟨r34, gr34, h⟩ := Option.bind_eq_some_iff.mp h
        refine ax_getR (q := (RX10, TX10, 28)) (t := 7) (k := 13) dX10_picture_53 rfl (by decide) wd_769 rfl gr34 ?_
        refine ax_aload_n (i := 0) dX10_picture_56 rfl rfl ?_
        refine ax_iload_n (i := 3) dX10_picture_57 rfl rfl ?_
        obtain ⟨w35, gw35, h⟩ := Option.bind_eq_some_iff.mp h
        obtain ⟨q36, gq36, h⟩ := Option.bind_eq_some_iff.mp h
        refine ax_cV (As := [av_i x22]) (t := 7) dX10_picture_58 gw35 (th_X10_kind gq36) rfl (And.intro wd_877 wd_59) wd_874 wd_876 wd_19 cy_X10_kind (by omega) (by decide) (Nat.le_of_ble_eq_true rfl) rfl ?_
        obtain ⟨x37, gx37, h⟩ := Option.bind_eq_some_iff.mp h
        refine ax_iald dX10_picture_61 gx37 ?_
        refine ax_goto (tgt := 83) dX10_picture_62 (by decide) ?_
        exact ax_less (L' := [(some (av_r a0)), (some (av_i a1)), (some (av_i a2)), (some (av_i x22)), (some (av_i x25)), none, none]) ⟨rfl, rfl, rfl, rfl, rfl, trivial⟩ (tb_X10_picture_83 ih h)
def fn_X10_picture (a0 : Option Nat) (a1 : Int32) (a2 : Int32) (s : ax_S) : Option (Int32 × ax_S) :=
  (ax_pi s 7 18 a0 (0)).bind fun s38 =>
  (ax_sh s38 7 a0).bind fun w39 =>
  (fn_X10_asks a0 a1 a2 s38).bind fun q40 =>
  fb_X10_picture_11 10000 a0 a1 a2 q40
set_option maxRecDepth 100000 in
set_option maxHeartbeats 4000000 in
theorem tw_X10_picture {q : Int32 × ax_S} {a0 : Option Nat} {a1 : Int32} {a2 : Int32} {s : ax_S} (h : fn_X10_picture a0 a1 a2 s = some q) : AW mm_X10_picture 5 0 0 0 [some (av_r a0), some (av_i a1), some (av_i a2), none, none, none, none] [] s (some (av_i q.1), q.2) := by
  unfold fn_X10_picture at h
  refine ax_aload_n (i := 0) dX10_picture_0 rfl rfl ?_
  refine ax_iconst (v := (0)) dX10_picture_1 rfl ?_
  obtain ⟨s38, gs38, h⟩ := Option.bind_eq_some_iff.mp h
  refine ax_putI (q := (RX10, TX10, 28)) (t := 7) (k := 18) dX10_picture_2 rfl (by decide) wd_774 rfl rfl ⟨rfl, rfl⟩ gs38 ?_
  refine ax_aload_n (i := 0) dX10_picture_5 rfl rfl ?_
  refine ax_iload_n (i := 1) dX10_picture_6 rfl rfl ?_
  refine ax_iload_n (i := 2) dX10_picture_7 rfl rfl ?_
  obtain ⟨w39, gw39, h⟩ := Option.bind_eq_some_iff.mp h
  obtain ⟨q40, gq40, h⟩ := Option.bind_eq_some_iff.mp h
  refine ax_cV (As := [av_i a1, av_i a2]) (t := 7) dX10_picture_8 gw39 (th_X10_asks gq40) rfl (And.intro wd_958 wd_59) wd_955 wd_957 wd_30 cy_X10_asks (by omega) (by decide) (Nat.le_of_ble_eq_true rfl) rfl ?_
  exact ax_less (L' := [(some (av_r a0)), (some (av_i a1)), (some (av_i a2)), none, none, none, none]) ⟨rfl, rfl, rfl, trivial⟩ (tb_X10_picture_11  _ _ _ _ _ h)
set_option maxRecDepth 100000 in
set_option maxHeartbeats 4000000 in
theorem th_X10_picture {q : Int32 × ax_S} {a0 : Option Nat} {a1 : Int32} {a2 : Int32} {s : ax_S} (h : fn_X10_picture a0 a1 a2 s = some q) : AC mm_X10_picture yX10_picture 5 0 0 [av_r a0, av_i a1, av_i a2] s (some (av_i q.1), q.2) := by
  exact ax_met (L0 := [some (av_r a0), some (av_i a1), some (av_i a2), none, none, none, none]) (by decide +kernel) rfl (fun h => absurd h (by decide)) ⟨rfl, rfl, rfl, trivial⟩ (Nat.le_of_ble_eq_true rfl) trivial (tw_X10_picture h)
/-! X10_isNode -/
abbrev mm_X10_isNode : ax_M := (RX10, cX10_isNode, (some .boolean), 2, false)
def fi_X10_isNode (a0 : Option Nat) (a1 : Int32) (s : ax_S) : Option (Int32 × ax_S) :=
  (ax_gr s 7 0 a0).bind fun r1 =>
  (ax_al s 9 r1 (0)).bind fun x2 =>
  (fn_X10_in a1 (0) (x2 - (1)) s).bind fun q3 =>
  some (q3.1, q3.2)
set_option maxRecDepth 100000 in
set_option maxHeartbeats 4000000 in
theorem tw_X10_isNode {q : Int32 × ax_S} {a0 : Option Nat} {a1 : Int32} {s : ax_S} (h : fi_X10_isNode a0 a1 s = some q) : AW mm_X10_isNode 1 0 0 0 [some (av_r a0), some (av_i a1)] [] s (some (av_i q.1), q.2) := by
  unfold fi_X10_isNode at h
  refine ax_iload_n (i := 1) dX10_isNode_0 rfl rfl ?_
  refine ax_iconst (v := (0)) dX10_isNode_1 rfl ?_
  refine ax_aload_n (i := 0) dX10_isNode_2 rfl rfl ?_
  obtain ⟨r1, gr1, h⟩ := Option.bind_eq_some_iff.mp h
  refine ax_getR (q := (RX10, TX10, 28)) (t := 7) (k := 0) dX10_isNode_3 rfl (by decide) wd_756 rfl gr1 ?_
  refine ax_iconst (v := (0)) dX10_isNode_6 rfl ?_
  obtain ⟨x2, gx2, h⟩ := Option.bind_eq_some_iff.mp h
  refine ax_iald dX10_isNode_7 gx2 ?_
  refine ax_iconst (v := (1)) dX10_isNode_8 rfl ?_
  refine ax_isub dX10_isNode_9 ?_
  obtain ⟨q3, gq3, h⟩ := Option.bind_eq_some_iff.mp h
  refine ax_cS (As := [av_i a1, av_i (0), av_i (x2 - (1))]) dX10_isNode_10 (th_X10_in gq3) (And.intro wd_851 wd_59) wd_849 wd_850 cy_X10_in (by omega) (by decide) (Nat.le_of_ble_eq_true rfl) rfl ?_
  exact ax_reti dX10_isNode_13 h
def fn_X10_isNode (a0 : Option Nat) (a1 : Int32) (s : ax_S) : Option (Int32 × ax_S) := ax_bz (fi_X10_isNode a0 a1 s)
set_option maxRecDepth 100000 in
set_option maxHeartbeats 4000000 in
theorem th_X10_isNode {q : Int32 × ax_S} {a0 : Option Nat} {a1 : Int32} {s : ax_S} (h : fn_X10_isNode a0 a1 s = some q) : AC mm_X10_isNode yX10_isNode 1 0 0 [av_r a0, av_i a1] s (some (av_i q.1), q.2) := by
  obtain ⟨h, hz⟩ := ax_bz_of h
  exact ax_met (L0 := [some (av_r a0), some (av_i a1)]) (by decide +kernel) rfl (fun h => absurd h (by decide)) ⟨rfl, rfl, trivial⟩ (Nat.le_of_ble_eq_true rfl) hz (tw_X10_isNode h)
/-! X10_isPicture -/
abbrev mm_X10_isPicture : ax_M := (RX10, cX10_isPicture, (some .boolean), 3, false)
def fi_X10_isPicture (a0 : Option Nat) (a1 : Int32) (a2 : Int32) (s : ax_S) : Option (Int32 × ax_S) :=
  (ax_sh s 7 a0).bind fun w1 =>
  (fn_X10_isNode a0 a1 s).bind fun q2 =>
  if q2.1 = 0 then
    some ((0), q2.2)
  else
    (fn_X10_in a2 (0) (99) q2.2).bind fun q4 =>
    if q4.1 = 0 then
      some ((0), q4.2)
    else
      some ((1), q4.2)
set_option maxRecDepth 100000 in
set_option maxHeartbeats 4000000 in
theorem tw_X10_isPicture {q : Int32 × ax_S} {a0 : Option Nat} {a1 : Int32} {a2 : Int32} {s : ax_S} (h : fi_X10_isPicture a0 a1 a2 s = some q) : AW mm_X10_isPicture 2 0 0 0 [some (av_r a0), some (av_i a1), some (av_i a2)] [] s (some (av_i q.1), q.2) := by
  unfold fi_X10_isPicture at h
  refine ax_aload_n (i := 0) dX10_isPicture_0 rfl rfl ?_
  refine ax_iload_n (i := 1) dX10_isPicture_1 rfl rfl ?_
  obtain ⟨w1, gw1, h⟩ := Option.bind_eq_some_iff.mp h
  obtain ⟨q2, gq2, h⟩ := Option.bind_eq_some_iff.mp h
  refine ax_cV (As := [av_i a1]) (t := 7) dX10_isPicture_2 gw1 (th_X10_isNode gq2) rfl (And.intro wd_873 wd_59) wd_870 wd_872 wd_18 cy_X10_isNode (by omega) (by decide) (Nat.le_of_ble_eq_true rfl) rfl ?_
  refine ax_if_eq (tgt := 22) dX10_isPicture_5 (by decide) (fun c3 => ?_) (fun c3 => ?_)
  · rw [if_pos c3] at h
    refine ax_iconst (v := (0)) dX10_isPicture_22 rfl ?_
    exact ax_reti dX10_isPicture_23 h
  · rw [if_neg c3] at h
    refine ax_iload_n (i := 2) dX10_isPicture_8 rfl rfl ?_
    refine ax_iconst (v := (0)) dX10_isPicture_9 rfl ?_
    refine ax_bipush (v := (99)) dX10_isPicture_10 rfl ?_
    obtain ⟨q4, gq4, h⟩ := Option.bind_eq_some_iff.mp h
    refine ax_cS (As := [av_i a2, av_i (0), av_i (99)]) dX10_isPicture_12 (th_X10_in gq4) (And.intro wd_851 wd_59) wd_849 wd_850 cy_X10_in (by omega) (by decide) (Nat.le_of_ble_eq_true rfl) rfl ?_
    refine ax_if_eq (tgt := 22) dX10_isPicture_15 (by decide) (fun c5 => ?_) (fun c5 => ?_)
    · rw [if_pos c5] at h
      refine ax_iconst (v := (0)) dX10_isPicture_22 rfl ?_
      exact ax_reti dX10_isPicture_23 h
    · rw [if_neg c5] at h
      refine ax_iconst (v := (1)) dX10_isPicture_18 rfl ?_
      refine ax_goto (tgt := 23) dX10_isPicture_19 (by decide) ?_
      exact ax_reti dX10_isPicture_23 h
def fn_X10_isPicture (a0 : Option Nat) (a1 : Int32) (a2 : Int32) (s : ax_S) : Option (Int32 × ax_S) := ax_bz (fi_X10_isPicture a0 a1 a2 s)
set_option maxRecDepth 100000 in
set_option maxHeartbeats 4000000 in
theorem th_X10_isPicture {q : Int32 × ax_S} {a0 : Option Nat} {a1 : Int32} {a2 : Int32} {s : ax_S} (h : fn_X10_isPicture a0 a1 a2 s = some q) : AC mm_X10_isPicture yX10_isPicture 2 0 0 [av_r a0, av_i a1, av_i a2] s (some (av_i q.1), q.2) := by
  obtain ⟨h, hz⟩ := ax_bz_of h
  exact ax_met (L0 := [some (av_r a0), some (av_i a1), some (av_i a2)]) (by decide +kernel) rfl (fun h => absurd h (by decide)) ⟨rfl, rfl, rfl, trivial⟩ (Nat.le_of_ble_eq_true rfl) hz (tw_X10_isPicture h)
/-! X10_scope -/
abbrev mm_X10_scope : ax_M := (RX10, cX10_scope, (some .int), 8, false)
def fb_X10_scope_87 (k55 : Option Nat → Int32 → Int32 → Int32 → Int32 → ax_S → Option (Int32 × ax_S)) (a0 : Option Nat) (a4 : Int32) (a5 : Int32) (a7 : Int32) (b0 : Int32) (b1 : Int32) (s : ax_S) : Option (Int32 × ax_S) :=
  ax_bd ((b0 + b1)) fun v1 =>
  k55 a0 a4 a5 v1 (a7 + (1)) s
set_option maxRecDepth 100000 in
set_option maxHeartbeats 4000000 in
theorem tb_X10_scope_87 {q : Int32 × ax_S} {k55 : Option Nat → Int32 → Int32 → Int32 → Int32 → ax_S → Option (Int32 × ax_S)} (hk55 : ∀ (a0 : Option Nat) (a4 : Int32) (a5 : Int32) (a6 : Int32) (a7 : Int32) (s : ax_S), k55 a0 a4 a5 a6 a7 s = some q → AW mm_X10_scope 6 0 0 55 [(some (av_r a0)), none, none, none, (some (av_i a4)), (some (av_i a5)), (some (av_i a6)), (some (av_i a7))] [] s (some (av_i q.1), q.2)) {a0 : Option Nat} {a4 : Int32} {a5 : Int32} {a7 : Int32} {b0 : Int32} {b1 : Int32} {s : ax_S} (h : fb_X10_scope_87 k55 a0 a4 a5 a7 b0 b1 s = some q) : AW mm_X10_scope 6 0 0 87 [(some (av_r a0)), none, none, none, (some (av_i a4)), (some (av_i a5)), none, (some (av_i a7))] [av_i b1, av_i b0] s (some (av_i q.1), q.2) := by
  unfold fb_X10_scope_87 at h
  refine ax_iadd dX10_scope_87 ?_
  refine ax_bdI h (fun v1 h => ?_)
  refine ax_istore (i := 6) (L2 := [some (av_r a0), none, none, none, some (av_i a4), some (av_i a5), some (av_i v1), some (av_i a7)]) dX10_scope_88 (by decide) rfl rfl ?_
  refine ax_iinc (i := 7) (v := (a7 + (1))) (L2 := [some (av_r a0), none, none, none, some (av_i a4), some (av_i a5), some (av_i v1), some (av_i (a7 + (1)))]) dX10_scope_90 rfl rfl (by decide) rfl rfl ?_
  refine ax_goto (tgt := 55) dX10_scope_93 (by decide) ?_
  exact ax_less (L' := [(some (av_r a0)), none, none, none, (some (av_i a4)), (some (av_i a5)), (some (av_i v1)), (some (av_i (a7 + (1))))]) ⟨rfl, rfl, rfl, rfl, rfl, trivial⟩ (hk55 _ _ _ _ _ _ h)
def fb_X10_scope_55 : Nat → Option Nat → Int32 → Int32 → Int32 → Int32 → ax_S → Option (Int32 × ax_S)
  | 0, _, _, _, _, _, _ => none
  | n + 1, a0, a4, a5, a6, a7, s =>
    if (32) ≤ a7 then
      some (a6, s)
    else
      (ax_gr s 7 8 a0).bind fun r3 =>
      (ax_al s 9 r3 (a5 + a7)).bind fun x4 =>
      if (x4 / (16)) = a4 then
        fb_X10_scope_87 (fb_X10_scope_55 n) a0 a4 a5 a7 a6 (1) s
      else
        fb_X10_scope_87 (fb_X10_scope_55 n) a0 a4 a5 a7 a6 (0) s
set_option maxRecDepth 100000 in
set_option maxHeartbeats 4000000 in
theorem tb_X10_scope_55 {q : Int32 × ax_S} : ∀ (n : Nat) (a0 : Option Nat) (a4 : Int32) (a5 : Int32) (a6 : Int32) (a7 : Int32) (s : ax_S) (h : fb_X10_scope_55 n a0 a4 a5 a6 a7 s = some q), AW mm_X10_scope 6 0 0 55 [(some (av_r a0)), none, none, none, (some (av_i a4)), (some (av_i a5)), (some (av_i a6)), (some (av_i a7))] [] s (some (av_i q.1), q.2) := by
  intro n
  induction n with
  | zero =>
    intro a0 a4 a5 a6 a7 s h
    exact ax_no h
  | succ n ih =>
    intro a0 a4 a5 a6 a7 s h
    unfold fb_X10_scope_55 at h
    refine ax_iload (i := 7) dX10_scope_55 rfl ?_
    refine ax_bipush (v := (32)) dX10_scope_57 rfl ?_
    refine ax_icmp_ge (tgt := 96) dX10_scope_59 (by decide) (fun c2 => ?_) (fun c2 => ?_)
    · rw [if_pos c2] at h
      refine ax_iload (i := 6) dX10_scope_96 rfl ?_
      exact ax_reti dX10_scope_98 h
    · rw [if_neg c2] at h
      refine ax_iload (i := 6) dX10_scope_62 rfl ?_
      refine ax_aload_n (i := 0) dX10_scope_64 rfl rfl ?_
      obtain ⟨r3, gr3, h⟩ := Option.bind_eq_some_iff.mp h
      refine ax_getR (q := (RX10, TX10, 28)) (t := 7) (k := 8) dX10_scope_65 rfl (by decide) wd_764 rfl gr3 ?_
      refine ax_iload (i := 5) dX10_scope_68 rfl ?_
      refine ax_iload (i := 7) dX10_scope_70 rfl ?_
      refine ax_iadd dX10_scope_72 ?_
      obtain ⟨x4, gx4, h⟩ := Option.bind_eq_some_iff.mp h
      refine ax_iald dX10_scope_73 gx4 ?_
      refine ax_bipush (v := (16)) dX10_scope_74 rfl ?_
      refine ax_idiv dX10_scope_76 (by decide) ?_
      refine ax_iload (i := 4) dX10_scope_77 rfl ?_
      refine ax_icmp_ne (tgt := 86) dX10_scope_79 (by decide) (fun c5 => ?_) (fun c5 => ?_)
      · rw [if_neg c5] at h
        refine ax_iconst (v := (0)) dX10_scope_86 rfl ?_
        exact ax_less (L' := [(some (av_r a0)), none, none, none, (some (av_i a4)), (some (av_i a5)), none, (some (av_i a7))]) ⟨rfl, rfl, rfl, rfl, trivial⟩ (tb_X10_scope_87 ih h)
      · rw [if_pos c5] at h
        refine ax_iconst (v := (1)) dX10_scope_82 rfl ?_
        refine ax_goto (tgt := 87) dX10_scope_83 (by decide) ?_
        exact ax_less (L' := [(some (av_r a0)), none, none, none, (some (av_i a4)), (some (av_i a5)), none, (some (av_i a7))]) ⟨rfl, rfl, rfl, rfl, trivial⟩ (tb_X10_scope_87 ih h)
def fn_X10_scope (a0 : Option Nat) (a1 : Int32) (a2 : Int32) (a3 : Int32) (a4 : Int32) (s : ax_S) : Option (Int32 × ax_S) :=
  (ax_sh s 7 a0).bind fun w6 =>
  (fn_X10_isPicture a0 a1 a2 s).bind fun q7 =>
  if q7.1 = 0 then
    some ((-1001), q7.2)
  else
    (fn_X10_in a3 (0) (2) q7.2).bind fun q9 =>
    if q9.1 = 0 then
      some ((-1001), q9.2)
    else
      (fn_X10_in a4 (0) (15) q9.2).bind fun q11 =>
      if q11.1 = 0 then
        some ((-1001), q11.2)
      else
        (ax_sh q11.2 7 a0).bind fun w13 =>
        (fn_X10_picture a0 a1 a2 q11.2).bind fun q14 =>
        ax_bd ((((96) * q14.1) + ((32) * a3))) fun v15 =>
        fb_X10_scope_55 10000 a0 a4 v15 (0) (0) q14.2
set_option maxRecDepth 100000 in
set_option maxHeartbeats 4000000 in
theorem tw_X10_scope {q : Int32 × ax_S} {a0 : Option Nat} {a1 : Int32} {a2 : Int32} {a3 : Int32} {a4 : Int32} {s : ax_S} (h : fn_X10_scope a0 a1 a2 a3 a4 s = some q) : AW mm_X10_scope 6 0 0 0 [some (av_r a0), some (av_i a1), some (av_i a2), some (av_i a3), some (av_i a4), none, none, none] [] s (some (av_i q.1), q.2) := by
  unfold fn_X10_scope at h
  refine ax_aload_n (i := 0) dX10_scope_0 rfl rfl ?_
  refine ax_iload_n (i := 1) dX10_scope_1 rfl rfl ?_
  refine ax_iload_n (i := 2) dX10_scope_2 rfl rfl ?_
  obtain ⟨w6, gw6, h⟩ := Option.bind_eq_some_iff.mp h
  obtain ⟨q7, gq7, h⟩ := Option.bind_eq_some_iff.mp h
  refine ax_cV (As := [av_i a1, av_i a2]) (t := 7) dX10_scope_3 gw6 (th_X10_isPicture gq7) rfl (And.intro wd_950 wd_59) wd_947 wd_949 wd_28 cy_X10_isPicture (by omega) (by decide) (Nat.le_of_ble_eq_true rfl) rfl ?_
  refine ax_if_eq (tgt := 29) dX10_scope_6 (by decide) (fun c8 => ?_) (fun c8 => ?_)
  · rw [if_pos c8] at h
    refine ax_sipush (v := (-1001)) dX10_scope_29 rfl ?_
    exact ax_reti dX10_scope_32 h
  · rw [if_neg c8] at h
    refine ax_iload_n (i := 3) dX10_scope_9 rfl rfl ?_
    refine ax_iconst (v := (0)) dX10_scope_10 rfl ?_
    refine ax_iconst (v := (2)) dX10_scope_11 rfl ?_
    obtain ⟨q9, gq9, h⟩ := Option.bind_eq_some_iff.mp h
    refine ax_cS (As := [av_i a3, av_i (0), av_i (2)]) dX10_scope_12 (th_X10_in gq9) (And.intro wd_851 wd_59) wd_849 wd_850 cy_X10_in (by omega) (by decide) (Nat.le_of_ble_eq_true rfl) rfl ?_
    refine ax_if_eq (tgt := 29) dX10_scope_15 (by decide) (fun c10 => ?_) (fun c10 => ?_)
    · rw [if_pos c10] at h
      refine ax_sipush (v := (-1001)) dX10_scope_29 rfl ?_
      exact ax_reti dX10_scope_32 h
    · rw [if_neg c10] at h
      refine ax_iload (i := 4) dX10_scope_18 rfl ?_
      refine ax_iconst (v := (0)) dX10_scope_20 rfl ?_
      refine ax_bipush (v := (15)) dX10_scope_21 rfl ?_
      obtain ⟨q11, gq11, h⟩ := Option.bind_eq_some_iff.mp h
      refine ax_cS (As := [av_i a4, av_i (0), av_i (15)]) dX10_scope_23 (th_X10_in gq11) (And.intro wd_851 wd_59) wd_849 wd_850 cy_X10_in (by omega) (by decide) (Nat.le_of_ble_eq_true rfl) rfl ?_
      refine ax_if_ne (tgt := 33) dX10_scope_26 (by decide) (fun c12 => ?_) (fun c12 => ?_)
      · rw [if_neg c12] at h
        refine ax_bipush (v := (96)) dX10_scope_33 rfl ?_
        refine ax_aload_n (i := 0) dX10_scope_35 rfl rfl ?_
        refine ax_iload_n (i := 1) dX10_scope_36 rfl rfl ?_
        refine ax_iload_n (i := 2) dX10_scope_37 rfl rfl ?_
        obtain ⟨w13, gw13, h⟩ := Option.bind_eq_some_iff.mp h
        obtain ⟨q14, gq14, h⟩ := Option.bind_eq_some_iff.mp h
        refine ax_cV (As := [av_i a1, av_i a2]) (t := 7) dX10_scope_38 gw13 (th_X10_picture gq14) rfl (And.intro wd_954 wd_59) wd_951 wd_953 wd_29 cy_X10_picture (by omega) (by decide) (Nat.le_of_ble_eq_true rfl) rfl ?_
        refine ax_imul dX10_scope_41 ?_
        refine ax_bipush (v := (32)) dX10_scope_42 rfl ?_
        refine ax_iload_n (i := 3) dX10_scope_44 rfl rfl ?_
        refine ax_imul dX10_scope_45 ?_
        refine ax_iadd dX10_scope_46 ?_
        refine ax_bdI h (fun v15 h => ?_)
        refine ax_istore (i := 5) (L2 := [some (av_r a0), some (av_i a1), some (av_i a2), some (av_i a3), some (av_i a4), some (av_i v15), none, none]) dX10_scope_47 (by decide) rfl rfl ?_
        refine ax_iconst (v := (0)) dX10_scope_49 rfl ?_
        refine ax_istore (i := 6) (L2 := [some (av_r a0), some (av_i a1), some (av_i a2), some (av_i a3), some (av_i a4), some (av_i v15), some (av_i (0)), none]) dX10_scope_50 (by decide) rfl rfl ?_
        refine ax_iconst (v := (0)) dX10_scope_52 rfl ?_
        refine ax_istore (i := 7) (L2 := [some (av_r a0), some (av_i a1), some (av_i a2), some (av_i a3), some (av_i a4), some (av_i v15), some (av_i (0)), some (av_i (0))]) dX10_scope_53 (by decide) rfl rfl ?_
        exact ax_less (L' := [(some (av_r a0)), none, none, none, (some (av_i a4)), (some (av_i v15)), (some (av_i (0))), (some (av_i (0)))]) ⟨rfl, rfl, rfl, rfl, rfl, trivial⟩ (tb_X10_scope_55  _ _ _ _ _ _ _ h)
      · rw [if_pos c12] at h
        refine ax_sipush (v := (-1001)) dX10_scope_29 rfl ?_
        exact ax_reti dX10_scope_32 h
set_option maxRecDepth 100000 in
set_option maxHeartbeats 4000000 in
theorem th_X10_scope {q : Int32 × ax_S} {a0 : Option Nat} {a1 : Int32} {a2 : Int32} {a3 : Int32} {a4 : Int32} {s : ax_S} (h : fn_X10_scope a0 a1 a2 a3 a4 s = some q) : AC mm_X10_scope yX10_scope 6 0 0 [av_r a0, av_i a1, av_i a2, av_i a3, av_i a4] s (some (av_i q.1), q.2) := by
  exact ax_met (L0 := [some (av_r a0), some (av_i a1), some (av_i a2), some (av_i a3), some (av_i a4), none, none, none]) (by decide +kernel) rfl (fun h => absurd h (by decide)) ⟨rfl, rfl, rfl, rfl, rfl, trivial⟩ (Nat.le_of_ble_eq_true rfl) trivial (tw_X10_scope h)
/-! X10_isCached -/
abbrev mm_X10_isCached : ax_M := (RX10, cX10_isCached, (some .int), 3, false)
def fn_X10_isCached (a0 : Option Nat) (a1 : Int32) (a2 : Int32) (s : ax_S) : Option (Int32 × ax_S) :=
  (ax_sh s 7 a0).bind fun w1 =>
  (fn_X10_isPicture a0 a1 a2 s).bind fun q2 =>
  if q2.1 = 0 then
    some ((-1001), q2.2)
  else
    (ax_sh q2.2 7 a0).bind fun w4 =>
    (fn_X10_find a0 a1 a2 q2.2).bind fun q5 =>
    if 0 ≤ q5.1 then
      some ((1), q5.2)
    else
      some ((0), q5.2)
set_option maxRecDepth 100000 in
set_option maxHeartbeats 4000000 in
theorem tw_X10_isCached {q : Int32 × ax_S} {a0 : Option Nat} {a1 : Int32} {a2 : Int32} {s : ax_S} (h : fn_X10_isCached a0 a1 a2 s = some q) : AW mm_X10_isCached 3 0 0 0 [some (av_r a0), some (av_i a1), some (av_i a2)] [] s (some (av_i q.1), q.2) := by
  unfold fn_X10_isCached at h
  refine ax_aload_n (i := 0) dX10_isCached_0 rfl rfl ?_
  refine ax_iload_n (i := 1) dX10_isCached_1 rfl rfl ?_
  refine ax_iload_n (i := 2) dX10_isCached_2 rfl rfl ?_
  obtain ⟨w1, gw1, h⟩ := Option.bind_eq_some_iff.mp h
  obtain ⟨q2, gq2, h⟩ := Option.bind_eq_some_iff.mp h
  refine ax_cV (As := [av_i a1, av_i a2]) (t := 7) dX10_isCached_3 gw1 (th_X10_isPicture gq2) rfl (And.intro wd_950 wd_59) wd_947 wd_949 wd_28 cy_X10_isPicture (by omega) (by decide) (Nat.le_of_ble_eq_true rfl) rfl ?_
  refine ax_if_ne (tgt := 15) dX10_isCached_6 (by decide) (fun c3 => ?_) (fun c3 => ?_)
  · rw [if_neg c3] at h
    refine ax_aload_n (i := 0) dX10_isCached_15 rfl rfl ?_
    refine ax_iload_n (i := 1) dX10_isCached_16 rfl rfl ?_
    refine ax_iload_n (i := 2) dX10_isCached_17 rfl rfl ?_
    obtain ⟨w4, gw4, h⟩ := Option.bind_eq_some_iff.mp h
    obtain ⟨q5, gq5, h⟩ := Option.bind_eq_some_iff.mp h
    refine ax_cV (As := [av_i a1, av_i a2]) (t := 7) dX10_isCached_18 gw4 (th_X10_find gq5) rfl (And.intro wd_962 wd_59) wd_959 wd_961 wd_31 cy_X10_find (by omega) (by decide) (Nat.le_of_ble_eq_true rfl) rfl ?_
    refine ax_if_ge (tgt := 28) dX10_isCached_21 (by decide) (fun c6 => ?_) (fun c6 => ?_)
    · rw [if_pos c6] at h
      refine ax_iconst (v := (1)) dX10_isCached_28 rfl ?_
      exact ax_reti dX10_isCached_29 h
    · rw [if_neg c6] at h
      refine ax_iconst (v := (0)) dX10_isCached_24 rfl ?_
      refine ax_goto (tgt := 29) dX10_isCached_25 (by decide) ?_
      exact ax_reti dX10_isCached_29 h
  · rw [if_pos c3] at h
    refine ax_sipush (v := (-1001)) dX10_isCached_9 rfl ?_
    refine ax_goto (tgt := 29) dX10_isCached_12 (by decide) ?_
    exact ax_reti dX10_isCached_29 h
set_option maxRecDepth 100000 in
set_option maxHeartbeats 4000000 in
theorem th_X10_isCached {q : Int32 × ax_S} {a0 : Option Nat} {a1 : Int32} {a2 : Int32} {s : ax_S} (h : fn_X10_isCached a0 a1 a2 s = some q) : AC mm_X10_isCached yX10_isCached 3 0 0 [av_r a0, av_i a1, av_i a2] s (some (av_i q.1), q.2) := by
  exact ax_met (L0 := [some (av_r a0), some (av_i a1), some (av_i a2)]) (by decide +kernel) rfl (fun h => absurd h (by decide)) ⟨rfl, rfl, rfl, trivial⟩ (Nat.le_of_ble_eq_true rfl) trivial (tw_X10_isCached h)
/-! X10_more -/
abbrev mm_X10_more : ax_M := (RX10, cX10_more, (some .long), 3, false)
def fn_X10_more (a0 : Int64) (a2 : Int32) (s : ax_S) : Option (Int64 × ax_S) :=
  some ((((31) * a0) + a2.toInt64), s)
set_option maxRecDepth 100000 in
set_option maxHeartbeats 4000000 in
theorem tw_X10_more {q : Int64 × ax_S} {a0 : Int64} {a2 : Int32} {s : ax_S} (h : fn_X10_more a0 a2 s = some q) : AW mm_X10_more 0 0 0 0 [some (av_l a0), none, some (av_i a2)] [] s (some (av_l q.1), q.2) := by
  unfold fn_X10_more at h
  refine ax_ldc2 (v := (31)) dX10_more_0 wd_1105 ?_
  refine ax_lload_n (i := 0) dX10_more_3 rfl rfl ?_
  refine ax_lmul dX10_more_4 ?_
  refine ax_iload_n (i := 2) dX10_more_5 rfl rfl ?_
  refine ax_i2l dX10_more_6 ?_
  refine ax_ladd dX10_more_7 ?_
  exact ax_retl dX10_more_8 h
set_option maxRecDepth 100000 in
set_option maxHeartbeats 4000000 in
theorem th_X10_more {q : Int64 × ax_S} {a0 : Int64} {a2 : Int32} {s : ax_S} (h : fn_X10_more a0 a2 s = some q) : AC mm_X10_more yX10_more 0 0 0 [av_l a0, av_i a2] s (some (av_l q.1), q.2) := by
  exact ax_met (L0 := [some (av_l a0), none, some (av_i a2)]) (by decide +kernel) rfl (fun h => absurd h (by decide)) ⟨rfl, rfl, trivial⟩ (Nat.le_of_ble_eq_true rfl) trivial (tw_X10_more h)
/-! X10_countOf -/
abbrev mm_X10_countOf : ax_M := (RX10, cX10_countOf, (some .int), 2, false)
def fn_X10_countOf (a0 : Option Nat) (a1 : Int32) (s : ax_S) : Option (Int32 × ax_S) :=
  if a1 = 0 then
    (ax_gi s 7 4 a0).bind fun x4 =>
    some (x4, s)
  else
    (ax_gr s 7 10 a0).bind fun r2 =>
    (ax_al s 9 r2 a1).bind fun x3 =>
    some (x3, s)
set_option maxRecDepth 100000 in
set_option maxHeartbeats 4000000 in
theorem tw_X10_countOf {q : Int32 × ax_S} {a0 : Option Nat} {a1 : Int32} {s : ax_S} (h : fn_X10_countOf a0 a1 s = some q) : AW mm_X10_countOf 0 0 0 0 [some (av_r a0), some (av_i a1)] [] s (some (av_i q.1), q.2) := by
  unfold fn_X10_countOf at h
  refine ax_iload_n (i := 1) dX10_countOf_0 rfl rfl ?_
  refine ax_if_ne (tgt := 11) dX10_countOf_1 (by decide) (fun c1 => ?_) (fun c1 => ?_)
  · rw [if_neg c1] at h
    refine ax_aload_n (i := 0) dX10_countOf_11 rfl rfl ?_
    obtain ⟨r2, gr2, h⟩ := Option.bind_eq_some_iff.mp h
    refine ax_getR (q := (RX10, TX10, 28)) (t := 7) (k := 10) dX10_countOf_12 rfl (by decide) wd_766 rfl gr2 ?_
    refine ax_iload_n (i := 1) dX10_countOf_15 rfl rfl ?_
    obtain ⟨x3, gx3, h⟩ := Option.bind_eq_some_iff.mp h
    refine ax_iald dX10_countOf_16 gx3 ?_
    exact ax_reti dX10_countOf_17 h
  · rw [if_pos c1] at h
    refine ax_aload_n (i := 0) dX10_countOf_4 rfl rfl ?_
    obtain ⟨x4, gx4, h⟩ := Option.bind_eq_some_iff.mp h
    refine ax_getI (q := (RX10, TX10, 28)) (t := 7) (k := 4) dX10_countOf_5 rfl (by decide) wd_760 rfl gx4 ?_
    refine ax_goto (tgt := 17) dX10_countOf_8 (by decide) ?_
    exact ax_reti dX10_countOf_17 h
set_option maxRecDepth 100000 in
set_option maxHeartbeats 4000000 in
theorem th_X10_countOf {q : Int32 × ax_S} {a0 : Option Nat} {a1 : Int32} {s : ax_S} (h : fn_X10_countOf a0 a1 s = some q) : AC mm_X10_countOf yX10_countOf 0 0 0 [av_r a0, av_i a1] s (some (av_i q.1), q.2) := by
  exact ax_met (L0 := [some (av_r a0), some (av_i a1)]) (by decide +kernel) rfl (fun h => absurd h (by decide)) ⟨rfl, rfl, trivial⟩ (Nat.le_of_ble_eq_true rfl) trivial (tw_X10_countOf h)
/-! X10_depthOf -/
abbrev mm_X10_depthOf : ax_M := (RX10, cX10_depthOf, (some .int), 6, false)
def fb_X10_depthOf_107 (k27 : Option Nat → Int32 → Int32 → ax_S → Option (Int32 × ax_S)) (k35 : Option Nat → Int32 → Int32 → Int32 → ax_S → Option (Int32 × ax_S)) (k48 : Option Nat → Int32 → Int32 → Int32 → Int32 → ax_S → Option (Int32 × ax_S)) (a0 : Option Nat) (a1 : Int32) (a2 : Int32) (a3 : Int32) (a4 : Int32) (b0 : Option Nat) (b1 : Int32) (s : ax_S) : Option (Int32 × ax_S) :=
  (ax_gr s 7 15 a0).bind fun r1 =>
  (ax_al s 9 r1 a3).bind fun x2 =>
  (ax_as s 9 b0 b1 x2).bind fun s3 =>
  k48 a0 a1 a2 a3 (a4 + (1)) s3
set_option maxRecDepth 100000 in
set_option maxHeartbeats 4000000 in
theorem tb_X10_depthOf_107 {q : Int32 × ax_S} {k27 : Option Nat → Int32 → Int32 → ax_S → Option (Int32 × ax_S)} {k35 : Option Nat → Int32 → Int32 → Int32 → ax_S → Option (Int32 × ax_S)} {k48 : Option Nat → Int32 → Int32 → Int32 → Int32 → ax_S → Option (Int32 × ax_S)} (hk27 : ∀ (a0 : Option Nat) (a1 : Int32) (a2 : Int32) (s : ax_S), k27 a0 a1 a2 s = some q → AW mm_X10_depthOf 1 0 0 27 [(some (av_r a0)), (some (av_i a1)), (some (av_i a2)), none, none, none] [] s (some (av_i q.1), q.2)) (hk35 : ∀ (a0 : Option Nat) (a1 : Int32) (a2 : Int32) (a3 : Int32) (s : ax_S), k35 a0 a1 a2 a3 s = some q → AW mm_X10_depthOf 1 0 0 35 [(some (av_r a0)), (some (av_i a1)), (some (av_i a2)), (some (av_i a3)), none, none] [] s (some (av_i q.1), q.2)) (hk48 : ∀ (a0 : Option Nat) (a1 : Int32) (a2 : Int32) (a3 : Int32) (a4 : Int32) (s : ax_S), k48 a0 a1 a2 a3 a4 s = some q → AW mm_X10_depthOf 1 0 0 48 [(some (av_r a0)), (some (av_i a1)), (some (av_i a2)), (some (av_i a3)), (some (av_i a4)), none] [] s (some (av_i q.1), q.2)) {a0 : Option Nat} {a1 : Int32} {a2 : Int32} {a3 : Int32} {a4 : Int32} {b0 : Option Nat} {b1 : Int32} {s : ax_S} (h : fb_X10_depthOf_107 k27 k35 k48 a0 a1 a2 a3 a4 b0 b1 s = some q) : AW mm_X10_depthOf 1 0 0 107 [(some (av_r a0)), (some (av_i a1)), (some (av_i a2)), (some (av_i a3)), (some (av_i a4)), none] [av_i b1, av_r b0] s (some (av_i q.1), q.2) := by
  unfold fb_X10_depthOf_107 at h
  refine ax_aload_n (i := 0) dX10_depthOf_107 rfl rfl ?_
  obtain ⟨r1, gr1, h⟩ := Option.bind_eq_some_iff.mp h
  refine ax_getR (q := (RX10, TX10, 28)) (t := 7) (k := 15) dX10_depthOf_108 rfl (by decide) wd_771 rfl gr1 ?_
  refine ax_iload_n (i := 3) dX10_depthOf_111 rfl rfl ?_
  obtain ⟨x2, gx2, h⟩ := Option.bind_eq_some_iff.mp h
  refine ax_iald dX10_depthOf_112 gx2 ?_
  obtain ⟨s3, gs3, h⟩ := Option.bind_eq_some_iff.mp h
  refine ax_iast dX10_depthOf_113 gs3 ?_
  refine ax_iinc (i := 4) (v := (a4 + (1))) (L2 := [some (av_r a0), some (av_i a1), some (av_i a2), some (av_i a3), some (av_i (a4 + (1))), none]) dX10_depthOf_114 rfl rfl (by decide) rfl rfl ?_
  refine ax_goto (tgt := 48) dX10_depthOf_117 (by decide) ?_
  exact ax_less (L' := [(some (av_r a0)), (some (av_i a1)), (some (av_i a2)), (some (av_i a3)), (some (av_i (a4 + (1)))), none]) ⟨rfl, rfl, rfl, rfl, rfl, trivial⟩ (hk48 _ _ _ _ _ _ h)
def fb_X10_depthOf_48 (k27 : Option Nat → Int32 → Int32 → ax_S → Option (Int32 × ax_S)) (k35 : Option Nat → Int32 → Int32 → Int32 → ax_S → Option (Int32 × ax_S)) : Nat → Option Nat → Int32 → Int32 → Int32 → Int32 → ax_S → Option (Int32 × ax_S)
  | 0, _, _, _, _, _, _ => none
  | n + 1, a0, a1, a2, a3, a4, s =>
    if (3) ≤ a4 then
      k35 a0 a1 a2 (a3 + (1)) s
    else
      (ax_gr s 7 0 a0).bind fun r5 =>
      (fn_X10_at a3 ((3) + a4) s).bind fun q6 =>
      (ax_al q6.2 9 r5 q6.1).bind fun x7 =>
      (ax_gr q6.2 7 15 a0).bind fun r8 =>
      if x7 < 0 then
        fb_X10_depthOf_107 k27 k35 (fb_X10_depthOf_48 k27 k35 n) a0 a1 a2 a3 a4 r8 a3 q6.2
      else
        (ax_gr q6.2 7 15 a0).bind fun r10 =>
        (ax_al q6.2 9 r10 x7).bind fun x11 =>
        (ax_gr q6.2 7 15 a0).bind fun r12 =>
        (ax_al q6.2 9 r12 a3).bind fun x13 =>
        if x11 < x13 then
          fb_X10_depthOf_107 k27 k35 (fb_X10_depthOf_48 k27 k35 n) a0 a1 a2 a3 a4 r8 a3 q6.2
        else
          (ax_gr q6.2 7 15 a0).bind fun r15 =>
          (ax_al q6.2 9 r15 x7).bind fun x16 =>
          (ax_as q6.2 9 r8 a3 (x16 + (1))).bind fun s17 =>
          (fb_X10_depthOf_48 k27 k35 n) a0 a1 a2 a3 (a4 + (1)) s17
set_option maxRecDepth 100000 in
set_option maxHeartbeats 4000000 in
theorem tb_X10_depthOf_48 {q : Int32 × ax_S} {k27 : Option Nat → Int32 → Int32 → ax_S → Option (Int32 × ax_S)} {k35 : Option Nat → Int32 → Int32 → Int32 → ax_S → Option (Int32 × ax_S)} (hk27 : ∀ (a0 : Option Nat) (a1 : Int32) (a2 : Int32) (s : ax_S), k27 a0 a1 a2 s = some q → AW mm_X10_depthOf 1 0 0 27 [(some (av_r a0)), (some (av_i a1)), (some (av_i a2)), none, none, none] [] s (some (av_i q.1), q.2)) (hk35 : ∀ (a0 : Option Nat) (a1 : Int32) (a2 : Int32) (a3 : Int32) (s : ax_S), k35 a0 a1 a2 a3 s = some q → AW mm_X10_depthOf 1 0 0 35 [(some (av_r a0)), (some (av_i a1)), (some (av_i a2)), (some (av_i a3)), none, none] [] s (some (av_i q.1), q.2)) : ∀ (n : Nat) (a0 : Option Nat) (a1 : Int32) (a2 : Int32) (a3 : Int32) (a4 : Int32) (s : ax_S) (h : fb_X10_depthOf_48 k27 k35 n a0 a1 a2 a3 a4 s = some q), AW mm_X10_depthOf 1 0 0 48 [(some (av_r a0)), (some (av_i a1)), (some (av_i a2)), (some (av_i a3)), (some (av_i a4)), none] [] s (some (av_i q.1), q.2) := by
  intro n
  induction n with
  | zero =>
    intro a0 a1 a2 a3 a4 s h
    exact ax_no h
  | succ n ih =>
    intro a0 a1 a2 a3 a4 s h
    unfold fb_X10_depthOf_48 at h
    refine ax_iload (i := 4) dX10_depthOf_48 rfl ?_
    refine ax_iconst (v := (3)) dX10_depthOf_50 rfl ?_
    refine ax_icmp_ge (tgt := 120) dX10_depthOf_51 (by decide) (fun c4 => ?_) (fun c4 => ?_)
    · rw [if_pos c4] at h
      refine ax_iinc (i := 3) (v := (a3 + (1))) (L2 := [some (av_r a0), some (av_i a1), some (av_i a2), some (av_i (a3 + (1))), some (av_i a4), none]) dX10_depthOf_120 rfl rfl (by decide) rfl rfl ?_
      refine ax_goto (tgt := 35) dX10_depthOf_123 (by decide) ?_
      exact ax_less (L' := [(some (av_r a0)), (some (av_i a1)), (some (av_i a2)), (some (av_i (a3 + (1)))), none, none]) ⟨rfl, rfl, rfl, rfl, trivial⟩ (hk35 _ _ _ _ _ h)
    · rw [if_neg c4] at h
      refine ax_aload_n (i := 0) dX10_depthOf_54 rfl rfl ?_
      obtain ⟨r5, gr5, h⟩ := Option.bind_eq_some_iff.mp h
      refine ax_getR (q := (RX10, TX10, 28)) (t := 7) (k := 0) dX10_depthOf_55 rfl (by decide) wd_756 rfl gr5 ?_
      refine ax_iload_n (i := 3) dX10_depthOf_58 rfl rfl ?_
      refine ax_iconst (v := (3)) dX10_depthOf_59 rfl ?_
      refine ax_iload (i := 4) dX10_depthOf_60 rfl ?_
      refine ax_iadd dX10_depthOf_62 ?_
      obtain ⟨q6, gq6, h⟩ := Option.bind_eq_some_iff.mp h
      refine ax_cS (As := [av_i a3, av_i ((3) + a4)]) dX10_depthOf_63 (th_X10_at gq6) (And.intro wd_858 wd_59) wd_856 wd_857 cy_X10_at (by omega) (by decide) (Nat.le_of_ble_eq_true rfl) rfl ?_
      obtain ⟨x7, gx7, h⟩ := Option.bind_eq_some_iff.mp h
      refine ax_iald dX10_depthOf_66 gx7 ?_
      refine ax_istore (i := 5) (L2 := [some (av_r a0), some (av_i a1), some (av_i a2), some (av_i a3), some (av_i a4), some (av_i x7)]) dX10_depthOf_67 (by decide) rfl rfl ?_
      refine ax_aload_n (i := 0) dX10_depthOf_69 rfl rfl ?_
      obtain ⟨r8, gr8, h⟩ := Option.bind_eq_some_iff.mp h
      refine ax_getR (q := (RX10, TX10, 28)) (t := 7) (k := 15) dX10_depthOf_70 rfl (by decide) wd_771 rfl gr8 ?_
      refine ax_iload_n (i := 3) dX10_depthOf_73 rfl rfl ?_
      refine ax_iload (i := 5) dX10_depthOf_74 rfl ?_
      refine ax_if_lt (tgt := 107) dX10_depthOf_76 (by decide) (fun c9 => ?_) (fun c9 => ?_)
      · rw [if_pos c9] at h
        exact ax_less (L' := [(some (av_r a0)), (some (av_i a1)), (some (av_i a2)), (some (av_i a3)), (some (av_i a4)), none]) ⟨rfl, rfl, rfl, rfl, rfl, trivial⟩ (tb_X10_depthOf_107 hk27 hk35 ih h)
      · rw [if_neg c9] at h
        refine ax_aload_n (i := 0) dX10_depthOf_79 rfl rfl ?_
        obtain ⟨r10, gr10, h⟩ := Option.bind_eq_some_iff.mp h
        refine ax_getR (q := (RX10, TX10, 28)) (t := 7) (k := 15) dX10_depthOf_80 rfl (by decide) wd_771 rfl gr10 ?_
        refine ax_iload (i := 5) dX10_depthOf_83 rfl ?_
        obtain ⟨x11, gx11, h⟩ := Option.bind_eq_some_iff.mp h
        refine ax_iald dX10_depthOf_85 gx11 ?_
        refine ax_aload_n (i := 0) dX10_depthOf_86 rfl rfl ?_
        obtain ⟨r12, gr12, h⟩ := Option.bind_eq_some_iff.mp h
        refine ax_getR (q := (RX10, TX10, 28)) (t := 7) (k := 15) dX10_depthOf_87 rfl (by decide) wd_771 rfl gr12 ?_
        refine ax_iload_n (i := 3) dX10_depthOf_90 rfl rfl ?_
        obtain ⟨x13, gx13, h⟩ := Option.bind_eq_some_iff.mp h
        refine ax_iald dX10_depthOf_91 gx13 ?_
        refine ax_icmp_lt (tgt := 107) dX10_depthOf_92 (by decide) (fun c14 => ?_) (fun c14 => ?_)
        · rw [if_pos c14] at h
          exact ax_less (L' := [(some (av_r a0)), (some (av_i a1)), (some (av_i a2)), (some (av_i a3)), (some (av_i a4)), none]) ⟨rfl, rfl, rfl, rfl, rfl, trivial⟩ (tb_X10_depthOf_107 hk27 hk35 ih h)
        · rw [if_neg c14] at h
          refine ax_aload_n (i := 0) dX10_depthOf_95 rfl rfl ?_
          obtain ⟨r15, gr15, h⟩ := Option.bind_eq_some_iff.mp h
          refine ax_getR (q := (RX10, TX10, 28)) (t := 7) (k := 15) dX10_depthOf_96 rfl (by decide) wd_771 rfl gr15 ?_
          refine ax_iload (i := 5) dX10_depthOf_99 rfl ?_
          obtain ⟨x16, gx16, h⟩ := Option.bind_eq_some_iff.mp h
          refine ax_iald dX10_depthOf_101 gx16 ?_
          refine ax_iconst (v := (1)) dX10_depthOf_102 rfl ?_
          refine ax_iadd dX10_depthOf_103 ?_
          refine ax_goto (tgt := 113) dX10_depthOf_104 (by decide) ?_
          obtain ⟨s17, gs17, h⟩ := Option.bind_eq_some_iff.mp h
          refine ax_iast dX10_depthOf_113 gs17 ?_
          refine ax_iinc (i := 4) (v := (a4 + (1))) (L2 := [some (av_r a0), some (av_i a1), some (av_i a2), some (av_i a3), some (av_i (a4 + (1))), some (av_i x7)]) dX10_depthOf_114 rfl rfl (by decide) rfl rfl ?_
          refine ax_goto (tgt := 48) dX10_depthOf_117 (by decide) ?_
          exact ax_less (L' := [(some (av_r a0)), (some (av_i a1)), (some (av_i a2)), (some (av_i a3)), (some (av_i (a4 + (1)))), none]) ⟨rfl, rfl, rfl, rfl, rfl, trivial⟩ (ih _ _ _ _ _ _ h)
def fb_X10_depthOf_35 (k27 : Option Nat → Int32 → Int32 → ax_S → Option (Int32 × ax_S)) : Nat → Option Nat → Int32 → Int32 → Int32 → ax_S → Option (Int32 × ax_S)
  | 0, _, _, _, _, _ => none
  | n + 1, a0, a1, a2, a3, s =>
    (ax_gr s 7 0 a0).bind fun r18 =>
    (ax_al s 9 r18 (0)).bind fun x19 =>
    if x19 ≤ a3 then
      k27 a0 a1 (a2 + (1)) s
    else
      fb_X10_depthOf_48 k27 (fb_X10_depthOf_35 k27 n) 10000 a0 a1 a2 a3 (0) s
set_option maxRecDepth 100000 in
set_option maxHeartbeats 4000000 in
theorem tb_X10_depthOf_35 {q : Int32 × ax_S} {k27 : Option Nat → Int32 → Int32 → ax_S → Option (Int32 × ax_S)} (hk27 : ∀ (a0 : Option Nat) (a1 : Int32) (a2 : Int32) (s : ax_S), k27 a0 a1 a2 s = some q → AW mm_X10_depthOf 1 0 0 27 [(some (av_r a0)), (some (av_i a1)), (some (av_i a2)), none, none, none] [] s (some (av_i q.1), q.2)) : ∀ (n : Nat) (a0 : Option Nat) (a1 : Int32) (a2 : Int32) (a3 : Int32) (s : ax_S) (h : fb_X10_depthOf_35 k27 n a0 a1 a2 a3 s = some q), AW mm_X10_depthOf 1 0 0 35 [(some (av_r a0)), (some (av_i a1)), (some (av_i a2)), (some (av_i a3)), none, none] [] s (some (av_i q.1), q.2) := by
  intro n
  induction n with
  | zero =>
    intro a0 a1 a2 a3 s h
    exact ax_no h
  | succ n ih =>
    intro a0 a1 a2 a3 s h
    unfold fb_X10_depthOf_35 at h
    refine ax_iload_n (i := 3) dX10_depthOf_35 rfl rfl ?_
    refine ax_aload_n (i := 0) dX10_depthOf_36 rfl rfl ?_
    obtain ⟨r18, gr18, h⟩ := Option.bind_eq_some_iff.mp h
    refine ax_getR (q := (RX10, TX10, 28)) (t := 7) (k := 0) dX10_depthOf_37 rfl (by decide) wd_756 rfl gr18 ?_
    refine ax_iconst (v := (0)) dX10_depthOf_40 rfl ?_
    obtain ⟨x19, gx19, h⟩ := Option.bind_eq_some_iff.mp h
    refine ax_iald dX10_depthOf_41 gx19 ?_
    refine ax_icmp_ge (tgt := 126) dX10_depthOf_42 (by decide) (fun c20 => ?_) (fun c20 => ?_)
    · rw [if_pos c20] at h
      refine ax_iinc (i := 2) (v := (a2 + (1))) (L2 := [some (av_r a0), some (av_i a1), some (av_i (a2 + (1))), some (av_i a3), none, none]) dX10_depthOf_126 rfl rfl (by decide) rfl rfl ?_
      refine ax_goto (tgt := 27) dX10_depthOf_129 (by decide) ?_
      exact ax_less (L' := [(some (av_r a0)), (some (av_i a1)), (some (av_i (a2 + (1)))), none, none, none]) ⟨rfl, rfl, rfl, trivial⟩ (hk27 _ _ _ _ h)
    · rw [if_neg c20] at h
      refine ax_iconst (v := (0)) dX10_depthOf_45 rfl ?_
      refine ax_istore (i := 4) (L2 := [some (av_r a0), some (av_i a1), some (av_i a2), some (av_i a3), some (av_i (0)), none]) dX10_depthOf_46 (by decide) rfl rfl ?_
      exact ax_less (L' := [(some (av_r a0)), (some (av_i a1)), (some (av_i a2)), (some (av_i a3)), (some (av_i (0))), none]) ⟨rfl, rfl, rfl, rfl, rfl, trivial⟩ (tb_X10_depthOf_48 hk27 ih _ _ _ _ _ _ _ h)
def fb_X10_depthOf_27 : Nat → Option Nat → Int32 → Int32 → ax_S → Option (Int32 × ax_S)
  | 0, _, _, _, _ => none
  | n + 1, a0, a1, a2, s =>
    if (12) ≤ a2 then
      (ax_gr s 7 15 a0).bind fun r22 =>
      (ax_al s 9 r22 a1).bind fun x23 =>
      some (x23, s)
    else
      fb_X10_depthOf_35 (fb_X10_depthOf_27 n) 10000 a0 a1 a2 (0) s
set_option maxRecDepth 100000 in
set_option maxHeartbeats 4000000 in
theorem tb_X10_depthOf_27 {q : Int32 × ax_S} : ∀ (n : Nat) (a0 : Option Nat) (a1 : Int32) (a2 : Int32) (s : ax_S) (h : fb_X10_depthOf_27 n a0 a1 a2 s = some q), AW mm_X10_depthOf 1 0 0 27 [(some (av_r a0)), (some (av_i a1)), (some (av_i a2)), none, none, none] [] s (some (av_i q.1), q.2) := by
  intro n
  induction n with
  | zero =>
    intro a0 a1 a2 s h
    exact ax_no h
  | succ n ih =>
    intro a0 a1 a2 s h
    unfold fb_X10_depthOf_27 at h
    refine ax_iload_n (i := 2) dX10_depthOf_27 rfl rfl ?_
    refine ax_bipush (v := (12)) dX10_depthOf_28 rfl ?_
    refine ax_icmp_ge (tgt := 132) dX10_depthOf_30 (by decide) (fun c21 => ?_) (fun c21 => ?_)
    · rw [if_pos c21] at h
      refine ax_aload_n (i := 0) dX10_depthOf_132 rfl rfl ?_
      obtain ⟨r22, gr22, h⟩ := Option.bind_eq_some_iff.mp h
      refine ax_getR (q := (RX10, TX10, 28)) (t := 7) (k := 15) dX10_depthOf_133 rfl (by decide) wd_771 rfl gr22 ?_
      refine ax_iload_n (i := 1) dX10_depthOf_136 rfl rfl ?_
      obtain ⟨x23, gx23, h⟩ := Option.bind_eq_some_iff.mp h
      refine ax_iald dX10_depthOf_137 gx23 ?_
      exact ax_reti dX10_depthOf_138 h
    · rw [if_neg c21] at h
      refine ax_iconst (v := (0)) dX10_depthOf_33 rfl ?_
      refine ax_istore_n (i := 3) (L2 := [some (av_r a0), some (av_i a1), some (av_i a2), some (av_i (0)), none, none]) dX10_depthOf_34 rfl (by decide) rfl rfl ?_
      exact ax_less (L' := [(some (av_r a0)), (some (av_i a1)), (some (av_i a2)), (some (av_i (0))), none, none]) ⟨rfl, rfl, rfl, rfl, trivial⟩ (tb_X10_depthOf_35 ih _ _ _ _ _ _ h)
def fb_X10_depthOf_2 : Nat → Option Nat → Int32 → Int32 → ax_S → Option (Int32 × ax_S)
  | 0, _, _, _, _ => none
  | n + 1, a0, a1, a2, s =>
    (ax_gr s 7 0 a0).bind fun r24 =>
    (ax_al s 9 r24 (0)).bind fun x25 =>
    if x25 ≤ a2 then
      fb_X10_depthOf_27 10000 a0 a1 (0) s
    else
      (ax_gr s 7 15 a0).bind fun r27 =>
      (ax_as s 9 r27 a2 (0)).bind fun s28 =>
      (fb_X10_depthOf_2 n) a0 a1 (a2 + (1)) s28
set_option maxRecDepth 100000 in
set_option maxHeartbeats 4000000 in
theorem tb_X10_depthOf_2 {q : Int32 × ax_S} : ∀ (n : Nat) (a0 : Option Nat) (a1 : Int32) (a2 : Int32) (s : ax_S) (h : fb_X10_depthOf_2 n a0 a1 a2 s = some q), AW mm_X10_depthOf 1 0 0 2 [(some (av_r a0)), (some (av_i a1)), (some (av_i a2)), none, none, none] [] s (some (av_i q.1), q.2) := by
  intro n
  induction n with
  | zero =>
    intro a0 a1 a2 s h
    exact ax_no h
  | succ n ih =>
    intro a0 a1 a2 s h
    unfold fb_X10_depthOf_2 at h
    refine ax_iload_n (i := 2) dX10_depthOf_2 rfl rfl ?_
    refine ax_aload_n (i := 0) dX10_depthOf_3 rfl rfl ?_
    obtain ⟨r24, gr24, h⟩ := Option.bind_eq_some_iff.mp h
    refine ax_getR (q := (RX10, TX10, 28)) (t := 7) (k := 0) dX10_depthOf_4 rfl (by decide) wd_756 rfl gr24 ?_
    refine ax_iconst (v := (0)) dX10_depthOf_7 rfl ?_
    obtain ⟨x25, gx25, h⟩ := Option.bind_eq_some_iff.mp h
    refine ax_iald dX10_depthOf_8 gx25 ?_
    refine ax_icmp_ge (tgt := 25) dX10_depthOf_9 (by decide) (fun c26 => ?_) (fun c26 => ?_)
    · rw [if_pos c26] at h
      refine ax_iconst (v := (0)) dX10_depthOf_25 rfl ?_
      refine ax_istore_n (i := 2) (L2 := [some (av_r a0), some (av_i a1), some (av_i (0)), none, none, none]) dX10_depthOf_26 rfl (by decide) rfl rfl ?_
      exact ax_less (L' := [(some (av_r a0)), (some (av_i a1)), (some (av_i (0))), none, none, none]) ⟨rfl, rfl, rfl, trivial⟩ (tb_X10_depthOf_27  _ _ _ _ _ h)
    · rw [if_neg c26] at h
      refine ax_aload_n (i := 0) dX10_depthOf_12 rfl rfl ?_
      obtain ⟨r27, gr27, h⟩ := Option.bind_eq_some_iff.mp h
      refine ax_getR (q := (RX10, TX10, 28)) (t := 7) (k := 15) dX10_depthOf_13 rfl (by decide) wd_771 rfl gr27 ?_
      refine ax_iload_n (i := 2) dX10_depthOf_16 rfl rfl ?_
      refine ax_iconst (v := (0)) dX10_depthOf_17 rfl ?_
      obtain ⟨s28, gs28, h⟩ := Option.bind_eq_some_iff.mp h
      refine ax_iast dX10_depthOf_18 gs28 ?_
      refine ax_iinc (i := 2) (v := (a2 + (1))) (L2 := [some (av_r a0), some (av_i a1), some (av_i (a2 + (1))), none, none, none]) dX10_depthOf_19 rfl rfl (by decide) rfl rfl ?_
      refine ax_goto (tgt := 2) dX10_depthOf_22 (by decide) ?_
      exact ax_less (L' := [(some (av_r a0)), (some (av_i a1)), (some (av_i (a2 + (1)))), none, none, none]) ⟨rfl, rfl, rfl, trivial⟩ (ih _ _ _ _ h)
def fn_X10_depthOf (a0 : Option Nat) (a1 : Int32) (s : ax_S) : Option (Int32 × ax_S) :=
  fb_X10_depthOf_2 10000 a0 a1 (0) s
set_option maxRecDepth 100000 in
set_option maxHeartbeats 4000000 in
theorem tw_X10_depthOf {q : Int32 × ax_S} {a0 : Option Nat} {a1 : Int32} {s : ax_S} (h : fn_X10_depthOf a0 a1 s = some q) : AW mm_X10_depthOf 1 0 0 0 [some (av_r a0), some (av_i a1), none, none, none, none] [] s (some (av_i q.1), q.2) := by
  unfold fn_X10_depthOf at h
  refine ax_iconst (v := (0)) dX10_depthOf_0 rfl ?_
  refine ax_istore_n (i := 2) (L2 := [some (av_r a0), some (av_i a1), some (av_i (0)), none, none, none]) dX10_depthOf_1 rfl (by decide) rfl rfl ?_
  exact ax_less (L' := [(some (av_r a0)), (some (av_i a1)), (some (av_i (0))), none, none, none]) ⟨rfl, rfl, rfl, trivial⟩ (tb_X10_depthOf_2  _ _ _ _ _ h)
set_option maxRecDepth 100000 in
set_option maxHeartbeats 4000000 in
theorem th_X10_depthOf {q : Int32 × ax_S} {a0 : Option Nat} {a1 : Int32} {s : ax_S} (h : fn_X10_depthOf a0 a1 s = some q) : AC mm_X10_depthOf yX10_depthOf 1 0 0 [av_r a0, av_i a1] s (some (av_i q.1), q.2) := by
  exact ax_met (L0 := [some (av_r a0), some (av_i a1), none, none, none, none]) (by decide +kernel) rfl (fun h => absurd h (by decide)) ⟨rfl, rfl, trivial⟩ (Nat.le_of_ble_eq_true rfl) trivial (tw_X10_depthOf h)
/-! X10_size -/
abbrev mm_X10_size : ax_M := (RX10, cX10_size, (some .int), 3, false)
def fb_X10_size_4 : Nat → Int32 → Int32 → ax_S → Option (Int32 × ax_S)
  | 0, _, _, _ => none
  | n + 1, a1, a2, s =>
    if a2 = 0 then
      some (a1, s)
    else
      ax_bd ((a2 &&& (a2 - (1)))) fun v2 =>
      (fb_X10_size_4 n) (a1 + (1)) v2 s
set_option maxRecDepth 100000 in
set_option maxHeartbeats 4000000 in
theorem tb_X10_size_4 {q : Int32 × ax_S} : ∀ (n : Nat) (a1 : Int32) (a2 : Int32) (s : ax_S) (h : fb_X10_size_4 n a1 a2 s = some q), AW mm_X10_size 0 0 0 4 [none, (some (av_i a1)), (some (av_i a2))] [] s (some (av_i q.1), q.2) := by
  intro n
  induction n with
  | zero =>
    intro a1 a2 s h
    exact ax_no h
  | succ n ih =>
    intro a1 a2 s h
    unfold fb_X10_size_4 at h
    refine ax_iload_n (i := 2) dX10_size_4 rfl rfl ?_
    refine ax_if_eq (tgt := 20) dX10_size_5 (by decide) (fun c1 => ?_) (fun c1 => ?_)
    · rw [if_pos c1] at h
      refine ax_iload_n (i := 1) dX10_size_20 rfl rfl ?_
      exact ax_reti dX10_size_21 h
    · rw [if_neg c1] at h
      refine ax_iinc (i := 1) (v := (a1 + (1))) (L2 := [none, some (av_i (a1 + (1))), some (av_i a2)]) dX10_size_8 rfl rfl (by decide) rfl rfl ?_
      refine ax_iload_n (i := 2) dX10_size_11 rfl rfl ?_
      refine ax_iload_n (i := 2) dX10_size_12 rfl rfl ?_
      refine ax_iconst (v := (1)) dX10_size_13 rfl ?_
      refine ax_isub dX10_size_14 ?_
      refine ax_iand dX10_size_15 ?_
      refine ax_bdI h (fun v2 h => ?_)
      refine ax_istore_n (i := 2) (L2 := [none, some (av_i (a1 + (1))), some (av_i v2)]) dX10_size_16 rfl (by decide) rfl rfl ?_
      refine ax_goto (tgt := 4) dX10_size_17 (by decide) ?_
      exact ax_less (L' := [none, (some (av_i (a1 + (1)))), (some (av_i v2))]) ⟨rfl, rfl, trivial⟩ (ih _ _ _ h)
def fn_X10_size (a0 : Int32) (s : ax_S) : Option (Int32 × ax_S) :=
  fb_X10_size_4 10000 (0) a0 s
set_option maxRecDepth 100000 in
set_option maxHeartbeats 4000000 in
theorem tw_X10_size {q : Int32 × ax_S} {a0 : Int32} {s : ax_S} (h : fn_X10_size a0 s = some q) : AW mm_X10_size 0 0 0 0 [some (av_i a0), none, none] [] s (some (av_i q.1), q.2) := by
  unfold fn_X10_size at h
  refine ax_iconst (v := (0)) dX10_size_0 rfl ?_
  refine ax_istore_n (i := 1) (L2 := [some (av_i a0), some (av_i (0)), none]) dX10_size_1 rfl (by decide) rfl rfl ?_
  refine ax_iload_n (i := 0) dX10_size_2 rfl rfl ?_
  refine ax_istore_n (i := 2) (L2 := [some (av_i a0), some (av_i (0)), some (av_i a0)]) dX10_size_3 rfl (by decide) rfl rfl ?_
  exact ax_less (L' := [none, (some (av_i (0))), (some (av_i a0))]) ⟨rfl, rfl, trivial⟩ (tb_X10_size_4  _ _ _ _ h)
set_option maxRecDepth 100000 in
set_option maxHeartbeats 4000000 in
theorem th_X10_size {q : Int32 × ax_S} {a0 : Int32} {s : ax_S} (h : fn_X10_size a0 s = some q) : AC mm_X10_size yX10_size 0 0 0 [av_i a0] s (some (av_i q.1), q.2) := by
  exact ax_met (L0 := [some (av_i a0), none, none]) (by decide +kernel) rfl (fun h => absurd h (by decide)) ⟨rfl, trivial⟩ (Nat.le_of_ble_eq_true rfl) trivial (tw_X10_size h)
/-! X10_dependents -/
abbrev mm_X10_dependents : ax_M := (RX10, cX10_dependents, (some .int), 7, false)
def fb_X10_dependents_75 (k6 : Option Nat → Int32 → Int32 → ax_S → Option (Int32 × ax_S)) (k15 : Option Nat → Int32 → Int32 → Int32 → ax_S → Option (Int32 × ax_S)) (k29 : Option Nat → Int32 → Int32 → Int32 → Int32 → ax_S → Option (Int32 × ax_S)) (a0 : Option Nat) (a3 : Int32) (a4 : Int32) (a5 : Int32) (b0 : Int32) (b1 : Int32) (s : ax_S) : Option (Int32 × ax_S) :=
  ax_bd ((b0 ||| b1)) fun v1 =>
  k29 a0 v1 a3 a4 (a5 + (1)) s
set_option maxRecDepth 100000 in
set_option maxHeartbeats 4000000 in
theorem tb_X10_dependents_75 {q : Int32 × ax_S} {k6 : Option Nat → Int32 → Int32 → ax_S → Option (Int32 × ax_S)} {k15 : Option Nat → Int32 → Int32 → Int32 → ax_S → Option (Int32 × ax_S)} {k29 : Option Nat → Int32 → Int32 → Int32 → Int32 → ax_S → Option (Int32 × ax_S)} (hk6 : ∀ (a0 : Option Nat) (a2 : Int32) (a3 : Int32) (s : ax_S), k6 a0 a2 a3 s = some q → AW mm_X10_dependents 1 0 0 6 [(some (av_r a0)), none, (some (av_i a2)), (some (av_i a3)), none, none, none] [] s (some (av_i q.1), q.2)) (hk15 : ∀ (a0 : Option Nat) (a2 : Int32) (a3 : Int32) (a4 : Int32) (s : ax_S), k15 a0 a2 a3 a4 s = some q → AW mm_X10_dependents 1 0 0 15 [(some (av_r a0)), none, (some (av_i a2)), (some (av_i a3)), (some (av_i a4)), none, none] [] s (some (av_i q.1), q.2)) (hk29 : ∀ (a0 : Option Nat) (a2 : Int32) (a3 : Int32) (a4 : Int32) (a5 : Int32) (s : ax_S), k29 a0 a2 a3 a4 a5 s = some q → AW mm_X10_dependents 1 0 0 29 [(some (av_r a0)), none, (some (av_i a2)), (some (av_i a3)), (some (av_i a4)), (some (av_i a5)), none] [] s (some (av_i q.1), q.2)) {a0 : Option Nat} {a3 : Int32} {a4 : Int32} {a5 : Int32} {b0 : Int32} {b1 : Int32} {s : ax_S} (h : fb_X10_dependents_75 k6 k15 k29 a0 a3 a4 a5 b0 b1 s = some q) : AW mm_X10_dependents 1 0 0 75 [(some (av_r a0)), none, none, (some (av_i a3)), (some (av_i a4)), (some (av_i a5)), none] [av_i b1, av_i b0] s (some (av_i q.1), q.2) := by
  unfold fb_X10_dependents_75 at h
  refine ax_ior dX10_dependents_75 ?_
  refine ax_bdI h (fun v1 h => ?_)
  refine ax_istore_n (i := 2) (L2 := [some (av_r a0), none, some (av_i v1), some (av_i a3), some (av_i a4), some (av_i a5), none]) dX10_dependents_76 rfl (by decide) rfl rfl ?_
  refine ax_iinc (i := 5) (v := (a5 + (1))) (L2 := [some (av_r a0), none, some (av_i v1), some (av_i a3), some (av_i a4), some (av_i (a5 + (1))), none]) dX10_dependents_77 rfl rfl (by decide) rfl rfl ?_
  refine ax_goto (tgt := 29) dX10_dependents_80 (by decide) ?_
  exact ax_less (L' := [(some (av_r a0)), none, (some (av_i v1)), (some (av_i a3)), (some (av_i a4)), (some (av_i (a5 + (1)))), none]) ⟨rfl, rfl, rfl, rfl, rfl, trivial⟩ (hk29 _ _ _ _ _ _ h)
def fb_X10_dependents_74 (k6 : Option Nat → Int32 → Int32 → ax_S → Option (Int32 × ax_S)) (k15 : Option Nat → Int32 → Int32 → Int32 → ax_S → Option (Int32 × ax_S)) (k29 : Option Nat → Int32 → Int32 → Int32 → Int32 → ax_S → Option (Int32 × ax_S)) (a0 : Option Nat) (a3 : Int32) (a4 : Int32) (a5 : Int32) (b0 : Int32) (s : ax_S) : Option (Int32 × ax_S) :=
  fb_X10_dependents_75 k6 k15 k29 a0 a3 a4 a5 b0 (0) s
set_option maxRecDepth 100000 in
set_option maxHeartbeats 4000000 in
theorem tb_X10_dependents_74 {q : Int32 × ax_S} {k6 : Option Nat → Int32 → Int32 → ax_S → Option (Int32 × ax_S)} {k15 : Option Nat → Int32 → Int32 → Int32 → ax_S → Option (Int32 × ax_S)} {k29 : Option Nat → Int32 → Int32 → Int32 → Int32 → ax_S → Option (Int32 × ax_S)} (hk6 : ∀ (a0 : Option Nat) (a2 : Int32) (a3 : Int32) (s : ax_S), k6 a0 a2 a3 s = some q → AW mm_X10_dependents 1 0 0 6 [(some (av_r a0)), none, (some (av_i a2)), (some (av_i a3)), none, none, none] [] s (some (av_i q.1), q.2)) (hk15 : ∀ (a0 : Option Nat) (a2 : Int32) (a3 : Int32) (a4 : Int32) (s : ax_S), k15 a0 a2 a3 a4 s = some q → AW mm_X10_dependents 1 0 0 15 [(some (av_r a0)), none, (some (av_i a2)), (some (av_i a3)), (some (av_i a4)), none, none] [] s (some (av_i q.1), q.2)) (hk29 : ∀ (a0 : Option Nat) (a2 : Int32) (a3 : Int32) (a4 : Int32) (a5 : Int32) (s : ax_S), k29 a0 a2 a3 a4 a5 s = some q → AW mm_X10_dependents 1 0 0 29 [(some (av_r a0)), none, (some (av_i a2)), (some (av_i a3)), (some (av_i a4)), (some (av_i a5)), none] [] s (some (av_i q.1), q.2)) {a0 : Option Nat} {a3 : Int32} {a4 : Int32} {a5 : Int32} {b0 : Int32} {s : ax_S} (h : fb_X10_dependents_74 k6 k15 k29 a0 a3 a4 a5 b0 s = some q) : AW mm_X10_dependents 1 0 0 74 [(some (av_r a0)), none, none, (some (av_i a3)), (some (av_i a4)), (some (av_i a5)), none] [av_i b0] s (some (av_i q.1), q.2) := by
  unfold fb_X10_dependents_74 at h
  refine ax_iconst (v := (0)) dX10_dependents_74 rfl ?_
  exact ax_less (L' := [(some (av_r a0)), none, none, (some (av_i a3)), (some (av_i a4)), (some (av_i a5)), none]) ⟨rfl, rfl, rfl, rfl, trivial⟩ (tb_X10_dependents_75 hk6 hk15 hk29 h)
def fb_X10_dependents_29 (k6 : Option Nat → Int32 → Int32 → ax_S → Option (Int32 × ax_S)) (k15 : Option Nat → Int32 → Int32 → Int32 → ax_S → Option (Int32 × ax_S)) : Nat → Option Nat → Int32 → Int32 → Int32 → Int32 → ax_S → Option (Int32 × ax_S)
  | 0, _, _, _, _, _, _ => none
  | n + 1, a0, a2, a3, a4, a5, s =>
    if (3) ≤ a5 then
      k15 a0 a2 a3 (a4 + (1)) s
    else
      (ax_gr s 7 0 a0).bind fun r3 =>
      (fn_X10_at a4 ((3) + a5) s).bind fun q4 =>
      (ax_al q4.2 9 r3 q4.1).bind fun x5 =>
      if x5 < 0 then
        fb_X10_dependents_74 k6 k15 (fb_X10_dependents_29 k6 k15 n) a0 a3 a4 a5 a2 q4.2
      else
        if ((a2 >>> (x5 &&& 31)) &&& (1)) = (1) then
          fb_X10_dependents_75 k6 k15 (fb_X10_dependents_29 k6 k15 n) a0 a3 a4 a5 a2 ((1) <<< (a4 &&& 31)) q4.2
        else
          fb_X10_dependents_74 k6 k15 (fb_X10_dependents_29 k6 k15 n) a0 a3 a4 a5 a2 q4.2
set_option maxRecDepth 100000 in
set_option maxHeartbeats 4000000 in
theorem tb_X10_dependents_29 {q : Int32 × ax_S} {k6 : Option Nat → Int32 → Int32 → ax_S → Option (Int32 × ax_S)} {k15 : Option Nat → Int32 → Int32 → Int32 → ax_S → Option (Int32 × ax_S)} (hk6 : ∀ (a0 : Option Nat) (a2 : Int32) (a3 : Int32) (s : ax_S), k6 a0 a2 a3 s = some q → AW mm_X10_dependents 1 0 0 6 [(some (av_r a0)), none, (some (av_i a2)), (some (av_i a3)), none, none, none] [] s (some (av_i q.1), q.2)) (hk15 : ∀ (a0 : Option Nat) (a2 : Int32) (a3 : Int32) (a4 : Int32) (s : ax_S), k15 a0 a2 a3 a4 s = some q → AW mm_X10_dependents 1 0 0 15 [(some (av_r a0)), none, (some (av_i a2)), (some (av_i a3)), (some (av_i a4)), none, none] [] s (some (av_i q.1), q.2)) : ∀ (n : Nat) (a0 : Option Nat) (a2 : Int32) (a3 : Int32) (a4 : Int32) (a5 : Int32) (s : ax_S) (h : fb_X10_dependents_29 k6 k15 n a0 a2 a3 a4 a5 s = some q), AW mm_X10_dependents 1 0 0 29 [(some (av_r a0)), none, (some (av_i a2)), (some (av_i a3)), (some (av_i a4)), (some (av_i a5)), none] [] s (some (av_i q.1), q.2) := by
  intro n
  induction n with
  | zero =>
    intro a0 a2 a3 a4 a5 s h
    exact ax_no h
  | succ n ih =>
    intro a0 a2 a3 a4 a5 s h
    unfold fb_X10_dependents_29 at h
    refine ax_iload (i := 5) dX10_dependents_29 rfl ?_
    refine ax_iconst (v := (3)) dX10_dependents_31 rfl ?_
    refine ax_icmp_ge (tgt := 83) dX10_dependents_32 (by decide) (fun c2 => ?_) (fun c2 => ?_)
    · rw [if_pos c2] at h
      refine ax_iinc (i := 4) (v := (a4 + (1))) (L2 := [some (av_r a0), none, some (av_i a2), some (av_i a3), some (av_i (a4 + (1))), some (av_i a5), none]) dX10_dependents_83 rfl rfl (by decide) rfl rfl ?_
      refine ax_goto (tgt := 15) dX10_dependents_86 (by decide) ?_
      exact ax_less (L' := [(some (av_r a0)), none, (some (av_i a2)), (some (av_i a3)), (some (av_i (a4 + (1)))), none, none]) ⟨rfl, rfl, rfl, rfl, trivial⟩ (hk15 _ _ _ _ _ h)
    · rw [if_neg c2] at h
      refine ax_aload_n (i := 0) dX10_dependents_35 rfl rfl ?_
      obtain ⟨r3, gr3, h⟩ := Option.bind_eq_some_iff.mp h
      refine ax_getR (q := (RX10, TX10, 28)) (t := 7) (k := 0) dX10_dependents_36 rfl (by decide) wd_756 rfl gr3 ?_
      refine ax_iload (i := 4) dX10_dependents_39 rfl ?_
      refine ax_iconst (v := (3)) dX10_dependents_41 rfl ?_
      refine ax_iload (i := 5) dX10_dependents_42 rfl ?_
      refine ax_iadd dX10_dependents_44 ?_
      obtain ⟨q4, gq4, h⟩ := Option.bind_eq_some_iff.mp h
      refine ax_cS (As := [av_i a4, av_i ((3) + a5)]) dX10_dependents_45 (th_X10_at gq4) (And.intro wd_858 wd_59) wd_856 wd_857 cy_X10_at (by omega) (by decide) (Nat.le_of_ble_eq_true rfl) rfl ?_
      obtain ⟨x5, gx5, h⟩ := Option.bind_eq_some_iff.mp h
      refine ax_iald dX10_dependents_48 gx5 ?_
      refine ax_istore (i := 6) (L2 := [some (av_r a0), none, some (av_i a2), some (av_i a3), some (av_i a4), some (av_i a5), some (av_i x5)]) dX10_dependents_49 (by decide) rfl rfl ?_
      refine ax_iload_n (i := 2) dX10_dependents_51 rfl rfl ?_
      refine ax_iload (i := 6) dX10_dependents_52 rfl ?_
      refine ax_if_lt (tgt := 74) dX10_dependents_54 (by decide) (fun c6 => ?_) (fun c6 => ?_)
      · rw [if_pos c6] at h
        exact ax_less (L' := [(some (av_r a0)), none, none, (some (av_i a3)), (some (av_i a4)), (some (av_i a5)), none]) ⟨rfl, rfl, rfl, rfl, trivial⟩ (tb_X10_dependents_74 hk6 hk15 ih h)
      · rw [if_neg c6] at h
        refine ax_iload_n (i := 2) dX10_dependents_57 rfl rfl ?_
        refine ax_iload (i := 6) dX10_dependents_58 rfl ?_
        refine ax_ishr dX10_dependents_60 ?_
        refine ax_iconst (v := (1)) dX10_dependents_61 rfl ?_
        refine ax_iand dX10_dependents_62 ?_
        refine ax_iconst (v := (1)) dX10_dependents_63 rfl ?_
        refine ax_icmp_ne (tgt := 74) dX10_dependents_64 (by decide) (fun c7 => ?_) (fun c7 => ?_)
        · rw [if_neg c7] at h
          exact ax_less (L' := [(some (av_r a0)), none, none, (some (av_i a3)), (some (av_i a4)), (some (av_i a5)), none]) ⟨rfl, rfl, rfl, rfl, trivial⟩ (tb_X10_dependents_74 hk6 hk15 ih h)
        · rw [if_pos c7] at h
          refine ax_iconst (v := (1)) dX10_dependents_67 rfl ?_
          refine ax_iload (i := 4) dX10_dependents_68 rfl ?_
          refine ax_ishl dX10_dependents_70 ?_
          refine ax_goto (tgt := 75) dX10_dependents_71 (by decide) ?_
          exact ax_less (L' := [(some (av_r a0)), none, none, (some (av_i a3)), (some (av_i a4)), (some (av_i a5)), none]) ⟨rfl, rfl, rfl, rfl, trivial⟩ (tb_X10_dependents_75 hk6 hk15 ih h)
def fb_X10_dependents_15 (k6 : Option Nat → Int32 → Int32 → ax_S → Option (Int32 × ax_S)) : Nat → Option Nat → Int32 → Int32 → Int32 → ax_S → Option (Int32 × ax_S)
  | 0, _, _, _, _, _ => none
  | n + 1, a0, a2, a3, a4, s =>
    (ax_gr s 7 0 a0).bind fun r8 =>
    (ax_al s 9 r8 (0)).bind fun x9 =>
    if x9 ≤ a4 then
      k6 a0 a2 (a3 + (1)) s
    else
      fb_X10_dependents_29 k6 (fb_X10_dependents_15 k6 n) 10000 a0 a2 a3 a4 (0) s
set_option maxRecDepth 100000 in
set_option maxHeartbeats 4000000 in
theorem tb_X10_dependents_15 {q : Int32 × ax_S} {k6 : Option Nat → Int32 → Int32 → ax_S → Option (Int32 × ax_S)} (hk6 : ∀ (a0 : Option Nat) (a2 : Int32) (a3 : Int32) (s : ax_S), k6 a0 a2 a3 s = some q → AW mm_X10_dependents 1 0 0 6 [(some (av_r a0)), none, (some (av_i a2)), (some (av_i a3)), none, none, none] [] s (some (av_i q.1), q.2)) : ∀ (n : Nat) (a0 : Option Nat) (a2 : Int32) (a3 : Int32) (a4 : Int32) (s : ax_S) (h : fb_X10_dependents_15 k6 n a0 a2 a3 a4 s = some q), AW mm_X10_dependents 1 0 0 15 [(some (av_r a0)), none, (some (av_i a2)), (some (av_i a3)), (some (av_i a4)), none, none] [] s (some (av_i q.1), q.2) := by
  intro n
  induction n with
  | zero =>
    intro a0 a2 a3 a4 s h
    exact ax_no h
  | succ n ih =>
    intro a0 a2 a3 a4 s h
    unfold fb_X10_dependents_15 at h
    refine ax_iload (i := 4) dX10_dependents_15 rfl ?_
    refine ax_aload_n (i := 0) dX10_dependents_17 rfl rfl ?_
    obtain ⟨r8, gr8, h⟩ := Option.bind_eq_some_iff.mp h
    refine ax_getR (q := (RX10, TX10, 28)) (t := 7) (k := 0) dX10_dependents_18 rfl (by decide) wd_756 rfl gr8 ?_
    refine ax_iconst (v := (0)) dX10_dependents_21 rfl ?_
    obtain ⟨x9, gx9, h⟩ := Option.bind_eq_some_iff.mp h
    refine ax_iald dX10_dependents_22 gx9 ?_
    refine ax_icmp_ge (tgt := 89) dX10_dependents_23 (by decide) (fun c10 => ?_) (fun c10 => ?_)
    · rw [if_pos c10] at h
      refine ax_iinc (i := 3) (v := (a3 + (1))) (L2 := [some (av_r a0), none, some (av_i a2), some (av_i (a3 + (1))), some (av_i a4), none, none]) dX10_dependents_89 rfl rfl (by decide) rfl rfl ?_
      refine ax_goto (tgt := 6) dX10_dependents_92 (by decide) ?_
      exact ax_less (L' := [(some (av_r a0)), none, (some (av_i a2)), (some (av_i (a3 + (1)))), none, none, none]) ⟨rfl, rfl, rfl, trivial⟩ (hk6 _ _ _ _ h)
    · rw [if_neg c10] at h
      refine ax_iconst (v := (0)) dX10_dependents_26 rfl ?_
      refine ax_istore (i := 5) (L2 := [some (av_r a0), none, some (av_i a2), some (av_i a3), some (av_i a4), some (av_i (0)), none]) dX10_dependents_27 (by decide) rfl rfl ?_
      exact ax_less (L' := [(some (av_r a0)), none, (some (av_i a2)), (some (av_i a3)), (some (av_i a4)), (some (av_i (0))), none]) ⟨rfl, rfl, rfl, rfl, rfl, trivial⟩ (tb_X10_dependents_29 hk6 ih _ _ _ _ _ _ _ h)
def fb_X10_dependents_6 : Nat → Option Nat → Int32 → Int32 → ax_S → Option (Int32 × ax_S)
  | 0, _, _, _, _ => none
  | n + 1, a0, a2, a3, s =>
    if (12) ≤ a3 then
      some (a2, s)
    else
      fb_X10_dependents_15 (fb_X10_dependents_6 n) 10000 a0 a2 a3 (0) s
set_option maxRecDepth 100000 in
set_option maxHeartbeats 4000000 in
theorem tb_X10_dependents_6 {q : Int32 × ax_S} : ∀ (n : Nat) (a0 : Option Nat) (a2 : Int32) (a3 : Int32) (s : ax_S) (h : fb_X10_dependents_6 n a0 a2 a3 s = some q), AW mm_X10_dependents 1 0 0 6 [(some (av_r a0)), none, (some (av_i a2)), (some (av_i a3)), none, none, none] [] s (some (av_i q.1), q.2) := by
  intro n
  induction n with
  | zero =>
    intro a0 a2 a3 s h
    exact ax_no h
  | succ n ih =>
    intro a0 a2 a3 s h
    unfold fb_X10_dependents_6 at h
    refine ax_iload_n (i := 3) dX10_dependents_6 rfl rfl ?_
    refine ax_bipush (v := (12)) dX10_dependents_7 rfl ?_
    refine ax_icmp_ge (tgt := 95) dX10_dependents_9 (by decide) (fun c11 => ?_) (fun c11 => ?_)
    · rw [if_pos c11] at h
      refine ax_iload_n (i := 2) dX10_dependents_95 rfl rfl ?_
      exact ax_reti dX10_dependents_96 h
    · rw [if_neg c11] at h
      refine ax_iconst (v := (0)) dX10_dependents_12 rfl ?_
      refine ax_istore (i := 4) (L2 := [some (av_r a0), none, some (av_i a2), some (av_i a3), some (av_i (0)), none, none]) dX10_dependents_13 (by decide) rfl rfl ?_
      exact ax_less (L' := [(some (av_r a0)), none, (some (av_i a2)), (some (av_i a3)), (some (av_i (0))), none, none]) ⟨rfl, rfl, rfl, rfl, trivial⟩ (tb_X10_dependents_15 ih _ _ _ _ _ _ h)
def fn_X10_dependents (a0 : Option Nat) (a1 : Int32) (s : ax_S) : Option (Int32 × ax_S) :=
  ax_bd (((1) <<< (a1 &&& 31))) fun v12 =>
  fb_X10_dependents_6 10000 a0 v12 (0) s
set_option maxRecDepth 100000 in
set_option maxHeartbeats 4000000 in
theorem tw_X10_dependents {q : Int32 × ax_S} {a0 : Option Nat} {a1 : Int32} {s : ax_S} (h : fn_X10_dependents a0 a1 s = some q) : AW mm_X10_dependents 1 0 0 0 [some (av_r a0), some (av_i a1), none, none, none, none, none] [] s (some (av_i q.1), q.2) := by
  unfold fn_X10_dependents at h
  refine ax_iconst (v := (1)) dX10_dependents_0 rfl ?_
  refine ax_iload_n (i := 1) dX10_dependents_1 rfl rfl ?_
  refine ax_ishl dX10_dependents_2 ?_
  refine ax_bdI h (fun v12 h => ?_)
  refine ax_istore_n (i := 2) (L2 := [some (av_r a0), some (av_i a1), some (av_i v12), none, none, none, none]) dX10_dependents_3 rfl (by decide) rfl rfl ?_
  refine ax_iconst (v := (0)) dX10_dependents_4 rfl ?_
  refine ax_istore_n (i := 3) (L2 := [some (av_r a0), some (av_i a1), some (av_i v12), some (av_i (0)), none, none, none]) dX10_dependents_5 rfl (by decide) rfl rfl ?_
  exact ax_less (L' := [(some (av_r a0)), none, (some (av_i v12)), (some (av_i (0))), none, none, none]) ⟨rfl, rfl, rfl, trivial⟩ (tb_X10_dependents_6  _ _ _ _ _ h)
set_option maxRecDepth 100000 in
set_option maxHeartbeats 4000000 in
theorem th_X10_dependents {q : Int32 × ax_S} {a0 : Option Nat} {a1 : Int32} {s : ax_S} (h : fn_X10_dependents a0 a1 s = some q) : AC mm_X10_dependents yX10_dependents 1 0 0 [av_r a0, av_i a1] s (some (av_i q.1), q.2) := by
  exact ax_met (L0 := [some (av_r a0), some (av_i a1), none, none, none, none, none]) (by decide +kernel) rfl (fun h => absurd h (by decide)) ⟨rfl, rfl, trivial⟩ (Nat.le_of_ble_eq_true rfl) trivial (tw_X10_dependents h)
/-! X10_isReady -/
abbrev mm_X10_isReady : ax_M := (RX10, cX10_isReady, (some .boolean), 6, false)
def fb_X10_isReady_49 (k5 : Option Nat → Int32 → Int32 → Int32 → Int32 → ax_S → Option (Int32 × ax_S)) (a0 : Option Nat) (a1 : Int32) (a2 : Int32) (a4 : Int32) (s : ax_S) : Option (Int32 × ax_S) :=
  k5 a0 a1 a2 (0) (a4 + (1)) s
set_option maxRecDepth 100000 in
set_option maxHeartbeats 4000000 in
theorem tb_X10_isReady_49 {q : Int32 × ax_S} {k5 : Option Nat → Int32 → Int32 → Int32 → Int32 → ax_S → Option (Int32 × ax_S)} (hk5 : ∀ (a0 : Option Nat) (a1 : Int32) (a2 : Int32) (a3 : Int32) (a4 : Int32) (s : ax_S), k5 a0 a1 a2 a3 a4 s = some q → AW mm_X10_isReady 1 0 0 5 [(some (av_r a0)), (some (av_i a1)), (some (av_i a2)), (some (av_i a3)), (some (av_i a4)), none] [] s (some (av_i q.1), q.2)) {a0 : Option Nat} {a1 : Int32} {a2 : Int32} {a4 : Int32} {s : ax_S} (h : fb_X10_isReady_49 k5 a0 a1 a2 a4 s = some q) : AW mm_X10_isReady 1 0 0 49 [(some (av_r a0)), (some (av_i a1)), (some (av_i a2)), none, (some (av_i a4)), none] [] s (some (av_i q.1), q.2) := by
  unfold fb_X10_isReady_49 at h
  refine ax_iconst (v := (0)) dX10_isReady_49 rfl ?_
  refine ax_istore_n (i := 3) (L2 := [some (av_r a0), some (av_i a1), some (av_i a2), some (av_i (0)), some (av_i a4), none]) dX10_isReady_50 rfl (by decide) rfl rfl ?_
  refine ax_iinc (i := 4) (v := (a4 + (1))) (L2 := [some (av_r a0), some (av_i a1), some (av_i a2), some (av_i (0)), some (av_i (a4 + (1))), none]) dX10_isReady_51 rfl rfl (by decide) rfl rfl ?_
  refine ax_goto (tgt := 5) dX10_isReady_54 (by decide) ?_
  exact ax_less (L' := [(some (av_r a0)), (some (av_i a1)), (some (av_i a2)), (some (av_i (0))), (some (av_i (a4 + (1)))), none]) ⟨rfl, rfl, rfl, rfl, rfl, trivial⟩ (hk5 _ _ _ _ _ _ h)
def fb_X10_isReady_45 (k5 : Option Nat → Int32 → Int32 → Int32 → Int32 → ax_S → Option (Int32 × ax_S)) (a0 : Option Nat) (a1 : Int32) (a2 : Int32) (a4 : Int32) (s : ax_S) : Option (Int32 × ax_S) :=
  k5 a0 a1 a2 (1) (a4 + (1)) s
set_option maxRecDepth 100000 in
set_option maxHeartbeats 4000000 in
theorem tb_X10_isReady_45 {q : Int32 × ax_S} {k5 : Option Nat → Int32 → Int32 → Int32 → Int32 → ax_S → Option (Int32 × ax_S)} (hk5 : ∀ (a0 : Option Nat) (a1 : Int32) (a2 : Int32) (a3 : Int32) (a4 : Int32) (s : ax_S), k5 a0 a1 a2 a3 a4 s = some q → AW mm_X10_isReady 1 0 0 5 [(some (av_r a0)), (some (av_i a1)), (some (av_i a2)), (some (av_i a3)), (some (av_i a4)), none] [] s (some (av_i q.1), q.2)) {a0 : Option Nat} {a1 : Int32} {a2 : Int32} {a4 : Int32} {s : ax_S} (h : fb_X10_isReady_45 k5 a0 a1 a2 a4 s = some q) : AW mm_X10_isReady 1 0 0 45 [(some (av_r a0)), (some (av_i a1)), (some (av_i a2)), none, (some (av_i a4)), none] [] s (some (av_i q.1), q.2) := by
  unfold fb_X10_isReady_45 at h
  refine ax_iconst (v := (1)) dX10_isReady_45 rfl ?_
  refine ax_goto (tgt := 50) dX10_isReady_46 (by decide) ?_
  refine ax_istore_n (i := 3) (L2 := [some (av_r a0), some (av_i a1), some (av_i a2), some (av_i (1)), some (av_i a4), none]) dX10_isReady_50 rfl (by decide) rfl rfl ?_
  refine ax_iinc (i := 4) (v := (a4 + (1))) (L2 := [some (av_r a0), some (av_i a1), some (av_i a2), some (av_i (1)), some (av_i (a4 + (1))), none]) dX10_isReady_51 rfl rfl (by decide) rfl rfl ?_
  refine ax_goto (tgt := 5) dX10_isReady_54 (by decide) ?_
  exact ax_less (L' := [(some (av_r a0)), (some (av_i a1)), (some (av_i a2)), (some (av_i (1))), (some (av_i (a4 + (1)))), none]) ⟨rfl, rfl, rfl, rfl, rfl, trivial⟩ (hk5 _ _ _ _ _ _ h)
def fb_X10_isReady_5 : Nat → Option Nat → Int32 → Int32 → Int32 → Int32 → ax_S → Option (Int32 × ax_S)
  | 0, _, _, _, _, _, _ => none
  | n + 1, a0, a1, a2, a3, a4, s =>
    if (3) ≤ a4 then
      some (a3, s)
    else
      (ax_gr s 7 0 a0).bind fun r2 =>
      (fn_X10_at a1 ((3) + a4) s).bind fun q3 =>
      (ax_al q3.2 9 r2 q3.1).bind fun x4 =>
      if a3 = 0 then
        fb_X10_isReady_49 (fb_X10_isReady_5 n) a0 a1 a2 a4 q3.2
      else
        if x4 < 0 then
          fb_X10_isReady_45 (fb_X10_isReady_5 n) a0 a1 a2 a4 q3.2
        else
          if ((a2 >>> (x4 &&& 31)) &&& (1)) = (1) then
            fb_X10_isReady_45 (fb_X10_isReady_5 n) a0 a1 a2 a4 q3.2
          else
            fb_X10_isReady_49 (fb_X10_isReady_5 n) a0 a1 a2 a4 q3.2
set_option maxRecDepth 100000 in
set_option maxHeartbeats 4000000 in
theorem tb_X10_isReady_5 {q : Int32 × ax_S} : ∀ (n : Nat) (a0 : Option Nat) (a1 : Int32) (a2 : Int32) (a3 : Int32) (a4 : Int32) (s : ax_S) (h : fb_X10_isReady_5 n a0 a1 a2 a3 a4 s = some q), AW mm_X10_isReady 1 0 0 5 [(some (av_r a0)), (some (av_i a1)), (some (av_i a2)), (some (av_i a3)), (some (av_i a4)), none] [] s (some (av_i q.1), q.2) := by
  intro n
  induction n with
  | zero =>
    intro a0 a1 a2 a3 a4 s h
    exact ax_no h
  | succ n ih =>
    intro a0 a1 a2 a3 a4 s h
    unfold fb_X10_isReady_5 at h
    refine ax_iload (i := 4) dX10_isReady_5 rfl ?_
    refine ax_iconst (v := (3)) dX10_isReady_7 rfl ?_
    refine ax_icmp_ge (tgt := 57) dX10_isReady_8 (by decide) (fun c1 => ?_) (fun c1 => ?_)
    · rw [if_pos c1] at h
      refine ax_iload_n (i := 3) dX10_isReady_57 rfl rfl ?_
      exact ax_reti dX10_isReady_58 h
    · rw [if_neg c1] at h
      refine ax_aload_n (i := 0) dX10_isReady_11 rfl rfl ?_
      obtain ⟨r2, gr2, h⟩ := Option.bind_eq_some_iff.mp h
      refine ax_getR (q := (RX10, TX10, 28)) (t := 7) (k := 0) dX10_isReady_12 rfl (by decide) wd_756 rfl gr2 ?_
      refine ax_iload_n (i := 1) dX10_isReady_15 rfl rfl ?_
      refine ax_iconst (v := (3)) dX10_isReady_16 rfl ?_
      refine ax_iload (i := 4) dX10_isReady_17 rfl ?_
      refine ax_iadd dX10_isReady_19 ?_
      obtain ⟨q3, gq3, h⟩ := Option.bind_eq_some_iff.mp h
      refine ax_cS (As := [av_i a1, av_i ((3) + a4)]) dX10_isReady_20 (th_X10_at gq3) (And.intro wd_858 wd_59) wd_856 wd_857 cy_X10_at (by omega) (by decide) (Nat.le_of_ble_eq_true rfl) rfl ?_
      obtain ⟨x4, gx4, h⟩ := Option.bind_eq_some_iff.mp h
      refine ax_iald dX10_isReady_23 gx4 ?_
      refine ax_istore (i := 5) (L2 := [some (av_r a0), some (av_i a1), some (av_i a2), some (av_i a3), some (av_i a4), some (av_i x4)]) dX10_isReady_24 (by decide) rfl rfl ?_
      refine ax_iload_n (i := 3) dX10_isReady_26 rfl rfl ?_
      refine ax_if_eq (tgt := 49) dX10_isReady_27 (by decide) (fun c5 => ?_) (fun c5 => ?_)
      · rw [if_pos c5] at h
        exact ax_less (L' := [(some (av_r a0)), (some (av_i a1)), (some (av_i a2)), none, (some (av_i a4)), none]) ⟨rfl, rfl, rfl, rfl, trivial⟩ (tb_X10_isReady_49 ih h)
      · rw [if_neg c5] at h
        refine ax_iload (i := 5) dX10_isReady_30 rfl ?_
        refine ax_if_lt (tgt := 45) dX10_isReady_32 (by decide) (fun c6 => ?_) (fun c6 => ?_)
        · rw [if_pos c6] at h
          exact ax_less (L' := [(some (av_r a0)), (some (av_i a1)), (some (av_i a2)), none, (some (av_i a4)), none]) ⟨rfl, rfl, rfl, rfl, trivial⟩ (tb_X10_isReady_45 ih h)
        · rw [if_neg c6] at h
          refine ax_iload_n (i := 2) dX10_isReady_35 rfl rfl ?_
          refine ax_iload (i := 5) dX10_isReady_36 rfl ?_
          refine ax_ishr dX10_isReady_38 ?_
          refine ax_iconst (v := (1)) dX10_isReady_39 rfl ?_
          refine ax_iand dX10_isReady_40 ?_
          refine ax_iconst (v := (1)) dX10_isReady_41 rfl ?_
          refine ax_icmp_ne (tgt := 49) dX10_isReady_42 (by decide) (fun c7 => ?_) (fun c7 => ?_)
          · rw [if_neg c7] at h
            exact ax_less (L' := [(some (av_r a0)), (some (av_i a1)), (some (av_i a2)), none, (some (av_i a4)), none]) ⟨rfl, rfl, rfl, rfl, trivial⟩ (tb_X10_isReady_49 ih h)
          · rw [if_pos c7] at h
            exact ax_less (L' := [(some (av_r a0)), (some (av_i a1)), (some (av_i a2)), none, (some (av_i a4)), none]) ⟨rfl, rfl, rfl, rfl, trivial⟩ (tb_X10_isReady_45 ih h)
def fi_X10_isReady (a0 : Option Nat) (a1 : Int32) (a2 : Int32) (s : ax_S) : Option (Int32 × ax_S) :=
  fb_X10_isReady_5 10000 a0 a1 a2 (1) (0) s
set_option maxRecDepth 100000 in
set_option maxHeartbeats 4000000 in
theorem tw_X10_isReady {q : Int32 × ax_S} {a0 : Option Nat} {a1 : Int32} {a2 : Int32} {s : ax_S} (h : fi_X10_isReady a0 a1 a2 s = some q) : AW mm_X10_isReady 1 0 0 0 [some (av_r a0), some (av_i a1), some (av_i a2), none, none, none] [] s (some (av_i q.1), q.2) := by
  unfold fi_X10_isReady at h
  refine ax_iconst (v := (1)) dX10_isReady_0 rfl ?_
  refine ax_istore_n (i := 3) (L2 := [some (av_r a0), some (av_i a1), some (av_i a2), some (av_i (1)), none, none]) dX10_isReady_1 rfl (by decide) rfl rfl ?_
  refine ax_iconst (v := (0)) dX10_isReady_2 rfl ?_
  refine ax_istore (i := 4) (L2 := [some (av_r a0), some (av_i a1), some (av_i a2), some (av_i (1)), some (av_i (0)), none]) dX10_isReady_3 (by decide) rfl rfl ?_
  exact ax_less (L' := [(some (av_r a0)), (some (av_i a1)), (some (av_i a2)), (some (av_i (1))), (some (av_i (0))), none]) ⟨rfl, rfl, rfl, rfl, rfl, trivial⟩ (tb_X10_isReady_5  _ _ _ _ _ _ _ h)
def fn_X10_isReady (a0 : Option Nat) (a1 : Int32) (a2 : Int32) (s : ax_S) : Option (Int32 × ax_S) := ax_bz (fi_X10_isReady a0 a1 a2 s)
set_option maxRecDepth 100000 in
set_option maxHeartbeats 4000000 in
theorem th_X10_isReady {q : Int32 × ax_S} {a0 : Option Nat} {a1 : Int32} {a2 : Int32} {s : ax_S} (h : fn_X10_isReady a0 a1 a2 s = some q) : AC mm_X10_isReady yX10_isReady 1 0 0 [av_r a0, av_i a1, av_i a2] s (some (av_i q.1), q.2) := by
  obtain ⟨h, hz⟩ := ax_bz_of h
  exact ax_met (L0 := [some (av_r a0), some (av_i a1), some (av_i a2), none, none, none]) (by decide +kernel) rfl (fun h => absurd h (by decide)) ⟨rfl, rfl, rfl, trivial⟩ (Nat.le_of_ble_eq_true rfl) hz (tw_X10_isReady h)
/-! X10_placeOf -/
abbrev mm_X10_placeOf : ax_M := (RX10, cX10_placeOf, (some .int), 5, false)
def fb_X10_placeOf_7 (k4 : Option Nat → Int32 → Int32 → Int32 → ax_S → Option (Int32 × ax_S)) : Nat → Option Nat → Int32 → Int32 → Int32 → Int32 → ax_S → Option (Int32 × ax_S)
  | 0, _, _, _, _, _, _ => none
  | n + 1, a0, a1, a2, a3, a4, s =>
    if ((a2 >>> (a4 &&& 31)) &&& (1)) = (1) then
      (fb_X10_placeOf_7 k4 n) a0 a1 a2 a3 (a4 + (1)) s
    else
      (ax_sh s 7 a0).bind fun w2 =>
      (fn_X10_isReady a0 a4 a2 s).bind fun q3 =>
      if q3.1 = 0 then
        (fb_X10_placeOf_7 k4 n) a0 a1 a2 a3 (a4 + (1)) q3.2
      else
        if a4 = a1 then
          some (a3, q3.2)
        else
          ax_bd ((a2 ||| ((1) <<< (a4 &&& 31)))) fun v6 =>
          k4 a0 a1 v6 (a3 + (1)) q3.2
set_option maxRecDepth 100000 in
set_option maxHeartbeats 4000000 in
theorem tb_X10_placeOf_7 {q : Int32 × ax_S} {k4 : Option Nat → Int32 → Int32 → Int32 → ax_S → Option (Int32 × ax_S)} (hk4 : ∀ (a0 : Option Nat) (a1 : Int32) (a2 : Int32) (a3 : Int32) (s : ax_S), k4 a0 a1 a2 a3 s = some q → AW mm_X10_placeOf 2 0 0 4 [(some (av_r a0)), (some (av_i a1)), (some (av_i a2)), (some (av_i a3)), none] [] s (some (av_i q.1), q.2)) : ∀ (n : Nat) (a0 : Option Nat) (a1 : Int32) (a2 : Int32) (a3 : Int32) (a4 : Int32) (s : ax_S) (h : fb_X10_placeOf_7 k4 n a0 a1 a2 a3 a4 s = some q), AW mm_X10_placeOf 2 0 0 7 [(some (av_r a0)), (some (av_i a1)), (some (av_i a2)), (some (av_i a3)), (some (av_i a4))] [] s (some (av_i q.1), q.2) := by
  intro n
  induction n with
  | zero =>
    intro a0 a1 a2 a3 a4 s h
    exact ax_no h
  | succ n ih =>
    intro a0 a1 a2 a3 a4 s h
    unfold fb_X10_placeOf_7 at h
    refine ax_iload_n (i := 2) dX10_placeOf_7 rfl rfl ?_
    refine ax_iload (i := 4) dX10_placeOf_8 rfl ?_
    refine ax_ishr dX10_placeOf_10 ?_
    refine ax_iconst (v := (1)) dX10_placeOf_11 rfl ?_
    refine ax_iand dX10_placeOf_12 ?_
    refine ax_iconst (v := (1)) dX10_placeOf_13 rfl ?_
    refine ax_icmp_eq (tgt := 27) dX10_placeOf_14 (by decide) (fun c1 => ?_) (fun c1 => ?_)
    · rw [if_pos c1] at h
      refine ax_iinc (i := 4) (v := (a4 + (1))) (L2 := [some (av_r a0), some (av_i a1), some (av_i a2), some (av_i a3), some (av_i (a4 + (1)))]) dX10_placeOf_27 rfl rfl (by decide) rfl rfl ?_
      refine ax_goto (tgt := 7) dX10_placeOf_30 (by decide) ?_
      exact ax_less (L' := [(some (av_r a0)), (some (av_i a1)), (some (av_i a2)), (some (av_i a3)), (some (av_i (a4 + (1))))]) ⟨rfl, rfl, rfl, rfl, rfl, trivial⟩ (ih _ _ _ _ _ _ h)
    · rw [if_neg c1] at h
      refine ax_aload_n (i := 0) dX10_placeOf_17 rfl rfl ?_
      refine ax_iload (i := 4) dX10_placeOf_18 rfl ?_
      refine ax_iload_n (i := 2) dX10_placeOf_20 rfl rfl ?_
      obtain ⟨w2, gw2, h⟩ := Option.bind_eq_some_iff.mp h
      obtain ⟨q3, gq3, h⟩ := Option.bind_eq_some_iff.mp h
      refine ax_cV (As := [av_i a4, av_i a2]) (t := 7) dX10_placeOf_21 gw2 (th_X10_isReady gq3) rfl (And.intro wd_930 wd_59) wd_927 wd_929 wd_26 cy_X10_isReady (by omega) (by decide) (Nat.le_of_ble_eq_true rfl) rfl ?_
      refine ax_if_ne (tgt := 33) dX10_placeOf_24 (by decide) (fun c4 => ?_) (fun c4 => ?_)
      · rw [if_neg c4] at h
        refine ax_iload (i := 4) dX10_placeOf_33 rfl ?_
        refine ax_iload_n (i := 1) dX10_placeOf_35 rfl rfl ?_
        refine ax_icmp_ne (tgt := 41) dX10_placeOf_36 (by decide) (fun c5 => ?_) (fun c5 => ?_)
        · rw [if_neg c5] at h
          refine ax_iload_n (i := 2) dX10_placeOf_41 rfl rfl ?_
          refine ax_iconst (v := (1)) dX10_placeOf_42 rfl ?_
          refine ax_iload (i := 4) dX10_placeOf_43 rfl ?_
          refine ax_ishl dX10_placeOf_45 ?_
          refine ax_ior dX10_placeOf_46 ?_
          refine ax_bdI h (fun v6 h => ?_)
          refine ax_istore_n (i := 2) (L2 := [some (av_r a0), some (av_i a1), some (av_i v6), some (av_i a3), some (av_i a4)]) dX10_placeOf_47 rfl (by decide) rfl rfl ?_
          refine ax_iinc (i := 3) (v := (a3 + (1))) (L2 := [some (av_r a0), some (av_i a1), some (av_i v6), some (av_i (a3 + (1))), some (av_i a4)]) dX10_placeOf_48 rfl rfl (by decide) rfl rfl ?_
          refine ax_goto (tgt := 4) dX10_placeOf_51 (by decide) ?_
          exact ax_less (L' := [(some (av_r a0)), (some (av_i a1)), (some (av_i v6)), (some (av_i (a3 + (1)))), none]) ⟨rfl, rfl, rfl, rfl, trivial⟩ (hk4 _ _ _ _ _ h)
        · rw [if_pos c5] at h
          refine ax_iload_n (i := 3) dX10_placeOf_39 rfl rfl ?_
          exact ax_reti dX10_placeOf_40 h
      · rw [if_pos c4] at h
        refine ax_iinc (i := 4) (v := (a4 + (1))) (L2 := [some (av_r a0), some (av_i a1), some (av_i a2), some (av_i a3), some (av_i (a4 + (1)))]) dX10_placeOf_27 rfl rfl (by decide) rfl rfl ?_
        refine ax_goto (tgt := 7) dX10_placeOf_30 (by decide) ?_
        exact ax_less (L' := [(some (av_r a0)), (some (av_i a1)), (some (av_i a2)), (some (av_i a3)), (some (av_i (a4 + (1))))]) ⟨rfl, rfl, rfl, rfl, rfl, trivial⟩ (ih _ _ _ _ _ _ h)
def fb_X10_placeOf_4 : Nat → Option Nat → Int32 → Int32 → Int32 → ax_S → Option (Int32 × ax_S)
  | 0, _, _, _, _, _ => none
  | n + 1, a0, a1, a2, a3, s =>
    fb_X10_placeOf_7 (fb_X10_placeOf_4 n) 10000 a0 a1 a2 a3 (0) s
set_option maxRecDepth 100000 in
set_option maxHeartbeats 4000000 in
theorem tb_X10_placeOf_4 {q : Int32 × ax_S} : ∀ (n : Nat) (a0 : Option Nat) (a1 : Int32) (a2 : Int32) (a3 : Int32) (s : ax_S) (h : fb_X10_placeOf_4 n a0 a1 a2 a3 s = some q), AW mm_X10_placeOf 2 0 0 4 [(some (av_r a0)), (some (av_i a1)), (some (av_i a2)), (some (av_i a3)), none] [] s (some (av_i q.1), q.2) := by
  intro n
  induction n with
  | zero =>
    intro a0 a1 a2 a3 s h
    exact ax_no h
  | succ n ih =>
    intro a0 a1 a2 a3 s h
    unfold fb_X10_placeOf_4 at h
    refine ax_iconst (v := (0)) dX10_placeOf_4 rfl ?_
    refine ax_istore (i := 4) (L2 := [some (av_r a0), some (av_i a1), some (av_i a2), some (av_i a3), some (av_i (0))]) dX10_placeOf_5 (by decide) rfl rfl ?_
    exact ax_less (L' := [(some (av_r a0)), (some (av_i a1)), (some (av_i a2)), (some (av_i a3)), (some (av_i (0)))]) ⟨rfl, rfl, rfl, rfl, rfl, trivial⟩ (tb_X10_placeOf_7 ih _ _ _ _ _ _ _ h)
def fn_X10_placeOf (a0 : Option Nat) (a1 : Int32) (s : ax_S) : Option (Int32 × ax_S) :=
  fb_X10_placeOf_4 10000 a0 a1 (0) (0) s
set_option maxRecDepth 100000 in
set_option maxHeartbeats 4000000 in
theorem tw_X10_placeOf {q : Int32 × ax_S} {a0 : Option Nat} {a1 : Int32} {s : ax_S} (h : fn_X10_placeOf a0 a1 s = some q) : AW mm_X10_placeOf 2 0 0 0 [some (av_r a0), some (av_i a1), none, none, none] [] s (some (av_i q.1), q.2) := by
  unfold fn_X10_placeOf at h
  refine ax_iconst (v := (0)) dX10_placeOf_0 rfl ?_
  refine ax_istore_n (i := 2) (L2 := [some (av_r a0), some (av_i a1), some (av_i (0)), none, none]) dX10_placeOf_1 rfl (by decide) rfl rfl ?_
  refine ax_iconst (v := (0)) dX10_placeOf_2 rfl ?_
  refine ax_istore_n (i := 3) (L2 := [some (av_r a0), some (av_i a1), some (av_i (0)), some (av_i (0)), none]) dX10_placeOf_3 rfl (by decide) rfl rfl ?_
  exact ax_less (L' := [(some (av_r a0)), (some (av_i a1)), (some (av_i (0))), (some (av_i (0))), none]) ⟨rfl, rfl, rfl, rfl, trivial⟩ (tb_X10_placeOf_4  _ _ _ _ _ _ h)
set_option maxRecDepth 100000 in
set_option maxHeartbeats 4000000 in
theorem th_X10_placeOf {q : Int32 × ax_S} {a0 : Option Nat} {a1 : Int32} {s : ax_S} (h : fn_X10_placeOf a0 a1 s = some q) : AC mm_X10_placeOf yX10_placeOf 2 0 0 [av_r a0, av_i a1] s (some (av_i q.1), q.2) := by
  exact ax_met (L0 := [some (av_r a0), some (av_i a1), none, none, none]) (by decide +kernel) rfl (fun h => absurd h (by decide)) ⟨rfl, rfl, trivial⟩ (Nat.le_of_ble_eq_true rfl) trivial (tw_X10_placeOf h)
/-! X10_nodeTells -/
abbrev mm_X10_nodeTells : ax_M := (RX10, cX10_nodeTells, (some .int), 3, false)
def fn_X10_nodeTells (a0 : Option Nat) (a1 : Int32) (a2 : Int32) (s : ax_S) : Option (Int32 × ax_S) :=
  if (3) ≤ a2 then
    if a2 = (3) then
      (ax_sh s 7 a0).bind fun w8 =>
      (fn_X10_dependents a0 a1 s).bind fun q9 =>
      (fn_X10_size q9.1 q9.2).bind fun q10 =>
      some (q10.1, q10.2)
    else
      if a2 = (4) then
        (ax_sh s 7 a0).bind fun w6 =>
        (fn_X10_placeOf a0 a1 s).bind fun q7 =>
        some (q7.1, q7.2)
      else
        (ax_sh s 7 a0).bind fun w4 =>
        (fn_X10_depthOf a0 a1 s).bind fun q5 =>
        some (q5.1, q5.2)
  else
    (ax_gr s 7 0 a0).bind fun r11 =>
    (fn_X10_at a1 a2 s).bind fun q12 =>
    (ax_al q12.2 9 r11 q12.1).bind fun x13 =>
    some (x13, q12.2)
set_option maxRecDepth 100000 in
set_option maxHeartbeats 4000000 in
theorem tw_X10_nodeTells {q : Int32 × ax_S} {a0 : Option Nat} {a1 : Int32} {a2 : Int32} {s : ax_S} (h : fn_X10_nodeTells a0 a1 a2 s = some q) : AW mm_X10_nodeTells 3 0 0 0 [some (av_r a0), some (av_i a1), some (av_i a2)] [] s (some (av_i q.1), q.2) := by
  unfold fn_X10_nodeTells at h
  refine ax_iload_n (i := 2) dX10_nodeTells_0 rfl rfl ?_
  refine ax_iconst (v := (3)) dX10_nodeTells_1 rfl ?_
  refine ax_icmp_ge (tgt := 18) dX10_nodeTells_2 (by decide) (fun c1 => ?_) (fun c1 => ?_)
  · rw [if_pos c1] at h
    refine ax_iload_n (i := 2) dX10_nodeTells_18 rfl rfl ?_
    refine ax_iconst (v := (3)) dX10_nodeTells_19 rfl ?_
    refine ax_icmp_ne (tgt := 34) dX10_nodeTells_20 (by decide) (fun c2 => ?_) (fun c2 => ?_)
    · rw [if_neg c2] at h
      refine ax_iload_n (i := 2) dX10_nodeTells_34 rfl rfl ?_
      refine ax_iconst (v := (4)) dX10_nodeTells_35 rfl ?_
      refine ax_icmp_ne (tgt := 47) dX10_nodeTells_36 (by decide) (fun c3 => ?_) (fun c3 => ?_)
      · rw [if_neg c3] at h
        refine ax_aload_n (i := 0) dX10_nodeTells_47 rfl rfl ?_
        refine ax_iload_n (i := 1) dX10_nodeTells_48 rfl rfl ?_
        obtain ⟨w4, gw4, h⟩ := Option.bind_eq_some_iff.mp h
        obtain ⟨q5, gq5, h⟩ := Option.bind_eq_some_iff.mp h
        refine ax_cV (As := [av_i a1]) (t := 7) dX10_nodeTells_49 gw4 (th_X10_depthOf gq5) rfl (And.intro wd_934 wd_59) wd_931 wd_933 wd_27 cy_X10_depthOf (by omega) (by decide) (Nat.le_of_ble_eq_true rfl) rfl ?_
        exact ax_reti dX10_nodeTells_52 h
      · rw [if_pos c3] at h
        refine ax_aload_n (i := 0) dX10_nodeTells_39 rfl rfl ?_
        refine ax_iload_n (i := 1) dX10_nodeTells_40 rfl rfl ?_
        obtain ⟨w6, gw6, h⟩ := Option.bind_eq_some_iff.mp h
        obtain ⟨q7, gq7, h⟩ := Option.bind_eq_some_iff.mp h
        refine ax_cV (As := [av_i a1]) (t := 7) dX10_nodeTells_41 gw6 (th_X10_placeOf gq7) rfl (And.intro wd_926 wd_59) wd_923 wd_925 wd_25 cy_X10_placeOf (by omega) (by decide) (Nat.le_of_ble_eq_true rfl) rfl ?_
        refine ax_goto (tgt := 52) dX10_nodeTells_44 (by decide) ?_
        exact ax_reti dX10_nodeTells_52 h
    · rw [if_pos c2] at h
      refine ax_aload_n (i := 0) dX10_nodeTells_23 rfl rfl ?_
      refine ax_iload_n (i := 1) dX10_nodeTells_24 rfl rfl ?_
      obtain ⟨w8, gw8, h⟩ := Option.bind_eq_some_iff.mp h
      obtain ⟨q9, gq9, h⟩ := Option.bind_eq_some_iff.mp h
      refine ax_cV (As := [av_i a1]) (t := 7) dX10_nodeTells_25 gw8 (th_X10_dependents gq9) rfl (And.intro wd_881 wd_59) wd_878 wd_880 wd_20 cy_X10_dependents (by omega) (by decide) (Nat.le_of_ble_eq_true rfl) rfl ?_
      obtain ⟨q10, gq10, h⟩ := Option.bind_eq_some_iff.mp h
      refine ax_cS (As := [av_i q9.1]) dX10_nodeTells_28 (th_X10_size gq10) (And.intro wd_922 wd_59) wd_920 wd_921 cy_X10_size (by omega) (by decide) (Nat.le_of_ble_eq_true rfl) rfl ?_
      refine ax_goto (tgt := 52) dX10_nodeTells_31 (by decide) ?_
      exact ax_reti dX10_nodeTells_52 h
  · rw [if_neg c1] at h
    refine ax_aload_n (i := 0) dX10_nodeTells_5 rfl rfl ?_
    obtain ⟨r11, gr11, h⟩ := Option.bind_eq_some_iff.mp h
    refine ax_getR (q := (RX10, TX10, 28)) (t := 7) (k := 0) dX10_nodeTells_6 rfl (by decide) wd_756 rfl gr11 ?_
    refine ax_iload_n (i := 1) dX10_nodeTells_9 rfl rfl ?_
    refine ax_iload_n (i := 2) dX10_nodeTells_10 rfl rfl ?_
    obtain ⟨q12, gq12, h⟩ := Option.bind_eq_some_iff.mp h
    refine ax_cS (As := [av_i a1, av_i a2]) dX10_nodeTells_11 (th_X10_at gq12) (And.intro wd_858 wd_59) wd_856 wd_857 cy_X10_at (by omega) (by decide) (Nat.le_of_ble_eq_true rfl) rfl ?_
    obtain ⟨x13, gx13, h⟩ := Option.bind_eq_some_iff.mp h
    refine ax_iald dX10_nodeTells_14 gx13 ?_
    refine ax_goto (tgt := 52) dX10_nodeTells_15 (by decide) ?_
    exact ax_reti dX10_nodeTells_52 h
set_option maxRecDepth 100000 in
set_option maxHeartbeats 4000000 in
theorem th_X10_nodeTells {q : Int32 × ax_S} {a0 : Option Nat} {a1 : Int32} {a2 : Int32} {s : ax_S} (h : fn_X10_nodeTells a0 a1 a2 s = some q) : AC mm_X10_nodeTells yX10_nodeTells 3 0 0 [av_r a0, av_i a1, av_i a2] s (some (av_i q.1), q.2) := by
  exact ax_met (L0 := [some (av_r a0), some (av_i a1), some (av_i a2)]) (by decide +kernel) rfl (fun h => absurd h (by decide)) ⟨rfl, rfl, rfl, trivial⟩ (Nat.le_of_ble_eq_true rfl) trivial (tw_X10_nodeTells h)
/-! X10_checksum -/
abbrev mm_X10_checksum : ax_M := (RX10, cX10_checksum, (some .long), 5, false)
def fb_X10_checksum_205 (k169 : Option Nat → Int64 → Int32 → ax_S → Option (Int64 × ax_S)) (k182 : Option Nat → Int64 → Int32 → Int32 → ax_S → Option (Int64 × ax_S)) (a0 : Option Nat) (a3 : Int32) (a4 : Int32) (b0 : Int64) (b1 : Int32) (s : ax_S) : Option (Int64 × ax_S) :=
  (fn_X10_more b0 b1 s).bind fun q1 =>
  k182 a0 q1.1 a3 (a4 + (1)) q1.2
set_option maxRecDepth 100000 in
set_option maxHeartbeats 4000000 in
theorem tb_X10_checksum_205 {q : Int64 × ax_S} {k169 : Option Nat → Int64 → Int32 → ax_S → Option (Int64 × ax_S)} {k182 : Option Nat → Int64 → Int32 → Int32 → ax_S → Option (Int64 × ax_S)} (hk169 : ∀ (a0 : Option Nat) (a1 : Int64) (a3 : Int32) (s : ax_S), k169 a0 a1 a3 s = some q → AW mm_X10_checksum 4 0 0 169 [(some (av_r a0)), (some (av_l a1)), none, (some (av_i a3)), none] [] s (some (av_l q.1), q.2)) (hk182 : ∀ (a0 : Option Nat) (a1 : Int64) (a3 : Int32) (a4 : Int32) (s : ax_S), k182 a0 a1 a3 a4 s = some q → AW mm_X10_checksum 4 0 0 182 [(some (av_r a0)), (some (av_l a1)), none, (some (av_i a3)), (some (av_i a4))] [] s (some (av_l q.1), q.2)) {a0 : Option Nat} {a3 : Int32} {a4 : Int32} {b0 : Int64} {b1 : Int32} {s : ax_S} (h : fb_X10_checksum_205 k169 k182 a0 a3 a4 b0 b1 s = some q) : AW mm_X10_checksum 4 0 0 205 [(some (av_r a0)), none, none, (some (av_i a3)), (some (av_i a4))] [av_i b1, av_l b0] s (some (av_l q.1), q.2) := by
  unfold fb_X10_checksum_205 at h
  obtain ⟨q1, gq1, h⟩ := Option.bind_eq_some_iff.mp h
  refine ax_cS (As := [av_l b0, av_i b1]) dX10_checksum_205 (th_X10_more gq1) (And.intro wd_1104 wd_59) wd_1102 wd_1103 cy_X10_more (by omega) (by decide) (Nat.le_of_ble_eq_true rfl) rfl ?_
  refine ax_lstore_n (i := 1) (L2 := [some (av_r a0), some (av_l q1.1), none, some (av_i a3), some (av_i a4)]) dX10_checksum_208 rfl (by decide) rfl rfl ?_
  refine ax_iinc (i := 4) (v := (a4 + (1))) (L2 := [some (av_r a0), some (av_l q1.1), none, some (av_i a3), some (av_i (a4 + (1)))]) dX10_checksum_209 rfl rfl (by decide) rfl rfl ?_
  refine ax_goto (tgt := 182) dX10_checksum_212 (by decide) ?_
  exact ax_less (L' := [(some (av_r a0)), (some (av_l q1.1)), none, (some (av_i a3)), (some (av_i (a4 + (1))))]) ⟨rfl, rfl, rfl, rfl, trivial⟩ (hk182 _ _ _ _ _ h)
def fb_X10_checksum_182 (k169 : Option Nat → Int64 → Int32 → ax_S → Option (Int64 × ax_S)) : Nat → Option Nat → Int64 → Int32 → Int32 → ax_S → Option (Int64 × ax_S)
  | 0, _, _, _, _, _ => none
  | n + 1, a0, a1, a3, a4, s =>
    if (10) ≤ a4 then
      k169 a0 a1 (a3 + (1)) s
    else
      (ax_sh s 7 a0).bind fun w3 =>
      (fn_X10_find a0 a3 a4 s).bind fun q4 =>
      if 0 ≤ q4.1 then
        fb_X10_checksum_205 k169 (fb_X10_checksum_182 k169 n) a0 a3 a4 a1 (1) q4.2
      else
        fb_X10_checksum_205 k169 (fb_X10_checksum_182 k169 n) a0 a3 a4 a1 (0) q4.2
set_option maxRecDepth 100000 in
set_option maxHeartbeats 4000000 in
theorem tb_X10_checksum_182 {q : Int64 × ax_S} {k169 : Option Nat → Int64 → Int32 → ax_S → Option (Int64 × ax_S)} (hk169 : ∀ (a0 : Option Nat) (a1 : Int64) (a3 : Int32) (s : ax_S), k169 a0 a1 a3 s = some q → AW mm_X10_checksum 4 0 0 169 [(some (av_r a0)), (some (av_l a1)), none, (some (av_i a3)), none] [] s (some (av_l q.1), q.2)) : ∀ (n : Nat) (a0 : Option Nat) (a1 : Int64) (a3 : Int32) (a4 : Int32) (s : ax_S) (h : fb_X10_checksum_182 k169 n a0 a1 a3 a4 s = some q), AW mm_X10_checksum 4 0 0 182 [(some (av_r a0)), (some (av_l a1)), none, (some (av_i a3)), (some (av_i a4))] [] s (some (av_l q.1), q.2) := by
  intro n
  induction n with
  | zero =>
    intro a0 a1 a3 a4 s h
    exact ax_no h
  | succ n ih =>
    intro a0 a1 a3 a4 s h
    unfold fb_X10_checksum_182 at h
    refine ax_iload (i := 4) dX10_checksum_182 rfl ?_
    refine ax_bipush (v := (10)) dX10_checksum_184 rfl ?_
    refine ax_icmp_ge (tgt := 215) dX10_checksum_186 (by decide) (fun c2 => ?_) (fun c2 => ?_)
    · rw [if_pos c2] at h
      refine ax_iinc (i := 3) (v := (a3 + (1))) (L2 := [some (av_r a0), some (av_l a1), none, some (av_i (a3 + (1))), some (av_i a4)]) dX10_checksum_215 rfl rfl (by decide) rfl rfl ?_
      refine ax_goto (tgt := 169) dX10_checksum_218 (by decide) ?_
      exact ax_less (L' := [(some (av_r a0)), (some (av_l a1)), none, (some (av_i (a3 + (1)))), none]) ⟨rfl, rfl, rfl, trivial⟩ (hk169 _ _ _ _ h)
    · rw [if_neg c2] at h
      refine ax_lload_n (i := 1) dX10_checksum_189 rfl rfl ?_
      refine ax_aload_n (i := 0) dX10_checksum_190 rfl rfl ?_
      refine ax_iload_n (i := 3) dX10_checksum_191 rfl rfl ?_
      refine ax_iload (i := 4) dX10_checksum_192 rfl ?_
      obtain ⟨w3, gw3, h⟩ := Option.bind_eq_some_iff.mp h
      obtain ⟨q4, gq4, h⟩ := Option.bind_eq_some_iff.mp h
      refine ax_cV (As := [av_i a3, av_i a4]) (t := 7) dX10_checksum_194 gw3 (th_X10_find gq4) rfl (And.intro wd_962 wd_59) wd_959 wd_961 wd_31 cy_X10_find (by omega) (by decide) (Nat.le_of_ble_eq_true rfl) rfl ?_
      refine ax_if_ge (tgt := 204) dX10_checksum_197 (by decide) (fun c5 => ?_) (fun c5 => ?_)
      · rw [if_pos c5] at h
        refine ax_iconst (v := (1)) dX10_checksum_204 rfl ?_
        exact ax_less (L' := [(some (av_r a0)), none, none, (some (av_i a3)), (some (av_i a4))]) ⟨rfl, rfl, rfl, trivial⟩ (tb_X10_checksum_205 hk169 ih h)
      · rw [if_neg c5] at h
        refine ax_iconst (v := (0)) dX10_checksum_200 rfl ?_
        refine ax_goto (tgt := 205) dX10_checksum_201 (by decide) ?_
        exact ax_less (L' := [(some (av_r a0)), none, none, (some (av_i a3)), (some (av_i a4))]) ⟨rfl, rfl, rfl, trivial⟩ (tb_X10_checksum_205 hk169 ih h)
def fb_X10_checksum_169 : Nat → Option Nat → Int64 → Int32 → ax_S → Option (Int64 × ax_S)
  | 0, _, _, _, _ => none
  | n + 1, a0, a1, a3, s =>
    (ax_gr s 7 0 a0).bind fun r6 =>
    (ax_al s 9 r6 (0)).bind fun x7 =>
    if x7 ≤ a3 then
      some (a1, s)
    else
      fb_X10_checksum_182 (fb_X10_checksum_169 n) 10000 a0 a1 a3 (0) s
set_option maxRecDepth 100000 in
set_option maxHeartbeats 4000000 in
theorem tb_X10_checksum_169 {q : Int64 × ax_S} : ∀ (n : Nat) (a0 : Option Nat) (a1 : Int64) (a3 : Int32) (s : ax_S) (h : fb_X10_checksum_169 n a0 a1 a3 s = some q), AW mm_X10_checksum 4 0 0 169 [(some (av_r a0)), (some (av_l a1)), none, (some (av_i a3)), none] [] s (some (av_l q.1), q.2) := by
  intro n
  induction n with
  | zero =>
    intro a0 a1 a3 s h
    exact ax_no h
  | succ n ih =>
    intro a0 a1 a3 s h
    unfold fb_X10_checksum_169 at h
    refine ax_iload_n (i := 3) dX10_checksum_169 rfl rfl ?_
    refine ax_aload_n (i := 0) dX10_checksum_170 rfl rfl ?_
    obtain ⟨r6, gr6, h⟩ := Option.bind_eq_some_iff.mp h
    refine ax_getR (q := (RX10, TX10, 28)) (t := 7) (k := 0) dX10_checksum_171 rfl (by decide) wd_756 rfl gr6 ?_
    refine ax_iconst (v := (0)) dX10_checksum_174 rfl ?_
    obtain ⟨x7, gx7, h⟩ := Option.bind_eq_some_iff.mp h
    refine ax_iald dX10_checksum_175 gx7 ?_
    refine ax_icmp_ge (tgt := 221) dX10_checksum_176 (by decide) (fun c8 => ?_) (fun c8 => ?_)
    · rw [if_pos c8] at h
      refine ax_lload_n (i := 1) dX10_checksum_221 rfl rfl ?_
      exact ax_retl dX10_checksum_222 h
    · rw [if_neg c8] at h
      refine ax_iconst (v := (0)) dX10_checksum_179 rfl ?_
      refine ax_istore (i := 4) (L2 := [some (av_r a0), some (av_l a1), none, some (av_i a3), some (av_i (0))]) dX10_checksum_180 (by decide) rfl rfl ?_
      exact ax_less (L' := [(some (av_r a0)), (some (av_l a1)), none, (some (av_i a3)), (some (av_i (0)))]) ⟨rfl, rfl, rfl, rfl, trivial⟩ (tb_X10_checksum_182 ih _ _ _ _ _ _ h)
def fb_X10_checksum_146 : Nat → Option Nat → Int64 → Int32 → ax_S → Option (Int64 × ax_S)
  | 0, _, _, _, _ => none
  | n + 1, a0, a1, a3, s =>
    if (5) ≤ a3 then
      fb_X10_checksum_169 10000 a0 a1 (0) s
    else
      (ax_sh s 7 a0).bind fun w10 =>
      (fn_X10_countOf a0 a3 s).bind fun q11 =>
      (fn_X10_more a1 q11.1 q11.2).bind fun q12 =>
      (fb_X10_checksum_146 n) a0 q12.1 (a3 + (1)) q12.2
set_option maxRecDepth 100000 in
set_option maxHeartbeats 4000000 in
theorem tb_X10_checksum_146 {q : Int64 × ax_S} : ∀ (n : Nat) (a0 : Option Nat) (a1 : Int64) (a3 : Int32) (s : ax_S) (h : fb_X10_checksum_146 n a0 a1 a3 s = some q), AW mm_X10_checksum 4 0 0 146 [(some (av_r a0)), (some (av_l a1)), none, (some (av_i a3)), none] [] s (some (av_l q.1), q.2) := by
  intro n
  induction n with
  | zero =>
    intro a0 a1 a3 s h
    exact ax_no h
  | succ n ih =>
    intro a0 a1 a3 s h
    unfold fb_X10_checksum_146 at h
    refine ax_iload_n (i := 3) dX10_checksum_146 rfl rfl ?_
    refine ax_iconst (v := (5)) dX10_checksum_147 rfl ?_
    refine ax_icmp_ge (tgt := 167) dX10_checksum_148 (by decide) (fun c9 => ?_) (fun c9 => ?_)
    · rw [if_pos c9] at h
      refine ax_iconst (v := (0)) dX10_checksum_167 rfl ?_
      refine ax_istore_n (i := 3) (L2 := [some (av_r a0), some (av_l a1), none, some (av_i (0)), none]) dX10_checksum_168 rfl (by decide) rfl rfl ?_
      exact ax_less (L' := [(some (av_r a0)), (some (av_l a1)), none, (some (av_i (0))), none]) ⟨rfl, rfl, rfl, trivial⟩ (tb_X10_checksum_169  _ _ _ _ _ h)
    · rw [if_neg c9] at h
      refine ax_lload_n (i := 1) dX10_checksum_151 rfl rfl ?_
      refine ax_aload_n (i := 0) dX10_checksum_152 rfl rfl ?_
      refine ax_iload_n (i := 3) dX10_checksum_153 rfl rfl ?_
      obtain ⟨w10, gw10, h⟩ := Option.bind_eq_some_iff.mp h
      obtain ⟨q11, gq11, h⟩ := Option.bind_eq_some_iff.mp h
      refine ax_cV (As := [av_i a3]) (t := 7) dX10_checksum_154 gw10 (th_X10_countOf gq11) rfl (And.intro wd_1032 wd_59) wd_1029 wd_1031 wd_41 cy_X10_countOf (by omega) (by decide) (Nat.le_of_ble_eq_true rfl) rfl ?_
      obtain ⟨q12, gq12, h⟩ := Option.bind_eq_some_iff.mp h
      refine ax_cS (As := [av_l a1, av_i q11.1]) dX10_checksum_157 (th_X10_more gq12) (And.intro wd_1104 wd_59) wd_1102 wd_1103 cy_X10_more (by omega) (by decide) (Nat.le_of_ble_eq_true rfl) rfl ?_
      refine ax_lstore_n (i := 1) (L2 := [some (av_r a0), some (av_l q12.1), none, some (av_i a3), none]) dX10_checksum_160 rfl (by decide) rfl rfl ?_
      refine ax_iinc (i := 3) (v := (a3 + (1))) (L2 := [some (av_r a0), some (av_l q12.1), none, some (av_i (a3 + (1))), none]) dX10_checksum_161 rfl rfl (by decide) rfl rfl ?_
      refine ax_goto (tgt := 146) dX10_checksum_164 (by decide) ?_
      exact ax_less (L' := [(some (av_r a0)), (some (av_l q12.1)), none, (some (av_i (a3 + (1)))), none]) ⟨rfl, rfl, rfl, trivial⟩ (ih _ _ _ _ h)
def fb_X10_checksum_98 (k15 : Option Nat → Int64 → Int32 → ax_S → Option (Int64 × ax_S)) : Nat → Option Nat → Int64 → Int32 → Int32 → ax_S → Option (Int64 × ax_S)
  | 0, _, _, _, _, _ => none
  | n + 1, a0, a1, a3, a4, s =>
    (ax_gr s 7 14 a0).bind fun r13 =>
    (ax_sh s 7 a0).bind fun w14 =>
    (fn_X10_kind a0 a3 s).bind fun q15 =>
    (ax_al q15.2 9 r13 q15.1).bind fun x16 =>
    if x16 ≤ a4 then
      k15 a0 a1 (a3 + (1)) q15.2
    else
      (ax_gr q15.2 7 0 a0).bind fun r18 =>
      (fn_X10_at a3 ((6) + a4) q15.2).bind fun q19 =>
      (ax_al q19.2 9 r18 q19.1).bind fun x20 =>
      (fn_X10_more a1 x20 q19.2).bind fun q21 =>
      (fb_X10_checksum_98 k15 n) a0 q21.1 a3 (a4 + (1)) q21.2
set_option maxRecDepth 100000 in
set_option maxHeartbeats 4000000 in
theorem tb_X10_checksum_98 {q : Int64 × ax_S} {k15 : Option Nat → Int64 → Int32 → ax_S → Option (Int64 × ax_S)} (hk15 : ∀ (a0 : Option Nat) (a1 : Int64) (a3 : Int32) (s : ax_S), k15 a0 a1 a3 s = some q → AW mm_X10_checksum 4 0 0 15 [(some (av_r a0)), (some (av_l a1)), none, (some (av_i a3)), none] [] s (some (av_l q.1), q.2)) : ∀ (n : Nat) (a0 : Option Nat) (a1 : Int64) (a3 : Int32) (a4 : Int32) (s : ax_S) (h : fb_X10_checksum_98 k15 n a0 a1 a3 a4 s = some q), AW mm_X10_checksum 4 0 0 98 [(some (av_r a0)), (some (av_l a1)), none, (some (av_i a3)), (some (av_i a4))] [] s (some (av_l q.1), q.2) := by
  intro n
  induction n with
  | zero =>
    intro a0 a1 a3 a4 s h
    exact ax_no h
  | succ n ih =>
    intro a0 a1 a3 a4 s h
    unfold fb_X10_checksum_98 at h
    refine ax_iload (i := 4) dX10_checksum_98 rfl ?_
    refine ax_aload_n (i := 0) dX10_checksum_100 rfl rfl ?_
    obtain ⟨r13, gr13, h⟩ := Option.bind_eq_some_iff.mp h
    refine ax_getR (q := (RX10, TX10, 28)) (t := 7) (k := 14) dX10_checksum_101 rfl (by decide) wd_770 rfl gr13 ?_
    refine ax_aload_n (i := 0) dX10_checksum_104 rfl rfl ?_
    refine ax_iload_n (i := 3) dX10_checksum_105 rfl rfl ?_
    obtain ⟨w14, gw14, h⟩ := Option.bind_eq_some_iff.mp h
    obtain ⟨q15, gq15, h⟩ := Option.bind_eq_some_iff.mp h
    refine ax_cV (As := [av_i a3]) (t := 7) dX10_checksum_106 gw14 (th_X10_kind gq15) rfl (And.intro wd_877 wd_59) wd_874 wd_876 wd_19 cy_X10_kind (by omega) (by decide) (Nat.le_of_ble_eq_true rfl) rfl ?_
    obtain ⟨x16, gx16, h⟩ := Option.bind_eq_some_iff.mp h
    refine ax_iald dX10_checksum_109 gx16 ?_
    refine ax_icmp_ge (tgt := 138) dX10_checksum_110 (by decide) (fun c17 => ?_) (fun c17 => ?_)
    · rw [if_pos c17] at h
      refine ax_iinc (i := 3) (v := (a3 + (1))) (L2 := [some (av_r a0), some (av_l a1), none, some (av_i (a3 + (1))), some (av_i a4)]) dX10_checksum_138 rfl rfl (by decide) rfl rfl ?_
      refine ax_goto (tgt := 15) dX10_checksum_141 (by decide) ?_
      exact ax_less (L' := [(some (av_r a0)), (some (av_l a1)), none, (some (av_i (a3 + (1)))), none]) ⟨rfl, rfl, rfl, trivial⟩ (hk15 _ _ _ _ h)
    · rw [if_neg c17] at h
      refine ax_lload_n (i := 1) dX10_checksum_113 rfl rfl ?_
      refine ax_aload_n (i := 0) dX10_checksum_114 rfl rfl ?_
      obtain ⟨r18, gr18, h⟩ := Option.bind_eq_some_iff.mp h
      refine ax_getR (q := (RX10, TX10, 28)) (t := 7) (k := 0) dX10_checksum_115 rfl (by decide) wd_756 rfl gr18 ?_
      refine ax_iload_n (i := 3) dX10_checksum_118 rfl rfl ?_
      refine ax_bipush (v := (6)) dX10_checksum_119 rfl ?_
      refine ax_iload (i := 4) dX10_checksum_121 rfl ?_
      refine ax_iadd dX10_checksum_123 ?_
      obtain ⟨q19, gq19, h⟩ := Option.bind_eq_some_iff.mp h
      refine ax_cS (As := [av_i a3, av_i ((6) + a4)]) dX10_checksum_124 (th_X10_at gq19) (And.intro wd_858 wd_59) wd_856 wd_857 cy_X10_at (by omega) (by decide) (Nat.le_of_ble_eq_true rfl) rfl ?_
      obtain ⟨x20, gx20, h⟩ := Option.bind_eq_some_iff.mp h
      refine ax_iald dX10_checksum_127 gx20 ?_
      obtain ⟨q21, gq21, h⟩ := Option.bind_eq_some_iff.mp h
      refine ax_cS (As := [av_l a1, av_i x20]) dX10_checksum_128 (th_X10_more gq21) (And.intro wd_1104 wd_59) wd_1102 wd_1103 cy_X10_more (by omega) (by decide) (Nat.le_of_ble_eq_true rfl) rfl ?_
      refine ax_lstore_n (i := 1) (L2 := [some (av_r a0), some (av_l q21.1), none, some (av_i a3), some (av_i a4)]) dX10_checksum_131 rfl (by decide) rfl rfl ?_
      refine ax_iinc (i := 4) (v := (a4 + (1))) (L2 := [some (av_r a0), some (av_l q21.1), none, some (av_i a3), some (av_i (a4 + (1)))]) dX10_checksum_132 rfl rfl (by decide) rfl rfl ?_
      refine ax_goto (tgt := 98) dX10_checksum_135 (by decide) ?_
      exact ax_less (L' := [(some (av_r a0)), (some (av_l q21.1)), none, (some (av_i a3)), (some (av_i (a4 + (1))))]) ⟨rfl, rfl, rfl, rfl, trivial⟩ (ih _ _ _ _ _ h)
def fb_X10_checksum_56 (k15 : Option Nat → Int64 → Int32 → ax_S → Option (Int64 × ax_S)) : Nat → Option Nat → Int64 → Int32 → Int32 → ax_S → Option (Int64 × ax_S)
  | 0, _, _, _, _, _ => none
  | n + 1, a0, a1, a3, a4, s =>
    (ax_gr s 7 13 a0).bind fun r22 =>
    (ax_sh s 7 a0).bind fun w23 =>
    (fn_X10_kind a0 a3 s).bind fun q24 =>
    (ax_al q24.2 9 r22 q24.1).bind fun x25 =>
    if x25 ≤ a4 then
      fb_X10_checksum_98 k15 10000 a0 a1 a3 (0) q24.2
    else
      (ax_gr q24.2 7 0 a0).bind fun r27 =>
      (fn_X10_at a3 ((3) + a4) q24.2).bind fun q28 =>
      (ax_al q28.2 9 r27 q28.1).bind fun x29 =>
      (fn_X10_more a1 x29 q28.2).bind fun q30 =>
      (fb_X10_checksum_56 k15 n) a0 q30.1 a3 (a4 + (1)) q30.2
set_option maxRecDepth 100000 in
set_option maxHeartbeats 4000000 in
theorem tb_X10_checksum_56 {q : Int64 × ax_S} {k15 : Option Nat → Int64 → Int32 → ax_S → Option (Int64 × ax_S)} (hk15 : ∀ (a0 : Option Nat) (a1 : Int64) (a3 : Int32) (s : ax_S), k15 a0 a1 a3 s = some q → AW mm_X10_checksum 4 0 0 15 [(some (av_r a0)), (some (av_l a1)), none, (some (av_i a3)), none] [] s (some (av_l q.1), q.2)) : ∀ (n : Nat) (a0 : Option Nat) (a1 : Int64) (a3 : Int32) (a4 : Int32) (s : ax_S) (h : fb_X10_checksum_56 k15 n a0 a1 a3 a4 s = some q), AW mm_X10_checksum 4 0 0 56 [(some (av_r a0)), (some (av_l a1)), none, (some (av_i a3)), (some (av_i a4))] [] s (some (av_l q.1), q.2) := by
  intro n
  induction n with
  | zero =>
    intro a0 a1 a3 a4 s h
    exact ax_no h
  | succ n ih =>
    intro a0 a1 a3 a4 s h
    unfold fb_X10_checksum_56 at h
    refine ax_iload (i := 4) dX10_checksum_56 rfl ?_
    refine ax_aload_n (i := 0) dX10_checksum_58 rfl rfl ?_
    obtain ⟨r22, gr22, h⟩ := Option.bind_eq_some_iff.mp h
    refine ax_getR (q := (RX10, TX10, 28)) (t := 7) (k := 13) dX10_checksum_59 rfl (by decide) wd_769 rfl gr22 ?_
    refine ax_aload_n (i := 0) dX10_checksum_62 rfl rfl ?_
    refine ax_iload_n (i := 3) dX10_checksum_63 rfl rfl ?_
    obtain ⟨w23, gw23, h⟩ := Option.bind_eq_some_iff.mp h
    obtain ⟨q24, gq24, h⟩ := Option.bind_eq_some_iff.mp h
    refine ax_cV (As := [av_i a3]) (t := 7) dX10_checksum_64 gw23 (th_X10_kind gq24) rfl (And.intro wd_877 wd_59) wd_874 wd_876 wd_19 cy_X10_kind (by omega) (by decide) (Nat.le_of_ble_eq_true rfl) rfl ?_
    obtain ⟨x25, gx25, h⟩ := Option.bind_eq_some_iff.mp h
    refine ax_iald dX10_checksum_67 gx25 ?_
    refine ax_icmp_ge (tgt := 95) dX10_checksum_68 (by decide) (fun c26 => ?_) (fun c26 => ?_)
    · rw [if_pos c26] at h
      refine ax_iconst (v := (0)) dX10_checksum_95 rfl ?_
      refine ax_istore (i := 4) (L2 := [some (av_r a0), some (av_l a1), none, some (av_i a3), some (av_i (0))]) dX10_checksum_96 (by decide) rfl rfl ?_
      exact ax_less (L' := [(some (av_r a0)), (some (av_l a1)), none, (some (av_i a3)), (some (av_i (0)))]) ⟨rfl, rfl, rfl, rfl, trivial⟩ (tb_X10_checksum_98 hk15 _ _ _ _ _ _ h)
    · rw [if_neg c26] at h
      refine ax_lload_n (i := 1) dX10_checksum_71 rfl rfl ?_
      refine ax_aload_n (i := 0) dX10_checksum_72 rfl rfl ?_
      obtain ⟨r27, gr27, h⟩ := Option.bind_eq_some_iff.mp h
      refine ax_getR (q := (RX10, TX10, 28)) (t := 7) (k := 0) dX10_checksum_73 rfl (by decide) wd_756 rfl gr27 ?_
      refine ax_iload_n (i := 3) dX10_checksum_76 rfl rfl ?_
      refine ax_iconst (v := (3)) dX10_checksum_77 rfl ?_
      refine ax_iload (i := 4) dX10_checksum_78 rfl ?_
      refine ax_iadd dX10_checksum_80 ?_
      obtain ⟨q28, gq28, h⟩ := Option.bind_eq_some_iff.mp h
      refine ax_cS (As := [av_i a3, av_i ((3) + a4)]) dX10_checksum_81 (th_X10_at gq28) (And.intro wd_858 wd_59) wd_856 wd_857 cy_X10_at (by omega) (by decide) (Nat.le_of_ble_eq_true rfl) rfl ?_
      obtain ⟨x29, gx29, h⟩ := Option.bind_eq_some_iff.mp h
      refine ax_iald dX10_checksum_84 gx29 ?_
      obtain ⟨q30, gq30, h⟩ := Option.bind_eq_some_iff.mp h
      refine ax_cS (As := [av_l a1, av_i x29]) dX10_checksum_85 (th_X10_more gq30) (And.intro wd_1104 wd_59) wd_1102 wd_1103 cy_X10_more (by omega) (by decide) (Nat.le_of_ble_eq_true rfl) rfl ?_
      refine ax_lstore_n (i := 1) (L2 := [some (av_r a0), some (av_l q30.1), none, some (av_i a3), some (av_i a4)]) dX10_checksum_88 rfl (by decide) rfl rfl ?_
      refine ax_iinc (i := 4) (v := (a4 + (1))) (L2 := [some (av_r a0), some (av_l q30.1), none, some (av_i a3), some (av_i (a4 + (1)))]) dX10_checksum_89 rfl rfl (by decide) rfl rfl ?_
      refine ax_goto (tgt := 56) dX10_checksum_92 (by decide) ?_
      exact ax_less (L' := [(some (av_r a0)), (some (av_l q30.1)), none, (some (av_i a3)), (some (av_i (a4 + (1))))]) ⟨rfl, rfl, rfl, rfl, trivial⟩ (ih _ _ _ _ _ h)
def fb_X10_checksum_28 (k15 : Option Nat → Int64 → Int32 → ax_S → Option (Int64 × ax_S)) : Nat → Option Nat → Int64 → Int32 → Int32 → ax_S → Option (Int64 × ax_S)
  | 0, _, _, _, _, _ => none
  | n + 1, a0, a1, a3, a4, s =>
    if (6) ≤ a4 then
      fb_X10_checksum_56 k15 10000 a0 a1 a3 (0) s
    else
      (ax_sh s 7 a0).bind fun w32 =>
      (fn_X10_nodeTells a0 a3 a4 s).bind fun q33 =>
      (fn_X10_more a1 q33.1 q33.2).bind fun q34 =>
      (fb_X10_checksum_28 k15 n) a0 q34.1 a3 (a4 + (1)) q34.2
set_option maxRecDepth 100000 in
set_option maxHeartbeats 4000000 in
theorem tb_X10_checksum_28 {q : Int64 × ax_S} {k15 : Option Nat → Int64 → Int32 → ax_S → Option (Int64 × ax_S)} (hk15 : ∀ (a0 : Option Nat) (a1 : Int64) (a3 : Int32) (s : ax_S), k15 a0 a1 a3 s = some q → AW mm_X10_checksum 4 0 0 15 [(some (av_r a0)), (some (av_l a1)), none, (some (av_i a3)), none] [] s (some (av_l q.1), q.2)) : ∀ (n : Nat) (a0 : Option Nat) (a1 : Int64) (a3 : Int32) (a4 : Int32) (s : ax_S) (h : fb_X10_checksum_28 k15 n a0 a1 a3 a4 s = some q), AW mm_X10_checksum 4 0 0 28 [(some (av_r a0)), (some (av_l a1)), none, (some (av_i a3)), (some (av_i a4))] [] s (some (av_l q.1), q.2) := by
  intro n
  induction n with
  | zero =>
    intro a0 a1 a3 a4 s h
    exact ax_no h
  | succ n ih =>
    intro a0 a1 a3 a4 s h
    unfold fb_X10_checksum_28 at h
    refine ax_iload (i := 4) dX10_checksum_28 rfl ?_
    refine ax_bipush (v := (6)) dX10_checksum_30 rfl ?_
    refine ax_icmp_ge (tgt := 53) dX10_checksum_32 (by decide) (fun c31 => ?_) (fun c31 => ?_)
    · rw [if_pos c31] at h
      refine ax_iconst (v := (0)) dX10_checksum_53 rfl ?_
      refine ax_istore (i := 4) (L2 := [some (av_r a0), some (av_l a1), none, some (av_i a3), some (av_i (0))]) dX10_checksum_54 (by decide) rfl rfl ?_
      exact ax_less (L' := [(some (av_r a0)), (some (av_l a1)), none, (some (av_i a3)), (some (av_i (0)))]) ⟨rfl, rfl, rfl, rfl, trivial⟩ (tb_X10_checksum_56 hk15 _ _ _ _ _ _ h)
    · rw [if_neg c31] at h
      refine ax_lload_n (i := 1) dX10_checksum_35 rfl rfl ?_
      refine ax_aload_n (i := 0) dX10_checksum_36 rfl rfl ?_
      refine ax_iload_n (i := 3) dX10_checksum_37 rfl rfl ?_
      refine ax_iload (i := 4) dX10_checksum_38 rfl ?_
      obtain ⟨w32, gw32, h⟩ := Option.bind_eq_some_iff.mp h
      obtain ⟨q33, gq33, h⟩ := Option.bind_eq_some_iff.mp h
      refine ax_cV (As := [av_i a3, av_i a4]) (t := 7) dX10_checksum_40 gw32 (th_X10_nodeTells gq33) rfl (And.intro wd_919 wd_59) wd_916 wd_918 wd_24 cy_X10_nodeTells (by omega) (by decide) (Nat.le_of_ble_eq_true rfl) rfl ?_
      obtain ⟨q34, gq34, h⟩ := Option.bind_eq_some_iff.mp h
      refine ax_cS (As := [av_l a1, av_i q33.1]) dX10_checksum_43 (th_X10_more gq34) (And.intro wd_1104 wd_59) wd_1102 wd_1103 cy_X10_more (by omega) (by decide) (Nat.le_of_ble_eq_true rfl) rfl ?_
      refine ax_lstore_n (i := 1) (L2 := [some (av_r a0), some (av_l q34.1), none, some (av_i a3), some (av_i a4)]) dX10_checksum_46 rfl (by decide) rfl rfl ?_
      refine ax_iinc (i := 4) (v := (a4 + (1))) (L2 := [some (av_r a0), some (av_l q34.1), none, some (av_i a3), some (av_i (a4 + (1)))]) dX10_checksum_47 rfl rfl (by decide) rfl rfl ?_
      refine ax_goto (tgt := 28) dX10_checksum_50 (by decide) ?_
      exact ax_less (L' := [(some (av_r a0)), (some (av_l q34.1)), none, (some (av_i a3)), (some (av_i (a4 + (1))))]) ⟨rfl, rfl, rfl, rfl, trivial⟩ (ih _ _ _ _ _ h)
def fb_X10_checksum_15 : Nat → Option Nat → Int64 → Int32 → ax_S → Option (Int64 × ax_S)
  | 0, _, _, _, _ => none
  | n + 1, a0, a1, a3, s =>
    (ax_gr s 7 0 a0).bind fun r35 =>
    (ax_al s 9 r35 (0)).bind fun x36 =>
    if x36 ≤ a3 then
      fb_X10_checksum_146 10000 a0 a1 (0) s
    else
      fb_X10_checksum_28 (fb_X10_checksum_15 n) 10000 a0 a1 a3 (0) s
set_option maxRecDepth 100000 in
set_option maxHeartbeats 4000000 in
theorem tb_X10_checksum_15 {q : Int64 × ax_S} : ∀ (n : Nat) (a0 : Option Nat) (a1 : Int64) (a3 : Int32) (s : ax_S) (h : fb_X10_checksum_15 n a0 a1 a3 s = some q), AW mm_X10_checksum 4 0 0 15 [(some (av_r a0)), (some (av_l a1)), none, (some (av_i a3)), none] [] s (some (av_l q.1), q.2) := by
  intro n
  induction n with
  | zero =>
    intro a0 a1 a3 s h
    exact ax_no h
  | succ n ih =>
    intro a0 a1 a3 s h
    unfold fb_X10_checksum_15 at h
    refine ax_iload_n (i := 3) dX10_checksum_15 rfl rfl ?_
    refine ax_aload_n (i := 0) dX10_checksum_16 rfl rfl ?_
    obtain ⟨r35, gr35, h⟩ := Option.bind_eq_some_iff.mp h
    refine ax_getR (q := (RX10, TX10, 28)) (t := 7) (k := 0) dX10_checksum_17 rfl (by decide) wd_756 rfl gr35 ?_
    refine ax_iconst (v := (0)) dX10_checksum_20 rfl ?_
    obtain ⟨x36, gx36, h⟩ := Option.bind_eq_some_iff.mp h
    refine ax_iald dX10_checksum_21 gx36 ?_
    refine ax_icmp_ge (tgt := 144) dX10_checksum_22 (by decide) (fun c37 => ?_) (fun c37 => ?_)
    · rw [if_pos c37] at h
      refine ax_iconst (v := (0)) dX10_checksum_144 rfl ?_
      refine ax_istore_n (i := 3) (L2 := [some (av_r a0), some (av_l a1), none, some (av_i (0)), none]) dX10_checksum_145 rfl (by decide) rfl rfl ?_
      exact ax_less (L' := [(some (av_r a0)), (some (av_l a1)), none, (some (av_i (0))), none]) ⟨rfl, rfl, rfl, trivial⟩ (tb_X10_checksum_146  _ _ _ _ _ h)
    · rw [if_neg c37] at h
      refine ax_iconst (v := (0)) dX10_checksum_25 rfl ?_
      refine ax_istore (i := 4) (L2 := [some (av_r a0), some (av_l a1), none, some (av_i a3), some (av_i (0))]) dX10_checksum_26 (by decide) rfl rfl ?_
      exact ax_less (L' := [(some (av_r a0)), (some (av_l a1)), none, (some (av_i a3)), (some (av_i (0)))]) ⟨rfl, rfl, rfl, rfl, trivial⟩ (tb_X10_checksum_28 ih _ _ _ _ _ _ h)
def fn_X10_checksum (a0 : Option Nat) (s : ax_S) : Option (Int64 × ax_S) :=
  (ax_gr s 7 0 a0).bind fun r38 =>
  (ax_al s 9 r38 (0)).bind fun x39 =>
  (fn_X10_more (127) x39 s).bind fun q40 =>
  fb_X10_checksum_15 10000 a0 q40.1 (0) q40.2
set_option maxRecDepth 100000 in
set_option maxHeartbeats 4000000 in
theorem tw_X10_checksum {q : Int64 × ax_S} {a0 : Option Nat} {s : ax_S} (h : fn_X10_checksum a0 s = some q) : AW mm_X10_checksum 4 0 0 0 [some (av_r a0), none, none, none, none] [] s (some (av_l q.1), q.2) := by
  unfold fn_X10_checksum at h
  refine ax_ldc2 (v := (127)) dX10_checksum_0 wd_1101 ?_
  refine ax_aload_n (i := 0) dX10_checksum_3 rfl rfl ?_
  obtain ⟨r38, gr38, h⟩ := Option.bind_eq_some_iff.mp h
  refine ax_getR (q := (RX10, TX10, 28)) (t := 7) (k := 0) dX10_checksum_4 rfl (by decide) wd_756 rfl gr38 ?_
  refine ax_iconst (v := (0)) dX10_checksum_7 rfl ?_
  obtain ⟨x39, gx39, h⟩ := Option.bind_eq_some_iff.mp h
  refine ax_iald dX10_checksum_8 gx39 ?_
  obtain ⟨q40, gq40, h⟩ := Option.bind_eq_some_iff.mp h
  refine ax_cS (As := [av_l (127), av_i x39]) dX10_checksum_9 (th_X10_more gq40) (And.intro wd_1104 wd_59) wd_1102 wd_1103 cy_X10_more (by omega) (by decide) (Nat.le_of_ble_eq_true rfl) rfl ?_
  refine ax_lstore_n (i := 1) (L2 := [some (av_r a0), some (av_l q40.1), none, none, none]) dX10_checksum_12 rfl (by decide) rfl rfl ?_
  refine ax_iconst (v := (0)) dX10_checksum_13 rfl ?_
  refine ax_istore_n (i := 3) (L2 := [some (av_r a0), some (av_l q40.1), none, some (av_i (0)), none]) dX10_checksum_14 rfl (by decide) rfl rfl ?_
  exact ax_less (L' := [(some (av_r a0)), (some (av_l q40.1)), none, (some (av_i (0))), none]) ⟨rfl, rfl, rfl, trivial⟩ (tb_X10_checksum_15  _ _ _ _ _ h)
set_option maxRecDepth 100000 in
set_option maxHeartbeats 4000000 in
theorem th_X10_checksum {q : Int64 × ax_S} {a0 : Option Nat} {s : ax_S} (h : fn_X10_checksum a0 s = some q) : AC mm_X10_checksum yX10_checksum 4 0 0 [av_r a0] s (some (av_l q.1), q.2) := by
  exact ax_met (L0 := [some (av_r a0), none, none, none, none]) (by decide +kernel) rfl (fun h => absurd h (by decide)) ⟨rfl, trivial⟩ (Nat.le_of_ble_eq_true rfl) trivial (tw_X10_checksum h)
