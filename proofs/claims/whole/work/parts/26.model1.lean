/-! X10_at -/
abbrev mm_X10_at : ax_M := (RX10, cX10_at, (some .int), 2, false)
def fn_X10_at (a0 : Int32) (a1 : Int32) (s : ax_S) : Option (Int32 × ax_S) :=
  some ((((1) + ((10) * a0)) + a1), s)
set_option maxRecDepth 100000 in
set_option maxHeartbeats 4000000 in
theorem tw_X10_at {q : Int32 × ax_S} {a0 : Int32} {a1 : Int32} {s : ax_S} (h : fn_X10_at a0 a1 s = some q) : AW mm_X10_at 0 0 0 0 [some (av_i a0), some (av_i a1)] [] s (some (av_i q.1), q.2) := by
  unfold fn_X10_at at h
  refine ax_iconst (v := (1)) dX10_at_0 rfl ?_
  refine ax_bipush (v := (10)) dX10_at_1 rfl ?_
  refine ax_iload_n (i := 0) dX10_at_3 rfl rfl ?_
  refine ax_imul dX10_at_4 ?_
  refine ax_iadd dX10_at_5 ?_
  refine ax_iload_n (i := 1) dX10_at_6 rfl rfl ?_
  refine ax_iadd dX10_at_7 ?_
  exact ax_reti dX10_at_8 h
set_option maxRecDepth 100000 in
set_option maxHeartbeats 4000000 in
theorem th_X10_at {q : Int32 × ax_S} {a0 : Int32} {a1 : Int32} {s : ax_S} (h : fn_X10_at a0 a1 s = some q) : AC mm_X10_at yX10_at 0 0 0 [av_i a0, av_i a1] s (some (av_i q.1), q.2) := by
  exact ax_met (L0 := [some (av_i a0), some (av_i a1)]) (by decide +kernel) rfl (fun h => absurd h (by decide)) ⟨rfl, rfl, trivial⟩ (Nat.le_of_ble_eq_true rfl) trivial (tw_X10_at h)
/-! X10_first -/
abbrev mm_X10_first : ax_M := (RX10, cX10_first, (some .int), 2, false)
def fn_X10_first (a0 : Int32) (a1 : Int32) (s : ax_S) : Option (Int32 × ax_S) :=
  if a0 = (1) then
    some ((16), s)
  else
    if a0 = (4) then
      some ((1), s)
    else
      if a0 = (5) then
        if a1 = (2) then
          some ((255), s)
        else
          some ((0), s)
      else
        some ((0), s)
set_option maxRecDepth 100000 in
set_option maxHeartbeats 4000000 in
theorem tw_X10_first {q : Int32 × ax_S} {a0 : Int32} {a1 : Int32} {s : ax_S} (h : fn_X10_first a0 a1 s = some q) : AW mm_X10_first 0 0 0 0 [some (av_i a0), some (av_i a1)] [] s (some (av_i q.1), q.2) := by
  unfold fn_X10_first at h
  refine ax_iload_n (i := 0) dX10_first_0 rfl rfl ?_
  refine ax_iconst (v := (1)) dX10_first_1 rfl ?_
  refine ax_icmp_ne (tgt := 10) dX10_first_2 (by decide) (fun c1 => ?_) (fun c1 => ?_)
  · rw [if_neg c1] at h
    refine ax_iload_n (i := 0) dX10_first_10 rfl rfl ?_
    refine ax_iconst (v := (4)) dX10_first_11 rfl ?_
    refine ax_icmp_ne (tgt := 19) dX10_first_12 (by decide) (fun c2 => ?_) (fun c2 => ?_)
    · rw [if_neg c2] at h
      refine ax_iload_n (i := 0) dX10_first_19 rfl rfl ?_
      refine ax_iconst (v := (5)) dX10_first_20 rfl ?_
      refine ax_icmp_ne (tgt := 35) dX10_first_21 (by decide) (fun c3 => ?_) (fun c3 => ?_)
      · rw [if_neg c3] at h
        refine ax_iconst (v := (0)) dX10_first_35 rfl ?_
        exact ax_reti dX10_first_36 h
      · rw [if_pos c3] at h
        refine ax_iload_n (i := 1) dX10_first_24 rfl rfl ?_
        refine ax_iconst (v := (2)) dX10_first_25 rfl ?_
        refine ax_icmp_ne (tgt := 35) dX10_first_26 (by decide) (fun c4 => ?_) (fun c4 => ?_)
        · rw [if_neg c4] at h
          refine ax_iconst (v := (0)) dX10_first_35 rfl ?_
          exact ax_reti dX10_first_36 h
        · rw [if_pos c4] at h
          refine ax_sipush (v := (255)) dX10_first_29 rfl ?_
          refine ax_goto (tgt := 36) dX10_first_32 (by decide) ?_
          exact ax_reti dX10_first_36 h
    · rw [if_pos c2] at h
      refine ax_iconst (v := (1)) dX10_first_15 rfl ?_
      refine ax_goto (tgt := 36) dX10_first_16 (by decide) ?_
      exact ax_reti dX10_first_36 h
  · rw [if_pos c1] at h
    refine ax_bipush (v := (16)) dX10_first_5 rfl ?_
    refine ax_goto (tgt := 36) dX10_first_7 (by decide) ?_
    exact ax_reti dX10_first_36 h
set_option maxRecDepth 100000 in
set_option maxHeartbeats 4000000 in
theorem th_X10_first {q : Int32 × ax_S} {a0 : Int32} {a1 : Int32} {s : ax_S} (h : fn_X10_first a0 a1 s = some q) : AC mm_X10_first yX10_first 0 0 0 [av_i a0, av_i a1] s (some (av_i q.1), q.2) := by
  exact ax_met (L0 := [some (av_i a0), some (av_i a1)]) (by decide +kernel) rfl (fun h => absurd h (by decide)) ⟨rfl, rfl, trivial⟩ (Nat.le_of_ble_eq_true rfl) trivial (tw_X10_first h)
/-! X10_adds -/
abbrev mm_X10_adds : ax_M := (RX10, cX10_adds, (some .int), 4, false)
def fb_X10_adds_71 : Nat → Option Nat → Int32 → Int32 → Int32 → ax_S → Option (Int32 × ax_S)
  | 0, _, _, _, _, _ => none
  | n + 1, a0, a1, a2, a3, s =>
    if (4) ≤ a3 then
      (ax_gr s 7 0 a0).bind fun r2 =>
      (ax_al s 9 r2 (0)).bind fun x3 =>
      (ax_as s 9 r2 (0) (x3 + (1))).bind fun s4 =>
      some (a2, s4)
    else
      (ax_gr s 7 0 a0).bind fun r5 =>
      (fn_X10_at a2 ((6) + a3) s).bind fun q6 =>
      (fn_X10_first a1 a3 q6.2).bind fun q7 =>
      (ax_as q7.2 9 r5 q6.1 q7.1).bind fun s8 =>
      (fb_X10_adds_71 n) a0 a1 a2 (a3 + (1)) s8
set_option maxRecDepth 100000 in
set_option maxHeartbeats 4000000 in
theorem tb_X10_adds_71 {q : Int32 × ax_S} : ∀ (n : Nat) (a0 : Option Nat) (a1 : Int32) (a2 : Int32) (a3 : Int32) (s : ax_S) (h : fb_X10_adds_71 n a0 a1 a2 a3 s = some q), AW mm_X10_adds 1 0 0 71 [(some (av_r a0)), (some (av_i a1)), (some (av_i a2)), (some (av_i a3))] [] s (some (av_i q.1), q.2) := by
  intro n
  induction n with
  | zero =>
    intro a0 a1 a2 a3 s h
    exact ax_no h
  | succ n ih =>
    intro a0 a1 a2 a3 s h
    unfold fb_X10_adds_71 at h
    refine ax_iload_n (i := 3) dX10_adds_71 rfl rfl ?_
    refine ax_iconst (v := (4)) dX10_adds_72 rfl ?_
    refine ax_icmp_ge (tgt := 100) dX10_adds_73 (by decide) (fun c1 => ?_) (fun c1 => ?_)
    · rw [if_pos c1] at h
      refine ax_aload_n (i := 0) dX10_adds_100 rfl rfl ?_
      obtain ⟨r2, gr2, h⟩ := Option.bind_eq_some_iff.mp h
      refine ax_getR (q := (RX10, TX10, 28)) (t := 7) (k := 0) dX10_adds_101 rfl (by decide) wd_761 rfl gr2 ?_
      refine ax_iconst (v := (0)) dX10_adds_104 rfl ?_
      refine ax_dup2 dX10_adds_105 trivial trivial ?_
      obtain ⟨x3, gx3, h⟩ := Option.bind_eq_some_iff.mp h
      refine ax_iald dX10_adds_106 gx3 ?_
      refine ax_iconst (v := (1)) dX10_adds_107 rfl ?_
      refine ax_iadd dX10_adds_108 ?_
      obtain ⟨s4, gs4, h⟩ := Option.bind_eq_some_iff.mp h
      refine ax_iast dX10_adds_109 gs4 ?_
      refine ax_iload_n (i := 2) dX10_adds_110 rfl rfl ?_
      exact ax_reti dX10_adds_111 h
    · rw [if_neg c1] at h
      refine ax_aload_n (i := 0) dX10_adds_76 rfl rfl ?_
      obtain ⟨r5, gr5, h⟩ := Option.bind_eq_some_iff.mp h
      refine ax_getR (q := (RX10, TX10, 28)) (t := 7) (k := 0) dX10_adds_77 rfl (by decide) wd_761 rfl gr5 ?_
      refine ax_iload_n (i := 2) dX10_adds_80 rfl rfl ?_
      refine ax_bipush (v := (6)) dX10_adds_81 rfl ?_
      refine ax_iload_n (i := 3) dX10_adds_83 rfl rfl ?_
      refine ax_iadd dX10_adds_84 ?_
      obtain ⟨q6, gq6, h⟩ := Option.bind_eq_some_iff.mp h
      refine ax_cS (As := [av_i a2, av_i ((6) + a3)]) dX10_adds_85 (th_X10_at gq6) (And.intro wd_863 wd_60) wd_861 wd_862 cy_X10_at (by omega) (by decide) (Nat.le_of_ble_eq_true rfl) rfl ?_
      refine ax_iload_n (i := 1) dX10_adds_88 rfl rfl ?_
      refine ax_iload_n (i := 3) dX10_adds_89 rfl rfl ?_
      obtain ⟨q7, gq7, h⟩ := Option.bind_eq_some_iff.mp h
      refine ax_cS (As := [av_i a1, av_i a3]) dX10_adds_90 (th_X10_first gq7) (And.intro wd_866 wd_60) wd_864 wd_865 cy_X10_first (by omega) (by decide) (Nat.le_of_ble_eq_true rfl) rfl ?_
      obtain ⟨s8, gs8, h⟩ := Option.bind_eq_some_iff.mp h
      refine ax_iast dX10_adds_93 gs8 ?_
      refine ax_iinc (i := 3) (v := (a3 + (1))) (L2 := [some (av_r a0), some (av_i a1), some (av_i a2), some (av_i (a3 + (1)))]) dX10_adds_94 rfl rfl (by decide) rfl rfl ?_
      refine ax_goto (tgt := 71) dX10_adds_97 (by decide) ?_
      exact ax_less (L' := [(some (av_r a0)), (some (av_i a1)), (some (av_i a2)), (some (av_i (a3 + (1))))]) ⟨rfl, rfl, rfl, rfl, trivial⟩ (ih _ _ _ _ _ h)
def fb_X10_adds_43 : Nat → Option Nat → Int32 → Int32 → Int32 → ax_S → Option (Int32 × ax_S)
  | 0, _, _, _, _, _ => none
  | n + 1, a0, a1, a2, a3, s =>
    if (3) ≤ a3 then
      fb_X10_adds_71 10000 a0 a1 a2 (0) s
    else
      (ax_gr s 7 0 a0).bind fun r10 =>
      (fn_X10_at a2 ((3) + a3) s).bind fun q11 =>
      (ax_as q11.2 9 r10 q11.1 (-1005)).bind fun s12 =>
      (fb_X10_adds_43 n) a0 a1 a2 (a3 + (1)) s12
set_option maxRecDepth 100000 in
set_option maxHeartbeats 4000000 in
theorem tb_X10_adds_43 {q : Int32 × ax_S} : ∀ (n : Nat) (a0 : Option Nat) (a1 : Int32) (a2 : Int32) (a3 : Int32) (s : ax_S) (h : fb_X10_adds_43 n a0 a1 a2 a3 s = some q), AW mm_X10_adds 1 0 0 43 [(some (av_r a0)), (some (av_i a1)), (some (av_i a2)), (some (av_i a3))] [] s (some (av_i q.1), q.2) := by
  intro n
  induction n with
  | zero =>
    intro a0 a1 a2 a3 s h
    exact ax_no h
  | succ n ih =>
    intro a0 a1 a2 a3 s h
    unfold fb_X10_adds_43 at h
    refine ax_iload_n (i := 3) dX10_adds_43 rfl rfl ?_
    refine ax_iconst (v := (3)) dX10_adds_44 rfl ?_
    refine ax_icmp_ge (tgt := 69) dX10_adds_45 (by decide) (fun c9 => ?_) (fun c9 => ?_)
    · rw [if_pos c9] at h
      refine ax_iconst (v := (0)) dX10_adds_69 rfl ?_
      refine ax_istore_n (i := 3) (L2 := [some (av_r a0), some (av_i a1), some (av_i a2), some (av_i (0))]) dX10_adds_70 rfl (by decide) rfl rfl ?_
      exact ax_less (L' := [(some (av_r a0)), (some (av_i a1)), (some (av_i a2)), (some (av_i (0)))]) ⟨rfl, rfl, rfl, rfl, trivial⟩ (tb_X10_adds_71  _ _ _ _ _ _ h)
    · rw [if_neg c9] at h
      refine ax_aload_n (i := 0) dX10_adds_48 rfl rfl ?_
      obtain ⟨r10, gr10, h⟩ := Option.bind_eq_some_iff.mp h
      refine ax_getR (q := (RX10, TX10, 28)) (t := 7) (k := 0) dX10_adds_49 rfl (by decide) wd_761 rfl gr10 ?_
      refine ax_iload_n (i := 2) dX10_adds_52 rfl rfl ?_
      refine ax_iconst (v := (3)) dX10_adds_53 rfl ?_
      refine ax_iload_n (i := 3) dX10_adds_54 rfl rfl ?_
      refine ax_iadd dX10_adds_55 ?_
      obtain ⟨q11, gq11, h⟩ := Option.bind_eq_some_iff.mp h
      refine ax_cS (As := [av_i a2, av_i ((3) + a3)]) dX10_adds_56 (th_X10_at gq11) (And.intro wd_863 wd_60) wd_861 wd_862 cy_X10_at (by omega) (by decide) (Nat.le_of_ble_eq_true rfl) rfl ?_
      refine ax_sipush (v := (-1005)) dX10_adds_59 rfl ?_
      obtain ⟨s12, gs12, h⟩ := Option.bind_eq_some_iff.mp h
      refine ax_iast dX10_adds_62 gs12 ?_
      refine ax_iinc (i := 3) (v := (a3 + (1))) (L2 := [some (av_r a0), some (av_i a1), some (av_i a2), some (av_i (a3 + (1)))]) dX10_adds_63 rfl rfl (by decide) rfl rfl ?_
      refine ax_goto (tgt := 43) dX10_adds_66 (by decide) ?_
      exact ax_less (L' := [(some (av_r a0)), (some (av_i a1)), (some (av_i a2)), (some (av_i (a3 + (1))))]) ⟨rfl, rfl, rfl, rfl, trivial⟩ (ih _ _ _ _ _ h)
def fn_X10_adds (a0 : Option Nat) (a1 : Int32) (s : ax_S) : Option (Int32 × ax_S) :=
  (ax_gr s 7 0 a0).bind fun r13 =>
  (ax_al s 9 r13 (0)).bind fun x14 =>
  (ax_gr s 7 0 a0).bind fun r15 =>
  (fn_X10_at x14 (0) s).bind fun q16 =>
  (ax_as q16.2 9 r15 q16.1 a1).bind fun s17 =>
  (ax_gr s17 7 0 a0).bind fun r18 =>
  (fn_X10_at x14 (1) s17).bind fun q19 =>
  (ax_as q19.2 9 r18 q19.1 (0)).bind fun s20 =>
  (ax_gr s20 7 0 a0).bind fun r21 =>
  (fn_X10_at x14 (2) s20).bind fun q22 =>
  (ax_as q22.2 9 r21 q22.1 (99)).bind fun s23 =>
  fb_X10_adds_43 10000 a0 a1 x14 (0) s23
set_option maxRecDepth 100000 in
set_option maxHeartbeats 4000000 in
theorem tw_X10_adds {q : Int32 × ax_S} {a0 : Option Nat} {a1 : Int32} {s : ax_S} (h : fn_X10_adds a0 a1 s = some q) : AW mm_X10_adds 1 0 0 0 [some (av_r a0), some (av_i a1), none, none] [] s (some (av_i q.1), q.2) := by
  unfold fn_X10_adds at h
  refine ax_aload_n (i := 0) dX10_adds_0 rfl rfl ?_
  obtain ⟨r13, gr13, h⟩ := Option.bind_eq_some_iff.mp h
  refine ax_getR (q := (RX10, TX10, 28)) (t := 7) (k := 0) dX10_adds_1 rfl (by decide) wd_761 rfl gr13 ?_
  refine ax_iconst (v := (0)) dX10_adds_4 rfl ?_
  obtain ⟨x14, gx14, h⟩ := Option.bind_eq_some_iff.mp h
  refine ax_iald dX10_adds_5 gx14 ?_
  refine ax_istore_n (i := 2) (L2 := [some (av_r a0), some (av_i a1), some (av_i x14), none]) dX10_adds_6 rfl (by decide) rfl rfl ?_
  refine ax_aload_n (i := 0) dX10_adds_7 rfl rfl ?_
  obtain ⟨r15, gr15, h⟩ := Option.bind_eq_some_iff.mp h
  refine ax_getR (q := (RX10, TX10, 28)) (t := 7) (k := 0) dX10_adds_8 rfl (by decide) wd_761 rfl gr15 ?_
  refine ax_iload_n (i := 2) dX10_adds_11 rfl rfl ?_
  refine ax_iconst (v := (0)) dX10_adds_12 rfl ?_
  obtain ⟨q16, gq16, h⟩ := Option.bind_eq_some_iff.mp h
  refine ax_cS (As := [av_i x14, av_i (0)]) dX10_adds_13 (th_X10_at gq16) (And.intro wd_863 wd_60) wd_861 wd_862 cy_X10_at (by omega) (by decide) (Nat.le_of_ble_eq_true rfl) rfl ?_
  refine ax_iload_n (i := 1) dX10_adds_16 rfl rfl ?_
  obtain ⟨s17, gs17, h⟩ := Option.bind_eq_some_iff.mp h
  refine ax_iast dX10_adds_17 gs17 ?_
  refine ax_aload_n (i := 0) dX10_adds_18 rfl rfl ?_
  obtain ⟨r18, gr18, h⟩ := Option.bind_eq_some_iff.mp h
  refine ax_getR (q := (RX10, TX10, 28)) (t := 7) (k := 0) dX10_adds_19 rfl (by decide) wd_761 rfl gr18 ?_
  refine ax_iload_n (i := 2) dX10_adds_22 rfl rfl ?_
  refine ax_iconst (v := (1)) dX10_adds_23 rfl ?_
  obtain ⟨q19, gq19, h⟩ := Option.bind_eq_some_iff.mp h
  refine ax_cS (As := [av_i x14, av_i (1)]) dX10_adds_24 (th_X10_at gq19) (And.intro wd_863 wd_60) wd_861 wd_862 cy_X10_at (by omega) (by decide) (Nat.le_of_ble_eq_true rfl) rfl ?_
  refine ax_iconst (v := (0)) dX10_adds_27 rfl ?_
  obtain ⟨s20, gs20, h⟩ := Option.bind_eq_some_iff.mp h
  refine ax_iast dX10_adds_28 gs20 ?_
  refine ax_aload_n (i := 0) dX10_adds_29 rfl rfl ?_
  obtain ⟨r21, gr21, h⟩ := Option.bind_eq_some_iff.mp h
  refine ax_getR (q := (RX10, TX10, 28)) (t := 7) (k := 0) dX10_adds_30 rfl (by decide) wd_761 rfl gr21 ?_
  refine ax_iload_n (i := 2) dX10_adds_33 rfl rfl ?_
  refine ax_iconst (v := (2)) dX10_adds_34 rfl ?_
  obtain ⟨q22, gq22, h⟩ := Option.bind_eq_some_iff.mp h
  refine ax_cS (As := [av_i x14, av_i (2)]) dX10_adds_35 (th_X10_at gq22) (And.intro wd_863 wd_60) wd_861 wd_862 cy_X10_at (by omega) (by decide) (Nat.le_of_ble_eq_true rfl) rfl ?_
  refine ax_bipush (v := (99)) dX10_adds_38 rfl ?_
  obtain ⟨s23, gs23, h⟩ := Option.bind_eq_some_iff.mp h
  refine ax_iast dX10_adds_40 gs23 ?_
  refine ax_iconst (v := (0)) dX10_adds_41 rfl ?_
  refine ax_istore_n (i := 3) (L2 := [some (av_r a0), some (av_i a1), some (av_i x14), some (av_i (0))]) dX10_adds_42 rfl (by decide) rfl rfl ?_
  exact ax_less (L' := [(some (av_r a0)), (some (av_i a1)), (some (av_i x14)), (some (av_i (0)))]) ⟨rfl, rfl, rfl, rfl, trivial⟩ (tb_X10_adds_43  _ _ _ _ _ _ h)
set_option maxRecDepth 100000 in
set_option maxHeartbeats 4000000 in
theorem th_X10_adds {q : Int32 × ax_S} {a0 : Option Nat} {a1 : Int32} {s : ax_S} (h : fn_X10_adds a0 a1 s = some q) : AC mm_X10_adds yX10_adds 1 0 0 [av_r a0, av_i a1] s (some (av_i q.1), q.2) := by
  exact ax_met (L0 := [some (av_r a0), some (av_i a1), none, none]) (by decide +kernel) rfl (fun h => absurd h (by decide)) ⟨rfl, rfl, trivial⟩ (Nat.le_of_ble_eq_true rfl) trivial (tw_X10_adds h)
/-! X10_in -/
abbrev mm_X10_in : ax_M := (RX10, cX10_in, (some .boolean), 3, false)
def fi_X10_in (a0 : Int32) (a1 : Int32) (a2 : Int32) (s : ax_S) : Option (Int32 × ax_S) :=
  if a0 < a1 then
    some ((0), s)
  else
    if a2 < a0 then
      some ((0), s)
    else
      some ((1), s)
set_option maxRecDepth 100000 in
set_option maxHeartbeats 4000000 in
theorem tw_X10_in {q : Int32 × ax_S} {a0 : Int32} {a1 : Int32} {a2 : Int32} {s : ax_S} (h : fi_X10_in a0 a1 a2 s = some q) : AW mm_X10_in 0 0 0 0 [some (av_i a0), some (av_i a1), some (av_i a2)] [] s (some (av_i q.1), q.2) := by
  unfold fi_X10_in at h
  refine ax_iload_n (i := 0) dX10_in_0 rfl rfl ?_
  refine ax_iload_n (i := 1) dX10_in_1 rfl rfl ?_
  refine ax_icmp_lt (tgt := 14) dX10_in_2 (by decide) (fun c1 => ?_) (fun c1 => ?_)
  · rw [if_pos c1] at h
    refine ax_iconst (v := (0)) dX10_in_14 rfl ?_
    exact ax_reti dX10_in_15 h
  · rw [if_neg c1] at h
    refine ax_iload_n (i := 0) dX10_in_5 rfl rfl ?_
    refine ax_iload_n (i := 2) dX10_in_6 rfl rfl ?_
    refine ax_icmp_gt (tgt := 14) dX10_in_7 (by decide) (fun c2 => ?_) (fun c2 => ?_)
    · rw [if_pos c2] at h
      refine ax_iconst (v := (0)) dX10_in_14 rfl ?_
      exact ax_reti dX10_in_15 h
    · rw [if_neg c2] at h
      refine ax_iconst (v := (1)) dX10_in_10 rfl ?_
      refine ax_goto (tgt := 15) dX10_in_11 (by decide) ?_
      exact ax_reti dX10_in_15 h
def fn_X10_in (a0 : Int32) (a1 : Int32) (a2 : Int32) (s : ax_S) : Option (Int32 × ax_S) := ax_bz (fi_X10_in a0 a1 a2 s)
set_option maxRecDepth 100000 in
set_option maxHeartbeats 4000000 in
theorem th_X10_in {q : Int32 × ax_S} {a0 : Int32} {a1 : Int32} {a2 : Int32} {s : ax_S} (h : fn_X10_in a0 a1 a2 s = some q) : AC mm_X10_in yX10_in 0 0 0 [av_i a0, av_i a1, av_i a2] s (some (av_i q.1), q.2) := by
  obtain ⟨h, hz⟩ := ax_bz_of h
  exact ax_met (L0 := [some (av_i a0), some (av_i a1), some (av_i a2)]) (by decide +kernel) rfl (fun h => absurd h (by decide)) ⟨rfl, rfl, rfl, trivial⟩ (Nat.le_of_ble_eq_true rfl) hz (tw_X10_in h)
/-! X10_addNode -/
abbrev mm_X10_addNode : ax_M := (RX10, cX10_addNode, (some .int), 2, false)
def fn_X10_addNode (a0 : Option Nat) (a1 : Int32) (s : ax_S) : Option (Int32 × ax_S) :=
  (fn_X10_in a1 (0) (6) s).bind fun q1 =>
  if q1.1 = 0 then
    some ((-1002), q1.2)
  else
    (ax_gr q1.2 7 0 a0).bind fun r3 =>
    (ax_al q1.2 9 r3 (0)).bind fun x4 =>
    if x4 = (12) then
      some ((-1004), q1.2)
    else
      (ax_sh q1.2 7 a0).bind fun w6 =>
      (fn_X10_adds a0 a1 q1.2).bind fun q7 =>
      some (q7.1, q7.2)
set_option maxRecDepth 100000 in
set_option maxHeartbeats 4000000 in
theorem tw_X10_addNode {q : Int32 × ax_S} {a0 : Option Nat} {a1 : Int32} {s : ax_S} (h : fn_X10_addNode a0 a1 s = some q) : AW mm_X10_addNode 2 0 0 0 [some (av_r a0), some (av_i a1)] [] s (some (av_i q.1), q.2) := by
  unfold fn_X10_addNode at h
  refine ax_iload_n (i := 1) dX10_addNode_0 rfl rfl ?_
  refine ax_iconst (v := (0)) dX10_addNode_1 rfl ?_
  refine ax_bipush (v := (6)) dX10_addNode_2 rfl ?_
  obtain ⟨q1, gq1, h⟩ := Option.bind_eq_some_iff.mp h
  refine ax_cS (As := [av_i a1, av_i (0), av_i (6)]) dX10_addNode_4 (th_X10_in gq1) (And.intro wd_856 wd_60) wd_854 wd_855 cy_X10_in (by omega) (by decide) (Nat.le_of_ble_eq_true rfl) rfl ?_
  refine ax_if_ne (tgt := 14) dX10_addNode_7 (by decide) (fun c2 => ?_) (fun c2 => ?_)
  · rw [if_neg c2] at h
    refine ax_aload_n (i := 0) dX10_addNode_14 rfl rfl ?_
    obtain ⟨r3, gr3, h⟩ := Option.bind_eq_some_iff.mp h
    refine ax_getR (q := (RX10, TX10, 28)) (t := 7) (k := 0) dX10_addNode_15 rfl (by decide) wd_761 rfl gr3 ?_
    refine ax_iconst (v := (0)) dX10_addNode_18 rfl ?_
    obtain ⟨x4, gx4, h⟩ := Option.bind_eq_some_iff.mp h
    refine ax_iald dX10_addNode_19 gx4 ?_
    refine ax_bipush (v := (12)) dX10_addNode_20 rfl ?_
    refine ax_icmp_ne (tgt := 31) dX10_addNode_22 (by decide) (fun c5 => ?_) (fun c5 => ?_)
    · rw [if_neg c5] at h
      refine ax_aload_n (i := 0) dX10_addNode_31 rfl rfl ?_
      refine ax_iload_n (i := 1) dX10_addNode_32 rfl rfl ?_
      obtain ⟨w6, gw6, h⟩ := Option.bind_eq_some_iff.mp h
      obtain ⟨q7, gq7, h⟩ := Option.bind_eq_some_iff.mp h
      refine ax_cV (As := [av_i a1]) (t := 7) dX10_addNode_33 gw6 (th_X10_adds gq7) rfl (And.intro wd_860 wd_60) wd_857 wd_859 wd_17 cy_X10_adds (by omega) (by decide) (Nat.le_of_ble_eq_true rfl) rfl ?_
      exact ax_reti dX10_addNode_36 h
    · rw [if_pos c5] at h
      refine ax_sipush (v := (-1004)) dX10_addNode_25 rfl ?_
      refine ax_goto (tgt := 36) dX10_addNode_28 (by decide) ?_
      exact ax_reti dX10_addNode_36 h
  · rw [if_pos c2] at h
    refine ax_sipush (v := (-1002)) dX10_addNode_10 rfl ?_
    exact ax_reti dX10_addNode_13 h
set_option maxRecDepth 100000 in
set_option maxHeartbeats 4000000 in
theorem th_X10_addNode {q : Int32 × ax_S} {a0 : Option Nat} {a1 : Int32} {s : ax_S} (h : fn_X10_addNode a0 a1 s = some q) : AC mm_X10_addNode yX10_addNode 2 0 0 [av_r a0, av_i a1] s (some (av_i q.1), q.2) := by
  exact ax_met (L0 := [some (av_r a0), some (av_i a1)]) (by decide +kernel) rfl (fun h => absurd h (by decide)) ⟨rfl, rfl, trivial⟩ (Nat.le_of_ble_eq_true rfl) trivial (tw_X10_addNode h)
/-! X10_append -/
abbrev mm_X10_append : ax_M := (RX10, cX10_append, (some .int), 2, false)
def fn_X10_append (a0 : Option Nat) (a1 : Int32) (s : ax_S) : Option (Int32 × ax_S) :=
  (fn_X10_in a1 (0) (127) s).bind fun q1 =>
  if q1.1 = 0 then
    some ((-1002), q1.2)
  else
    (ax_gi q1.2 7 12 a0).bind fun x3 =>
    if x3 = (80) then
      some ((-1004), q1.2)
    else
      (ax_gr q1.2 7 11 a0).bind fun r5 =>
      (ax_gi q1.2 7 12 a0).bind fun x6 =>
      (ax_as q1.2 9 r5 x6 a1).bind fun s7 =>
      (ax_gi s7 7 12 a0).bind fun x8 =>
      (ax_pi s7 7 12 a0 (x8 + (1))).bind fun s9 =>
      (ax_gi s9 7 12 a0).bind fun x10 =>
      some (x10, s9)
set_option maxRecDepth 100000 in
set_option maxHeartbeats 4000000 in
theorem tw_X10_append {q : Int32 × ax_S} {a0 : Option Nat} {a1 : Int32} {s : ax_S} (h : fn_X10_append a0 a1 s = some q) : AW mm_X10_append 1 0 0 0 [some (av_r a0), some (av_i a1)] [] s (some (av_i q.1), q.2) := by
  unfold fn_X10_append at h
  refine ax_iload_n (i := 1) dX10_append_0 rfl rfl ?_
  refine ax_iconst (v := (0)) dX10_append_1 rfl ?_
  refine ax_bipush (v := (127)) dX10_append_2 rfl ?_
  obtain ⟨q1, gq1, h⟩ := Option.bind_eq_some_iff.mp h
  refine ax_cS (As := [av_i a1, av_i (0), av_i (127)]) dX10_append_4 (th_X10_in gq1) (And.intro wd_856 wd_60) wd_854 wd_855 cy_X10_in (by omega) (by decide) (Nat.le_of_ble_eq_true rfl) rfl ?_
  refine ax_if_ne (tgt := 14) dX10_append_7 (by decide) (fun c2 => ?_) (fun c2 => ?_)
  · rw [if_neg c2] at h
    refine ax_aload_n (i := 0) dX10_append_14 rfl rfl ?_
    obtain ⟨x3, gx3, h⟩ := Option.bind_eq_some_iff.mp h
    refine ax_getI (q := (RX10, TX10, 28)) (t := 7) (k := 12) dX10_append_15 rfl (by decide) wd_773 rfl gx3 ?_
    refine ax_bipush (v := (80)) dX10_append_18 rfl ?_
    refine ax_icmp_ne (tgt := 27) dX10_append_20 (by decide) (fun c4 => ?_) (fun c4 => ?_)
    · rw [if_neg c4] at h
      refine ax_aload_n (i := 0) dX10_append_27 rfl rfl ?_
      obtain ⟨r5, gr5, h⟩ := Option.bind_eq_some_iff.mp h
      refine ax_getR (q := (RX10, TX10, 28)) (t := 7) (k := 11) dX10_append_28 rfl (by decide) wd_772 rfl gr5 ?_
      refine ax_aload_n (i := 0) dX10_append_31 rfl rfl ?_
      obtain ⟨x6, gx6, h⟩ := Option.bind_eq_some_iff.mp h
      refine ax_getI (q := (RX10, TX10, 28)) (t := 7) (k := 12) dX10_append_32 rfl (by decide) wd_773 rfl gx6 ?_
      refine ax_iload_n (i := 1) dX10_append_35 rfl rfl ?_
      obtain ⟨s7, gs7, h⟩ := Option.bind_eq_some_iff.mp h
      refine ax_iast dX10_append_36 gs7 ?_
      refine ax_aload_n (i := 0) dX10_append_37 rfl rfl ?_
      refine ax_dup dX10_append_38 trivial ?_
      obtain ⟨x8, gx8, h⟩ := Option.bind_eq_some_iff.mp h
      refine ax_getI (q := (RX10, TX10, 28)) (t := 7) (k := 12) dX10_append_39 rfl (by decide) wd_773 rfl gx8 ?_
      refine ax_iconst (v := (1)) dX10_append_42 rfl ?_
      refine ax_iadd dX10_append_43 ?_
      obtain ⟨s9, gs9, h⟩ := Option.bind_eq_some_iff.mp h
      refine ax_putI (q := (RX10, TX10, 28)) (t := 7) (k := 12) dX10_append_44 rfl (by decide) wd_773 rfl rfl ⟨rfl, rfl⟩ gs9 ?_
      refine ax_aload_n (i := 0) dX10_append_47 rfl rfl ?_
      obtain ⟨x10, gx10, h⟩ := Option.bind_eq_some_iff.mp h
      refine ax_getI (q := (RX10, TX10, 28)) (t := 7) (k := 12) dX10_append_48 rfl (by decide) wd_773 rfl gx10 ?_
      exact ax_reti dX10_append_51 h
    · rw [if_pos c4] at h
      refine ax_sipush (v := (-1004)) dX10_append_23 rfl ?_
      exact ax_reti dX10_append_26 h
  · rw [if_pos c2] at h
    refine ax_sipush (v := (-1002)) dX10_append_10 rfl ?_
    exact ax_reti dX10_append_13 h
set_option maxRecDepth 100000 in
set_option maxHeartbeats 4000000 in
theorem th_X10_append {q : Int32 × ax_S} {a0 : Option Nat} {a1 : Int32} {s : ax_S} (h : fn_X10_append a0 a1 s = some q) : AC mm_X10_append yX10_append 1 0 0 [av_r a0, av_i a1] s (some (av_i q.1), q.2) := by
  exact ax_met (L0 := [some (av_r a0), some (av_i a1)]) (by decide +kernel) rfl (fun h => absurd h (by decide)) ⟨rfl, rfl, trivial⟩ (Nat.le_of_ble_eq_true rfl) trivial (tw_X10_append h)
/-! X10_here -/
abbrev mm_X10_here : ax_M := (RX10, cX10_here, (some .int), 1, false)
def fn_X10_here (a0 : Option Nat) (s : ax_S) : Option (Int32 × ax_S) :=
  (ax_gi s 7 19 a0).bind fun x1 =>
  (ax_gi s 7 12 a0).bind fun x2 =>
  if x2 ≤ x1 then
    some ((-1), s)
  else
    (ax_gr s 7 11 a0).bind fun r4 =>
    (ax_gi s 7 19 a0).bind fun x5 =>
    (ax_al s 9 r4 x5).bind fun x6 =>
    some (x6, s)
set_option maxRecDepth 100000 in
set_option maxHeartbeats 4000000 in
theorem tw_X10_here {q : Int32 × ax_S} {a0 : Option Nat} {s : ax_S} (h : fn_X10_here a0 s = some q) : AW mm_X10_here 0 0 0 0 [some (av_r a0)] [] s (some (av_i q.1), q.2) := by
  unfold fn_X10_here at h
  refine ax_aload_n (i := 0) dX10_here_0 rfl rfl ?_
  obtain ⟨x1, gx1, h⟩ := Option.bind_eq_some_iff.mp h
  refine ax_getI (q := (RX10, TX10, 28)) (t := 7) (k := 19) dX10_here_1 rfl (by decide) wd_780 rfl gx1 ?_
  refine ax_aload_n (i := 0) dX10_here_4 rfl rfl ?_
  obtain ⟨x2, gx2, h⟩ := Option.bind_eq_some_iff.mp h
  refine ax_getI (q := (RX10, TX10, 28)) (t := 7) (k := 12) dX10_here_5 rfl (by decide) wd_773 rfl gx2 ?_
  refine ax_icmp_ge (tgt := 23) dX10_here_8 (by decide) (fun c3 => ?_) (fun c3 => ?_)
  · rw [if_pos c3] at h
    refine ax_iconst (v := (-1)) dX10_here_23 rfl ?_
    exact ax_reti dX10_here_24 h
  · rw [if_neg c3] at h
    refine ax_aload_n (i := 0) dX10_here_11 rfl rfl ?_
    obtain ⟨r4, gr4, h⟩ := Option.bind_eq_some_iff.mp h
    refine ax_getR (q := (RX10, TX10, 28)) (t := 7) (k := 11) dX10_here_12 rfl (by decide) wd_772 rfl gr4 ?_
    refine ax_aload_n (i := 0) dX10_here_15 rfl rfl ?_
    obtain ⟨x5, gx5, h⟩ := Option.bind_eq_some_iff.mp h
    refine ax_getI (q := (RX10, TX10, 28)) (t := 7) (k := 19) dX10_here_16 rfl (by decide) wd_780 rfl gx5 ?_
    obtain ⟨x6, gx6, h⟩ := Option.bind_eq_some_iff.mp h
    refine ax_iald dX10_here_19 gx6 ?_
    refine ax_goto (tgt := 24) dX10_here_20 (by decide) ?_
    exact ax_reti dX10_here_24 h
set_option maxRecDepth 100000 in
set_option maxHeartbeats 4000000 in
theorem th_X10_here {q : Int32 × ax_S} {a0 : Option Nat} {s : ax_S} (h : fn_X10_here a0 s = some q) : AC mm_X10_here yX10_here 0 0 0 [av_r a0] s (some (av_i q.1), q.2) := by
  exact ax_met (L0 := [some (av_r a0)]) (by decide +kernel) rfl (fun h => absurd h (by decide)) ⟨rfl, trivial⟩ (Nat.le_of_ble_eq_true rfl) trivial (tw_X10_here h)
/-! X10_kindHere -/
abbrev mm_X10_kindHere : ax_M := (RX10, cX10_kindHere, (some .int), 1, false)
def fn_X10_kindHere (a0 : Option Nat) (s : ax_S) : Option (Int32 × ax_S) :=
  (ax_sh s 7 a0).bind fun w1 =>
  (fn_X10_here a0 s).bind fun q2 =>
  if q2.1 = 98 then
    some ((6), q2.2)
  else
  if q2.1 = 103 then
    some ((1), q2.2)
  else
  if q2.1 = 105 then
    some ((3), q2.2)
  else
  if q2.1 = 107 then
    some ((5), q2.2)
  else
  if q2.1 = 108 then
    some ((4), q2.2)
  else
  if q2.1 = 110 then
    some ((7), q2.2)
  else
  if q2.1 = 115 then
    some ((0), q2.2)
  else
  if q2.1 = 116 then
    some ((2), q2.2)
  else
  some ((-1), q2.2)
set_option maxRecDepth 100000 in
set_option maxHeartbeats 4000000 in
theorem tw_X10_kindHere {q : Int32 × ax_S} {a0 : Option Nat} {s : ax_S} (h : fn_X10_kindHere a0 s = some q) : AW mm_X10_kindHere 1 0 0 0 [some (av_r a0)] [] s (some (av_i q.1), q.2) := by
  unfold fn_X10_kindHere at h
  refine ax_aload_n (i := 0) dX10_kindHere_0 rfl rfl ?_
  obtain ⟨w1, gw1, h⟩ := Option.bind_eq_some_iff.mp h
  obtain ⟨q2, gq2, h⟩ := Option.bind_eq_some_iff.mp h
  refine ax_cV (As := []) (t := 7) dX10_kindHere_1 gw1 (th_X10_here gq2) rfl (And.intro wd_1065 wd_60) wd_1062 wd_1064 wd_46 cy_X10_here (by omega) (by decide) (Nat.le_of_ble_eq_true rfl) rfl ?_
  by_cases c3 : q2.1 = 98
  · rw [if_pos c3] at h
    refine ax_swC (c := 98) (off := 104) (tgt := 108) dX10_kindHere_4 c3 (by decide) (by decide) (by decide) rfl (by decide) ?_
    refine ax_bipush (v := (6)) dX10_kindHere_108 rfl ?_
    exact ax_reti dX10_kindHere_110 h
  rw [if_neg c3] at h
  by_cases c4 : q2.1 = 103
  · rw [if_pos c4] at h
    refine ax_swC (c := 103) (off := 94) (tgt := 98) dX10_kindHere_4 c4 (by decide) (by decide) (by decide) rfl (by decide) ?_
    refine ax_iconst (v := (1)) dX10_kindHere_98 rfl ?_
    exact ax_reti dX10_kindHere_99 h
  rw [if_neg c4] at h
  by_cases c5 : q2.1 = 105
  · rw [if_pos c5] at h
    refine ax_swC (c := 105) (off := 98) (tgt := 102) dX10_kindHere_4 c5 (by decide) (by decide) (by decide) rfl (by decide) ?_
    refine ax_iconst (v := (3)) dX10_kindHere_102 rfl ?_
    exact ax_reti dX10_kindHere_103 h
  rw [if_neg c5] at h
  by_cases c6 : q2.1 = 107
  · rw [if_pos c6] at h
    refine ax_swC (c := 107) (off := 102) (tgt := 106) dX10_kindHere_4 c6 (by decide) (by decide) (by decide) rfl (by decide) ?_
    refine ax_iconst (v := (5)) dX10_kindHere_106 rfl ?_
    exact ax_reti dX10_kindHere_107 h
  rw [if_neg c6] at h
  by_cases c7 : q2.1 = 108
  · rw [if_pos c7] at h
    refine ax_swC (c := 108) (off := 100) (tgt := 104) dX10_kindHere_4 c7 (by decide) (by decide) (by decide) rfl (by decide) ?_
    refine ax_iconst (v := (4)) dX10_kindHere_104 rfl ?_
    exact ax_reti dX10_kindHere_105 h
  rw [if_neg c7] at h
  by_cases c8 : q2.1 = 110
  · rw [if_pos c8] at h
    refine ax_swC (c := 110) (off := 107) (tgt := 111) dX10_kindHere_4 c8 (by decide) (by decide) (by decide) rfl (by decide) ?_
    refine ax_bipush (v := (7)) dX10_kindHere_111 rfl ?_
    exact ax_reti dX10_kindHere_113 h
  rw [if_neg c8] at h
  by_cases c9 : q2.1 = 115
  · rw [if_pos c9] at h
    refine ax_swC (c := 115) (off := 92) (tgt := 96) dX10_kindHere_4 c9 (by decide) (by decide) (by decide) rfl (by decide) ?_
    refine ax_iconst (v := (0)) dX10_kindHere_96 rfl ?_
    exact ax_reti dX10_kindHere_97 h
  rw [if_neg c9] at h
  by_cases c10 : q2.1 = 116
  · rw [if_pos c10] at h
    refine ax_swC (c := 116) (off := 96) (tgt := 100) dX10_kindHere_4 c10 (by decide) (by decide) (by decide) rfl (by decide) ?_
    refine ax_iconst (v := (2)) dX10_kindHere_100 rfl ?_
    exact ax_reti dX10_kindHere_101 h
  rw [if_neg c10] at h
  refine ax_swD (tgt := 114) dX10_kindHere_4 (fun c hc1 hc2 => ?_) (by decide) ?_
  · have hcc : c = 98 ∨ c = 99 ∨ c = 100 ∨ c = 101 ∨ c = 102 ∨ c = 103 ∨ c = 104 ∨ c = 105 ∨ c = 106 ∨ c = 107 ∨ c = 108 ∨ c = 109 ∨ c = 110 ∨ c = 111 ∨ c = 112 ∨ c = 113 ∨ c = 114 ∨ c = 115 ∨ c = 116 := by omega
    rcases hcc with rfl | rfl | rfl | rfl | rfl | rfl | rfl | rfl | rfl | rfl | rfl | rfl | rfl | rfl | rfl | rfl | rfl | rfl | rfl
    · exact Or.inr (fun e => c3 (e.trans (by decide)))
    · exact Or.inl rfl
    · exact Or.inl rfl
    · exact Or.inl rfl
    · exact Or.inl rfl
    · exact Or.inr (fun e => c4 (e.trans (by decide)))
    · exact Or.inl rfl
    · exact Or.inr (fun e => c5 (e.trans (by decide)))
    · exact Or.inl rfl
    · exact Or.inr (fun e => c6 (e.trans (by decide)))
    · exact Or.inr (fun e => c7 (e.trans (by decide)))
    · exact Or.inl rfl
    · exact Or.inr (fun e => c8 (e.trans (by decide)))
    · exact Or.inl rfl
    · exact Or.inl rfl
    · exact Or.inl rfl
    · exact Or.inl rfl
    · exact Or.inr (fun e => c9 (e.trans (by decide)))
    · exact Or.inr (fun e => c10 (e.trans (by decide)))
  refine ax_iconst (v := (-1)) dX10_kindHere_114 rfl ?_
  exact ax_reti dX10_kindHere_115 h
set_option maxRecDepth 100000 in
set_option maxHeartbeats 4000000 in
theorem th_X10_kindHere {q : Int32 × ax_S} {a0 : Option Nat} {s : ax_S} (h : fn_X10_kindHere a0 s = some q) : AC mm_X10_kindHere yX10_kindHere 1 0 0 [av_r a0] s (some (av_i q.1), q.2) := by
  exact ax_met (L0 := [some (av_r a0)]) (by decide +kernel) rfl (fun h => absurd h (by decide)) ⟨rfl, trivial⟩ (Nat.le_of_ble_eq_true rfl) trivial (tw_X10_kindHere h)
/-! X10_takes -/
abbrev mm_X10_takes : ax_M := (RX10, cX10_takes, (some .boolean), 3, false)
def fb_X10_takes_13 (a0 : Option Nat) (b0 : Int32) (s : ax_S) : Option (Int32 × ax_S) :=
  (ax_gi s 7 19 a0).bind fun x1 =>
  if b0 = 0 then
    (ax_pi s 7 19 a0 (x1 + (0))).bind fun s3 =>
    some (b0, s3)
  else
    (ax_pi s 7 19 a0 (x1 + (1))).bind fun s4 =>
    some (b0, s4)
set_option maxRecDepth 100000 in
set_option maxHeartbeats 4000000 in
theorem tb_X10_takes_13 {q : Int32 × ax_S} {a0 : Option Nat} {b0 : Int32} {s : ax_S} (h : fb_X10_takes_13 a0 b0 s = some q) : AW mm_X10_takes 1 0 0 13 [(some (av_r a0)), none, none] [av_i b0] s (some (av_i q.1), q.2) := by
  unfold fb_X10_takes_13 at h
  refine ax_istore_n (i := 2) (L2 := [some (av_r a0), none, some (av_i b0)]) dX10_takes_13 rfl (by decide) rfl rfl ?_
  refine ax_aload_n (i := 0) dX10_takes_14 rfl rfl ?_
  refine ax_dup dX10_takes_15 trivial ?_
  obtain ⟨x1, gx1, h⟩ := Option.bind_eq_some_iff.mp h
  refine ax_getI (q := (RX10, TX10, 28)) (t := 7) (k := 19) dX10_takes_16 rfl (by decide) wd_780 rfl gx1 ?_
  refine ax_iload_n (i := 2) dX10_takes_19 rfl rfl ?_
  refine ax_if_eq (tgt := 27) dX10_takes_20 (by decide) (fun c2 => ?_) (fun c2 => ?_)
  · rw [if_pos c2] at h
    refine ax_iconst (v := (0)) dX10_takes_27 rfl ?_
    refine ax_iadd dX10_takes_28 ?_
    obtain ⟨s3, gs3, h⟩ := Option.bind_eq_some_iff.mp h
    refine ax_putI (q := (RX10, TX10, 28)) (t := 7) (k := 19) dX10_takes_29 rfl (by decide) wd_780 rfl rfl ⟨rfl, rfl⟩ gs3 ?_
    refine ax_iload_n (i := 2) dX10_takes_32 rfl rfl ?_
    exact ax_reti dX10_takes_33 h
  · rw [if_neg c2] at h
    refine ax_iconst (v := (1)) dX10_takes_23 rfl ?_
    refine ax_goto (tgt := 28) dX10_takes_24 (by decide) ?_
    refine ax_iadd dX10_takes_28 ?_
    obtain ⟨s4, gs4, h⟩ := Option.bind_eq_some_iff.mp h
    refine ax_putI (q := (RX10, TX10, 28)) (t := 7) (k := 19) dX10_takes_29 rfl (by decide) wd_780 rfl rfl ⟨rfl, rfl⟩ gs4 ?_
    refine ax_iload_n (i := 2) dX10_takes_32 rfl rfl ?_
    exact ax_reti dX10_takes_33 h
def fi_X10_takes (a0 : Option Nat) (a1 : Int32) (s : ax_S) : Option (Int32 × ax_S) :=
  (ax_sh s 7 a0).bind fun w5 =>
  (fn_X10_here a0 s).bind fun q6 =>
  if q6.1 = a1 then
    fb_X10_takes_13 a0 (1) q6.2
  else
    fb_X10_takes_13 a0 (0) q6.2
set_option maxRecDepth 100000 in
set_option maxHeartbeats 4000000 in
theorem tw_X10_takes {q : Int32 × ax_S} {a0 : Option Nat} {a1 : Int32} {s : ax_S} (h : fi_X10_takes a0 a1 s = some q) : AW mm_X10_takes 1 0 0 0 [some (av_r a0), some (av_i a1), none] [] s (some (av_i q.1), q.2) := by
  unfold fi_X10_takes at h
  refine ax_aload_n (i := 0) dX10_takes_0 rfl rfl ?_
  obtain ⟨w5, gw5, h⟩ := Option.bind_eq_some_iff.mp h
  obtain ⟨q6, gq6, h⟩ := Option.bind_eq_some_iff.mp h
  refine ax_cV (As := []) (t := 7) dX10_takes_1 gw5 (th_X10_here gq6) rfl (And.intro wd_1065 wd_60) wd_1062 wd_1064 wd_46 cy_X10_here (by omega) (by decide) (Nat.le_of_ble_eq_true rfl) rfl ?_
  refine ax_iload_n (i := 1) dX10_takes_4 rfl rfl ?_
  refine ax_icmp_ne (tgt := 12) dX10_takes_5 (by decide) (fun c7 => ?_) (fun c7 => ?_)
  · rw [if_neg c7] at h
    refine ax_iconst (v := (0)) dX10_takes_12 rfl ?_
    exact ax_less (L' := [(some (av_r a0)), none, none]) ⟨rfl, trivial⟩ (tb_X10_takes_13  h)
  · rw [if_pos c7] at h
    refine ax_iconst (v := (1)) dX10_takes_8 rfl ?_
    refine ax_goto (tgt := 13) dX10_takes_9 (by decide) ?_
    exact ax_less (L' := [(some (av_r a0)), none, none]) ⟨rfl, trivial⟩ (tb_X10_takes_13  h)
def fn_X10_takes (a0 : Option Nat) (a1 : Int32) (s : ax_S) : Option (Int32 × ax_S) := ax_bz (fi_X10_takes a0 a1 s)
set_option maxRecDepth 100000 in
set_option maxHeartbeats 4000000 in
theorem th_X10_takes {q : Int32 × ax_S} {a0 : Option Nat} {a1 : Int32} {s : ax_S} (h : fn_X10_takes a0 a1 s = some q) : AC mm_X10_takes yX10_takes 1 0 0 [av_r a0, av_i a1] s (some (av_i q.1), q.2) := by
  obtain ⟨h, hz⟩ := ax_bz_of h
  exact ax_met (L0 := [some (av_r a0), some (av_i a1), none]) (by decide +kernel) rfl (fun h => absurd h (by decide)) ⟨rfl, rfl, trivial⟩ (Nat.le_of_ble_eq_true rfl) hz (tw_X10_takes h)
/-! X10_begins -/
abbrev mm_X10_begins : ax_M := (RX10, cX10_begins, (some .boolean), 2, false)
def fi_X10_begins (a0 : Option Nat) (s : ax_S) : Option (Int32 × ax_S) :=
  (ax_sh s 7 a0).bind fun w1 =>
  (fn_X10_kindHere a0 s).bind fun q2 =>
  if q2.1 < 0 then
    some ((0), q2.2)
  else
    (ax_gi q2.2 7 20 a0).bind fun x4 =>
    if x4 = (6) then
      some ((0), q2.2)
    else
      (ax_gi q2.2 7 19 a0).bind fun x6 =>
      (ax_pi q2.2 7 19 a0 (x6 + (1))).bind fun s7 =>
      (ax_sh s7 7 a0).bind fun w8 =>
      (fn_X10_takes a0 (40) s7).bind fun q9 =>
      if q9.1 = 0 then
        some ((0), q9.2)
      else
        (ax_gr q9.2 7 22 a0).bind fun r11 =>
        (ax_gi q9.2 7 20 a0).bind fun x12 =>
        (ax_as q9.2 9 r11 x12 q2.1).bind fun s13 =>
        (ax_gr s13 7 23 a0).bind fun r14 =>
        (ax_gi s13 7 20 a0).bind fun x15 =>
        (ax_as s13 9 r14 x15 (0)).bind fun s16 =>
        (ax_gi s16 7 20 a0).bind fun x17 =>
        (ax_pi s16 7 20 a0 (x17 + (1))).bind fun s18 =>
        some ((1), s18)
set_option maxRecDepth 100000 in
set_option maxHeartbeats 4000000 in
theorem tw_X10_begins {q : Int32 × ax_S} {a0 : Option Nat} {s : ax_S} (h : fi_X10_begins a0 s = some q) : AW mm_X10_begins 2 0 0 0 [some (av_r a0), none] [] s (some (av_i q.1), q.2) := by
  unfold fi_X10_begins at h
  refine ax_aload_n (i := 0) dX10_begins_0 rfl rfl ?_
  obtain ⟨w1, gw1, h⟩ := Option.bind_eq_some_iff.mp h
  obtain ⟨q2, gq2, h⟩ := Option.bind_eq_some_iff.mp h
  refine ax_cV (As := []) (t := 7) dX10_begins_1 gw1 (th_X10_kindHere gq2) rfl (And.intro wd_1061 wd_60) wd_1058 wd_1060 wd_45 cy_X10_kindHere (by omega) (by decide) (Nat.le_of_ble_eq_true rfl) rfl ?_
  refine ax_istore_n (i := 1) (L2 := [some (av_r a0), some (av_i q2.1)]) dX10_begins_4 rfl (by decide) rfl rfl ?_
  refine ax_iload_n (i := 1) dX10_begins_5 rfl rfl ?_
  refine ax_if_lt (tgt := 18) dX10_begins_6 (by decide) (fun c3 => ?_) (fun c3 => ?_)
  · rw [if_pos c3] at h
    refine ax_iconst (v := (0)) dX10_begins_18 rfl ?_
    exact ax_reti dX10_begins_19 h
  · rw [if_neg c3] at h
    refine ax_aload_n (i := 0) dX10_begins_9 rfl rfl ?_
    obtain ⟨x4, gx4, h⟩ := Option.bind_eq_some_iff.mp h
    refine ax_getI (q := (RX10, TX10, 28)) (t := 7) (k := 20) dX10_begins_10 rfl (by decide) wd_781 rfl gx4 ?_
    refine ax_bipush (v := (6)) dX10_begins_13 rfl ?_
    refine ax_icmp_ne (tgt := 20) dX10_begins_15 (by decide) (fun c5 => ?_) (fun c5 => ?_)
    · rw [if_neg c5] at h
      refine ax_aload_n (i := 0) dX10_begins_20 rfl rfl ?_
      refine ax_dup dX10_begins_21 trivial ?_
      obtain ⟨x6, gx6, h⟩ := Option.bind_eq_some_iff.mp h
      refine ax_getI (q := (RX10, TX10, 28)) (t := 7) (k := 19) dX10_begins_22 rfl (by decide) wd_780 rfl gx6 ?_
      refine ax_iconst (v := (1)) dX10_begins_25 rfl ?_
      refine ax_iadd dX10_begins_26 ?_
      obtain ⟨s7, gs7, h⟩ := Option.bind_eq_some_iff.mp h
      refine ax_putI (q := (RX10, TX10, 28)) (t := 7) (k := 19) dX10_begins_27 rfl (by decide) wd_780 rfl rfl ⟨rfl, rfl⟩ gs7 ?_
      refine ax_aload_n (i := 0) dX10_begins_30 rfl rfl ?_
      refine ax_bipush (v := (40)) dX10_begins_31 rfl ?_
      obtain ⟨w8, gw8, h⟩ := Option.bind_eq_some_iff.mp h
      obtain ⟨q9, gq9, h⟩ := Option.bind_eq_some_iff.mp h
      refine ax_cV (As := [av_i (40)]) (t := 7) dX10_begins_33 gw8 (th_X10_takes gq9) rfl (And.intro wd_1069 wd_60) wd_1066 wd_1068 wd_47 cy_X10_takes (by omega) (by decide) (Nat.le_of_ble_eq_true rfl) rfl ?_
      refine ax_if_ne (tgt := 41) dX10_begins_36 (by decide) (fun c10 => ?_) (fun c10 => ?_)
      · rw [if_neg c10] at h
        refine ax_aload_n (i := 0) dX10_begins_41 rfl rfl ?_
        obtain ⟨r11, gr11, h⟩ := Option.bind_eq_some_iff.mp h
        refine ax_getR (q := (RX10, TX10, 28)) (t := 7) (k := 22) dX10_begins_42 rfl (by decide) wd_783 rfl gr11 ?_
        refine ax_aload_n (i := 0) dX10_begins_45 rfl rfl ?_
        obtain ⟨x12, gx12, h⟩ := Option.bind_eq_some_iff.mp h
        refine ax_getI (q := (RX10, TX10, 28)) (t := 7) (k := 20) dX10_begins_46 rfl (by decide) wd_781 rfl gx12 ?_
        refine ax_iload_n (i := 1) dX10_begins_49 rfl rfl ?_
        obtain ⟨s13, gs13, h⟩ := Option.bind_eq_some_iff.mp h
        refine ax_iast dX10_begins_50 gs13 ?_
        refine ax_aload_n (i := 0) dX10_begins_51 rfl rfl ?_
        obtain ⟨r14, gr14, h⟩ := Option.bind_eq_some_iff.mp h
        refine ax_getR (q := (RX10, TX10, 28)) (t := 7) (k := 23) dX10_begins_52 rfl (by decide) wd_784 rfl gr14 ?_
        refine ax_aload_n (i := 0) dX10_begins_55 rfl rfl ?_
        obtain ⟨x15, gx15, h⟩ := Option.bind_eq_some_iff.mp h
        refine ax_getI (q := (RX10, TX10, 28)) (t := 7) (k := 20) dX10_begins_56 rfl (by decide) wd_781 rfl gx15 ?_
        refine ax_iconst (v := (0)) dX10_begins_59 rfl ?_
        obtain ⟨s16, gs16, h⟩ := Option.bind_eq_some_iff.mp h
        refine ax_iast dX10_begins_60 gs16 ?_
        refine ax_aload_n (i := 0) dX10_begins_61 rfl rfl ?_
        refine ax_dup dX10_begins_62 trivial ?_
        obtain ⟨x17, gx17, h⟩ := Option.bind_eq_some_iff.mp h
        refine ax_getI (q := (RX10, TX10, 28)) (t := 7) (k := 20) dX10_begins_63 rfl (by decide) wd_781 rfl gx17 ?_
        refine ax_iconst (v := (1)) dX10_begins_66 rfl ?_
        refine ax_iadd dX10_begins_67 ?_
        obtain ⟨s18, gs18, h⟩ := Option.bind_eq_some_iff.mp h
        refine ax_putI (q := (RX10, TX10, 28)) (t := 7) (k := 20) dX10_begins_68 rfl (by decide) wd_781 rfl rfl ⟨rfl, rfl⟩ gs18 ?_
        refine ax_iconst (v := (1)) dX10_begins_71 rfl ?_
        exact ax_reti dX10_begins_72 h
      · rw [if_pos c10] at h
        refine ax_iconst (v := (0)) dX10_begins_39 rfl ?_
        exact ax_reti dX10_begins_40 h
    · rw [if_pos c5] at h
      refine ax_iconst (v := (0)) dX10_begins_18 rfl ?_
      exact ax_reti dX10_begins_19 h
def fn_X10_begins (a0 : Option Nat) (s : ax_S) : Option (Int32 × ax_S) := ax_bz (fi_X10_begins a0 s)
set_option maxRecDepth 100000 in
set_option maxHeartbeats 4000000 in
theorem th_X10_begins {q : Int32 × ax_S} {a0 : Option Nat} {s : ax_S} (h : fn_X10_begins a0 s = some q) : AC mm_X10_begins yX10_begins 2 0 0 [av_r a0] s (some (av_i q.1), q.2) := by
  obtain ⟨h, hz⟩ := ax_bz_of h
  exact ax_met (L0 := [some (av_r a0), none]) (by decide +kernel) rfl (fun h => absurd h (by decide)) ⟨rfl, trivial⟩ (Nat.le_of_ble_eq_true rfl) hz (tw_X10_begins h)
/-! X10_high -/
abbrev mm_X10_high : ax_M := (RX10, cX10_high, (some .int), 2, false)
def fn_X10_high (a0 : Int32) (a1 : Int32) (s : ax_S) : Option (Int32 × ax_S) :=
  if a0 = 0 then
    some ((999), s)
  else
  if a0 = 1 then
    some ((64), s)
  else
  if a0 = 4 then
    some ((3), s)
  else
  if a0 = 5 then
    if a1 = 0 then
      some ((2), s)
    else
      if a1 = (3) then
        some ((99), s)
      else
        some ((255), s)
  else
  some ((255), s)
set_option maxRecDepth 100000 in
set_option maxHeartbeats 4000000 in
theorem tw_X10_high {q : Int32 × ax_S} {a0 : Int32} {a1 : Int32} {s : ax_S} (h : fn_X10_high a0 a1 s = some q) : AW mm_X10_high 0 0 0 0 [some (av_i a0), some (av_i a1)] [] s (some (av_i q.1), q.2) := by
  unfold fn_X10_high at h
  refine ax_iload_n (i := 0) dX10_high_0 rfl rfl ?_
  by_cases c1 : a0 = 0
  · rw [if_pos c1] at h
    refine ax_swC (c := 0) (off := 39) (tgt := 40) dX10_high_1 c1 (by decide) (by decide) (by decide) rfl (by decide) ?_
    refine ax_sipush (v := (999)) dX10_high_40 rfl ?_
    exact ax_reti dX10_high_43 h
  rw [if_neg c1] at h
  by_cases c2 : a0 = 1
  · rw [if_pos c2] at h
    refine ax_swC (c := 1) (off := 43) (tgt := 44) dX10_high_1 c2 (by decide) (by decide) (by decide) rfl (by decide) ?_
    refine ax_bipush (v := (64)) dX10_high_44 rfl ?_
    exact ax_reti dX10_high_46 h
  rw [if_neg c2] at h
  by_cases c3 : a0 = 4
  · rw [if_pos c3] at h
    refine ax_swC (c := 4) (off := 46) (tgt := 47) dX10_high_1 c3 (by decide) (by decide) (by decide) rfl (by decide) ?_
    refine ax_iconst (v := (3)) dX10_high_47 rfl ?_
    exact ax_reti dX10_high_48 h
  rw [if_neg c3] at h
  by_cases c4 : a0 = 5
  · rw [if_pos c4] at h
    refine ax_swC (c := 5) (off := 48) (tgt := 49) dX10_high_1 c4 (by decide) (by decide) (by decide) rfl (by decide) ?_
    refine ax_iload_n (i := 1) dX10_high_49 rfl rfl ?_
    refine ax_if_ne (tgt := 57) dX10_high_50 (by decide) (fun c5 => ?_) (fun c5 => ?_)
    · rw [if_neg c5] at h
      refine ax_iload_n (i := 1) dX10_high_57 rfl rfl ?_
      refine ax_iconst (v := (3)) dX10_high_58 rfl ?_
      refine ax_icmp_ne (tgt := 67) dX10_high_59 (by decide) (fun c6 => ?_) (fun c6 => ?_)
      · rw [if_neg c6] at h
        refine ax_sipush (v := (255)) dX10_high_67 rfl ?_
        exact ax_reti dX10_high_70 h
      · rw [if_pos c6] at h
        refine ax_bipush (v := (99)) dX10_high_62 rfl ?_
        refine ax_goto (tgt := 70) dX10_high_64 (by decide) ?_
        exact ax_reti dX10_high_70 h
    · rw [if_pos c5] at h
      refine ax_iconst (v := (2)) dX10_high_53 rfl ?_
      refine ax_goto (tgt := 70) dX10_high_54 (by decide) ?_
      exact ax_reti dX10_high_70 h
  rw [if_neg c4] at h
  refine ax_swD (tgt := 71) dX10_high_1 (fun c hc1 hc2 => ?_) (by decide) ?_
  · have hcc : c = 0 ∨ c = 1 ∨ c = 2 ∨ c = 3 ∨ c = 4 ∨ c = 5 := by omega
    rcases hcc with rfl | rfl | rfl | rfl | rfl | rfl
    · exact Or.inr (fun e => c1 (e.trans (by decide)))
    · exact Or.inr (fun e => c2 (e.trans (by decide)))
    · exact Or.inl rfl
    · exact Or.inl rfl
    · exact Or.inr (fun e => c3 (e.trans (by decide)))
    · exact Or.inr (fun e => c4 (e.trans (by decide)))
  refine ax_sipush (v := (255)) dX10_high_71 rfl ?_
  exact ax_reti dX10_high_74 h
set_option maxRecDepth 100000 in
set_option maxHeartbeats 4000000 in
theorem th_X10_high {q : Int32 × ax_S} {a0 : Int32} {a1 : Int32} {s : ax_S} (h : fn_X10_high a0 a1 s = some q) : AC mm_X10_high yX10_high 0 0 0 [av_i a0, av_i a1] s (some (av_i q.1), q.2) := by
  exact ax_met (L0 := [some (av_i a0), some (av_i a1)]) (by decide +kernel) rfl (fun h => absurd h (by decide)) ⟨rfl, rfl, trivial⟩ (Nat.le_of_ble_eq_true rfl) trivial (tw_X10_high h)
/-! X10_isDigit -/
abbrev mm_X10_isDigit : ax_M := (RX10, cX10_isDigit, (some .boolean), 1, false)
def fi_X10_isDigit (a0 : Option Nat) (s : ax_S) : Option (Int32 × ax_S) :=
  (ax_sh s 7 a0).bind fun w1 =>
  (fn_X10_here a0 s).bind fun q2 =>
  (fn_X10_in q2.1 (48) (57) q2.2).bind fun q3 =>
  some (q3.1, q3.2)
set_option maxRecDepth 100000 in
set_option maxHeartbeats 4000000 in
theorem tw_X10_isDigit {q : Int32 × ax_S} {a0 : Option Nat} {s : ax_S} (h : fi_X10_isDigit a0 s = some q) : AW mm_X10_isDigit 1 0 0 0 [some (av_r a0)] [] s (some (av_i q.1), q.2) := by
  unfold fi_X10_isDigit at h
  refine ax_aload_n (i := 0) dX10_isDigit_0 rfl rfl ?_
  obtain ⟨w1, gw1, h⟩ := Option.bind_eq_some_iff.mp h
  obtain ⟨q2, gq2, h⟩ := Option.bind_eq_some_iff.mp h
  refine ax_cV (As := []) (t := 7) dX10_isDigit_1 gw1 (th_X10_here gq2) rfl (And.intro wd_1065 wd_60) wd_1062 wd_1064 wd_46 cy_X10_here (by omega) (by decide) (Nat.le_of_ble_eq_true rfl) rfl ?_
  refine ax_bipush (v := (48)) dX10_isDigit_4 rfl ?_
  refine ax_bipush (v := (57)) dX10_isDigit_6 rfl ?_
  obtain ⟨q3, gq3, h⟩ := Option.bind_eq_some_iff.mp h
  refine ax_cS (As := [av_i q2.1, av_i (48), av_i (57)]) dX10_isDigit_8 (th_X10_in gq3) (And.intro wd_856 wd_60) wd_854 wd_855 cy_X10_in (by omega) (by decide) (Nat.le_of_ble_eq_true rfl) rfl ?_
  exact ax_reti dX10_isDigit_11 h
def fn_X10_isDigit (a0 : Option Nat) (s : ax_S) : Option (Int32 × ax_S) := ax_bz (fi_X10_isDigit a0 s)
set_option maxRecDepth 100000 in
set_option maxHeartbeats 4000000 in
theorem th_X10_isDigit {q : Int32 × ax_S} {a0 : Option Nat} {s : ax_S} (h : fn_X10_isDigit a0 s = some q) : AC mm_X10_isDigit yX10_isDigit 1 0 0 [av_r a0] s (some (av_i q.1), q.2) := by
  obtain ⟨h, hz⟩ := ax_bz_of h
  exact ax_met (L0 := [some (av_r a0)]) (by decide +kernel) rfl (fun h => absurd h (by decide)) ⟨rfl, trivial⟩ (Nat.le_of_ble_eq_true rfl) hz (tw_X10_isDigit h)
/-! X10_number -/
abbrev mm_X10_number : ax_M := (RX10, cX10_number, (some .boolean), 6, false)
def fb_X10_number_103 (a0 : Option Nat) (a1 : Int32) (a2 : Int32) (a3 : Int32) (s : ax_S) : Option (Int32 × ax_S) :=
  (ax_gi s 7 21 a0).bind fun x1 =>
  (fn_X10_in x1 a1 a2 s).bind fun q2 =>
  if q2.1 = 0 then
    (ax_pi q2.2 7 19 a0 a3).bind fun s4 =>
    some (q2.1, s4)
  else
    (ax_gi q2.2 7 19 a0).bind fun x5 =>
    (ax_pi q2.2 7 19 a0 x5).bind fun s6 =>
    some (q2.1, s6)
set_option maxRecDepth 100000 in
set_option maxHeartbeats 4000000 in
theorem tb_X10_number_103 {q : Int32 × ax_S} {a0 : Option Nat} {a1 : Int32} {a2 : Int32} {a3 : Int32} {s : ax_S} (h : fb_X10_number_103 a0 a1 a2 a3 s = some q) : AW mm_X10_number 2 0 0 103 [(some (av_r a0)), (some (av_i a1)), (some (av_i a2)), (some (av_i a3)), none, none] [] s (some (av_i q.1), q.2) := by
  unfold fb_X10_number_103 at h
  refine ax_aload_n (i := 0) dX10_number_103 rfl rfl ?_
  obtain ⟨x1, gx1, h⟩ := Option.bind_eq_some_iff.mp h
  refine ax_getI (q := (RX10, TX10, 28)) (t := 7) (k := 21) dX10_number_104 rfl (by decide) wd_782 rfl gx1 ?_
  refine ax_iload_n (i := 1) dX10_number_107 rfl rfl ?_
  refine ax_iload_n (i := 2) dX10_number_108 rfl rfl ?_
  obtain ⟨q2, gq2, h⟩ := Option.bind_eq_some_iff.mp h
  refine ax_cS (As := [av_i x1, av_i a1, av_i a2]) dX10_number_109 (th_X10_in gq2) (And.intro wd_856 wd_60) wd_854 wd_855 cy_X10_in (by omega) (by decide) (Nat.le_of_ble_eq_true rfl) rfl ?_
  refine ax_istore (i := 5) (L2 := [some (av_r a0), some (av_i a1), some (av_i a2), some (av_i a3), none, some (av_i q2.1)]) dX10_number_112 (by decide) rfl rfl ?_
  refine ax_aload_n (i := 0) dX10_number_114 rfl rfl ?_
  refine ax_iload (i := 5) dX10_number_115 rfl ?_
  refine ax_if_eq (tgt := 127) dX10_number_117 (by decide) (fun c3 => ?_) (fun c3 => ?_)
  · rw [if_pos c3] at h
    refine ax_iload_n (i := 3) dX10_number_127 rfl rfl ?_
    obtain ⟨s4, gs4, h⟩ := Option.bind_eq_some_iff.mp h
    refine ax_putI (q := (RX10, TX10, 28)) (t := 7) (k := 19) dX10_number_128 rfl (by decide) wd_780 rfl rfl ⟨rfl, rfl⟩ gs4 ?_
    refine ax_iload (i := 5) dX10_number_131 rfl ?_
    exact ax_reti dX10_number_133 h
  · rw [if_neg c3] at h
    refine ax_aload_n (i := 0) dX10_number_120 rfl rfl ?_
    obtain ⟨x5, gx5, h⟩ := Option.bind_eq_some_iff.mp h
    refine ax_getI (q := (RX10, TX10, 28)) (t := 7) (k := 19) dX10_number_121 rfl (by decide) wd_780 rfl gx5 ?_
    refine ax_goto (tgt := 128) dX10_number_124 (by decide) ?_
    obtain ⟨s6, gs6, h⟩ := Option.bind_eq_some_iff.mp h
    refine ax_putI (q := (RX10, TX10, 28)) (t := 7) (k := 19) dX10_number_128 rfl (by decide) wd_780 rfl rfl ⟨rfl, rfl⟩ gs6 ?_
    refine ax_iload (i := 5) dX10_number_131 rfl ?_
    exact ax_reti dX10_number_133 h
def fb_X10_number_49 : Nat → Option Nat → Int32 → Int32 → Int32 → Int32 → ax_S → Option (Int32 × ax_S)
  | 0, _, _, _, _, _, _ => none
  | n + 1, a0, a1, a2, a3, a4, s =>
    if a4 = 0 then
      (ax_gi s 7 19 a0).bind fun x8 =>
      if (a3 + (3)) ≤ x8 then
        fb_X10_number_103 a0 a1 a2 a3 s
      else
        (ax_sh s 7 a0).bind fun w10 =>
        (fn_X10_isDigit a0 s).bind fun q11 =>
        if q11.1 = 0 then
          fb_X10_number_103 a0 a1 a2 a3 q11.2
        else
          (ax_gi q11.2 7 21 a0).bind fun x13 =>
          (ax_sh q11.2 7 a0).bind fun w14 =>
          (fn_X10_here a0 q11.2).bind fun q15 =>
          (ax_pi q15.2 7 21 a0 ((((10) * x13) + q15.1) - (48))).bind fun s16 =>
          (ax_gi s16 7 19 a0).bind fun x17 =>
          (ax_pi s16 7 19 a0 (x17 + (1))).bind fun s18 =>
          (fb_X10_number_49 n) a0 a1 a2 a3 a4 s18
    else
      fb_X10_number_103 a0 a1 a2 a3 s
set_option maxRecDepth 100000 in
set_option maxHeartbeats 4000000 in
theorem tb_X10_number_49 {q : Int32 × ax_S} : ∀ (n : Nat) (a0 : Option Nat) (a1 : Int32) (a2 : Int32) (a3 : Int32) (a4 : Int32) (s : ax_S) (h : fb_X10_number_49 n a0 a1 a2 a3 a4 s = some q), AW mm_X10_number 2 0 0 49 [(some (av_r a0)), (some (av_i a1)), (some (av_i a2)), (some (av_i a3)), (some (av_i a4)), none] [] s (some (av_i q.1), q.2) := by
  intro n
  induction n with
  | zero =>
    intro a0 a1 a2 a3 a4 s h
    exact ax_no h
  | succ n ih =>
    intro a0 a1 a2 a3 a4 s h
    unfold fb_X10_number_49 at h
    refine ax_iload (i := 4) dX10_number_49 rfl ?_
    refine ax_if_ne (tgt := 103) dX10_number_51 (by decide) (fun c7 => ?_) (fun c7 => ?_)
    · rw [if_neg c7] at h
      exact ax_less (L' := [(some (av_r a0)), (some (av_i a1)), (some (av_i a2)), (some (av_i a3)), none, none]) ⟨rfl, rfl, rfl, rfl, trivial⟩ (tb_X10_number_103  h)
    · rw [if_pos c7] at h
      refine ax_aload_n (i := 0) dX10_number_54 rfl rfl ?_
      obtain ⟨x8, gx8, h⟩ := Option.bind_eq_some_iff.mp h
      refine ax_getI (q := (RX10, TX10, 28)) (t := 7) (k := 19) dX10_number_55 rfl (by decide) wd_780 rfl gx8 ?_
      refine ax_iload_n (i := 3) dX10_number_58 rfl rfl ?_
      refine ax_iconst (v := (3)) dX10_number_59 rfl ?_
      refine ax_iadd dX10_number_60 ?_
      refine ax_icmp_ge (tgt := 103) dX10_number_61 (by decide) (fun c9 => ?_) (fun c9 => ?_)
      · rw [if_pos c9] at h
        exact ax_less (L' := [(some (av_r a0)), (some (av_i a1)), (some (av_i a2)), (some (av_i a3)), none, none]) ⟨rfl, rfl, rfl, rfl, trivial⟩ (tb_X10_number_103  h)
      · rw [if_neg c9] at h
        refine ax_aload_n (i := 0) dX10_number_64 rfl rfl ?_
        obtain ⟨w10, gw10, h⟩ := Option.bind_eq_some_iff.mp h
        obtain ⟨q11, gq11, h⟩ := Option.bind_eq_some_iff.mp h
        refine ax_cV (As := []) (t := 7) dX10_number_65 gw10 (th_X10_isDigit gq11) rfl (And.intro wd_1081 wd_60) wd_1078 wd_1080 wd_50 cy_X10_isDigit (by omega) (by decide) (Nat.le_of_ble_eq_true rfl) rfl ?_
        refine ax_if_eq (tgt := 103) dX10_number_68 (by decide) (fun c12 => ?_) (fun c12 => ?_)
        · rw [if_pos c12] at h
          exact ax_less (L' := [(some (av_r a0)), (some (av_i a1)), (some (av_i a2)), (some (av_i a3)), none, none]) ⟨rfl, rfl, rfl, rfl, trivial⟩ (tb_X10_number_103  h)
        · rw [if_neg c12] at h
          refine ax_aload_n (i := 0) dX10_number_71 rfl rfl ?_
          refine ax_bipush (v := (10)) dX10_number_72 rfl ?_
          refine ax_aload_n (i := 0) dX10_number_74 rfl rfl ?_
          obtain ⟨x13, gx13, h⟩ := Option.bind_eq_some_iff.mp h
          refine ax_getI (q := (RX10, TX10, 28)) (t := 7) (k := 21) dX10_number_75 rfl (by decide) wd_782 rfl gx13 ?_
          refine ax_imul dX10_number_78 ?_
          refine ax_aload_n (i := 0) dX10_number_79 rfl rfl ?_
          obtain ⟨w14, gw14, h⟩ := Option.bind_eq_some_iff.mp h
          obtain ⟨q15, gq15, h⟩ := Option.bind_eq_some_iff.mp h
          refine ax_cV (As := []) (t := 7) dX10_number_80 gw14 (th_X10_here gq15) rfl (And.intro wd_1065 wd_60) wd_1062 wd_1064 wd_46 cy_X10_here (by omega) (by decide) (Nat.le_of_ble_eq_true rfl) rfl ?_
          refine ax_iadd dX10_number_83 ?_
          refine ax_bipush (v := (48)) dX10_number_84 rfl ?_
          refine ax_isub dX10_number_86 ?_
          obtain ⟨s16, gs16, h⟩ := Option.bind_eq_some_iff.mp h
          refine ax_putI (q := (RX10, TX10, 28)) (t := 7) (k := 21) dX10_number_87 rfl (by decide) wd_782 rfl rfl ⟨rfl, rfl⟩ gs16 ?_
          refine ax_aload_n (i := 0) dX10_number_90 rfl rfl ?_
          refine ax_dup dX10_number_91 trivial ?_
          obtain ⟨x17, gx17, h⟩ := Option.bind_eq_some_iff.mp h
          refine ax_getI (q := (RX10, TX10, 28)) (t := 7) (k := 19) dX10_number_92 rfl (by decide) wd_780 rfl gx17 ?_
          refine ax_iconst (v := (1)) dX10_number_95 rfl ?_
          refine ax_iadd dX10_number_96 ?_
          obtain ⟨s18, gs18, h⟩ := Option.bind_eq_some_iff.mp h
          refine ax_putI (q := (RX10, TX10, 28)) (t := 7) (k := 19) dX10_number_97 rfl (by decide) wd_780 rfl rfl ⟨rfl, rfl⟩ gs18 ?_
          refine ax_goto (tgt := 49) dX10_number_100 (by decide) ?_
          exact ax_less (L' := [(some (av_r a0)), (some (av_i a1)), (some (av_i a2)), (some (av_i a3)), (some (av_i a4)), none]) ⟨rfl, rfl, rfl, rfl, rfl, trivial⟩ (ih _ _ _ _ _ _ h)
def fi_X10_number (a0 : Option Nat) (a1 : Int32) (a2 : Int32) (s : ax_S) : Option (Int32 × ax_S) :=
  (ax_gi s 7 19 a0).bind fun x19 =>
  (ax_sh s 7 a0).bind fun w20 =>
  (fn_X10_isDigit a0 s).bind fun q21 =>
  if q21.1 = 0 then
    some ((0), q21.2)
  else
    (ax_sh q21.2 7 a0).bind fun w23 =>
    (fn_X10_here a0 q21.2).bind fun q24 =>
    (ax_pi q24.2 7 21 a0 (q24.1 - (48))).bind fun s25 =>
    (ax_gi s25 7 19 a0).bind fun x26 =>
    (ax_pi s25 7 19 a0 (x26 + (1))).bind fun s27 =>
    (ax_gi s27 7 21 a0).bind fun x28 =>
    if x28 = 0 then
      fb_X10_number_49 10000 a0 a1 a2 x19 (1) s27
    else
      fb_X10_number_49 10000 a0 a1 a2 x19 (0) s27
set_option maxRecDepth 100000 in
set_option maxHeartbeats 4000000 in
theorem tw_X10_number {q : Int32 × ax_S} {a0 : Option Nat} {a1 : Int32} {a2 : Int32} {s : ax_S} (h : fi_X10_number a0 a1 a2 s = some q) : AW mm_X10_number 2 0 0 0 [some (av_r a0), some (av_i a1), some (av_i a2), none, none, none] [] s (some (av_i q.1), q.2) := by
  unfold fi_X10_number at h
  refine ax_aload_n (i := 0) dX10_number_0 rfl rfl ?_
  obtain ⟨x19, gx19, h⟩ := Option.bind_eq_some_iff.mp h
  refine ax_getI (q := (RX10, TX10, 28)) (t := 7) (k := 19) dX10_number_1 rfl (by decide) wd_780 rfl gx19 ?_
  refine ax_istore_n (i := 3) (L2 := [some (av_r a0), some (av_i a1), some (av_i a2), some (av_i x19), none, none]) dX10_number_4 rfl (by decide) rfl rfl ?_
  refine ax_aload_n (i := 0) dX10_number_5 rfl rfl ?_
  obtain ⟨w20, gw20, h⟩ := Option.bind_eq_some_iff.mp h
  obtain ⟨q21, gq21, h⟩ := Option.bind_eq_some_iff.mp h
  refine ax_cV (As := []) (t := 7) dX10_number_6 gw20 (th_X10_isDigit gq21) rfl (And.intro wd_1081 wd_60) wd_1078 wd_1080 wd_50 cy_X10_isDigit (by omega) (by decide) (Nat.le_of_ble_eq_true rfl) rfl ?_
  refine ax_if_ne (tgt := 14) dX10_number_9 (by decide) (fun c22 => ?_) (fun c22 => ?_)
  · rw [if_neg c22] at h
    refine ax_aload_n (i := 0) dX10_number_14 rfl rfl ?_
    refine ax_aload_n (i := 0) dX10_number_15 rfl rfl ?_
    obtain ⟨w23, gw23, h⟩ := Option.bind_eq_some_iff.mp h
    obtain ⟨q24, gq24, h⟩ := Option.bind_eq_some_iff.mp h
    refine ax_cV (As := []) (t := 7) dX10_number_16 gw23 (th_X10_here gq24) rfl (And.intro wd_1065 wd_60) wd_1062 wd_1064 wd_46 cy_X10_here (by omega) (by decide) (Nat.le_of_ble_eq_true rfl) rfl ?_
    refine ax_bipush (v := (48)) dX10_number_19 rfl ?_
    refine ax_isub dX10_number_21 ?_
    obtain ⟨s25, gs25, h⟩ := Option.bind_eq_some_iff.mp h
    refine ax_putI (q := (RX10, TX10, 28)) (t := 7) (k := 21) dX10_number_22 rfl (by decide) wd_782 rfl rfl ⟨rfl, rfl⟩ gs25 ?_
    refine ax_aload_n (i := 0) dX10_number_25 rfl rfl ?_
    refine ax_dup dX10_number_26 trivial ?_
    obtain ⟨x26, gx26, h⟩ := Option.bind_eq_some_iff.mp h
    refine ax_getI (q := (RX10, TX10, 28)) (t := 7) (k := 19) dX10_number_27 rfl (by decide) wd_780 rfl gx26 ?_
    refine ax_iconst (v := (1)) dX10_number_30 rfl ?_
    refine ax_iadd dX10_number_31 ?_
    obtain ⟨s27, gs27, h⟩ := Option.bind_eq_some_iff.mp h
    refine ax_putI (q := (RX10, TX10, 28)) (t := 7) (k := 19) dX10_number_32 rfl (by decide) wd_780 rfl rfl ⟨rfl, rfl⟩ gs27 ?_
    refine ax_aload_n (i := 0) dX10_number_35 rfl rfl ?_
    obtain ⟨x28, gx28, h⟩ := Option.bind_eq_some_iff.mp h
    refine ax_getI (q := (RX10, TX10, 28)) (t := 7) (k := 21) dX10_number_36 rfl (by decide) wd_782 rfl gx28 ?_
    refine ax_if_ne (tgt := 46) dX10_number_39 (by decide) (fun c29 => ?_) (fun c29 => ?_)
    · rw [if_neg c29] at h
      refine ax_iconst (v := (0)) dX10_number_46 rfl ?_
      refine ax_istore (i := 4) (L2 := [some (av_r a0), some (av_i a1), some (av_i a2), some (av_i x19), some (av_i (0)), none]) dX10_number_47 (by decide) rfl rfl ?_
      exact ax_less (L' := [(some (av_r a0)), (some (av_i a1)), (some (av_i a2)), (some (av_i x19)), (some (av_i (0))), none]) ⟨rfl, rfl, rfl, rfl, rfl, trivial⟩ (tb_X10_number_49  _ _ _ _ _ _ _ h)
    · rw [if_pos c29] at h
      refine ax_iconst (v := (1)) dX10_number_42 rfl ?_
      refine ax_goto (tgt := 47) dX10_number_43 (by decide) ?_
      refine ax_istore (i := 4) (L2 := [some (av_r a0), some (av_i a1), some (av_i a2), some (av_i x19), some (av_i (1)), none]) dX10_number_47 (by decide) rfl rfl ?_
      exact ax_less (L' := [(some (av_r a0)), (some (av_i a1)), (some (av_i a2)), (some (av_i x19)), (some (av_i (1))), none]) ⟨rfl, rfl, rfl, rfl, rfl, trivial⟩ (tb_X10_number_49  _ _ _ _ _ _ _ h)
  · rw [if_pos c22] at h
    refine ax_iconst (v := (0)) dX10_number_12 rfl ?_
    exact ax_reti dX10_number_13 h
def fn_X10_number (a0 : Option Nat) (a1 : Int32) (a2 : Int32) (s : ax_S) : Option (Int32 × ax_S) := ax_bz (fi_X10_number a0 a1 a2 s)
set_option maxRecDepth 100000 in
set_option maxHeartbeats 4000000 in
theorem th_X10_number {q : Int32 × ax_S} {a0 : Option Nat} {a1 : Int32} {a2 : Int32} {s : ax_S} (h : fn_X10_number a0 a1 a2 s = some q) : AC mm_X10_number yX10_number 2 0 0 [av_r a0, av_i a1, av_i a2] s (some (av_i q.1), q.2) := by
  obtain ⟨h, hz⟩ := ax_bz_of h
  exact ax_met (L0 := [some (av_r a0), some (av_i a1), some (av_i a2), none, none, none]) (by decide +kernel) rfl (fun h => absurd h (by decide)) ⟨rfl, rfl, rfl, trivial⟩ (Nat.le_of_ble_eq_true rfl) hz (tw_X10_number h)
/-! X10_tells -/
abbrev mm_X10_tells : ax_M := (RX10, cX10_tells, none, 5, false)
def fb_X10_tells_79 : Nat → Option Nat → Int32 → Int32 → Int32 → ax_S → Option (ax_S)
  | 0, _, _, _, _, _ => none
  | n + 1, a0, a2, a3, a4, s =>
    if a3 ≤ a4 then
      (ax_gi s 7 27 a0).bind fun x2 =>
      (ax_pi s 7 27 a0 (x2 - a3)).bind fun s3 =>
      (ax_gr s3 7 26 a0).bind fun r4 =>
      (ax_gi s3 7 27 a0).bind fun x5 =>
      (ax_gi s3 7 25 a0).bind fun x6 =>
      (ax_as s3 9 r4 x5 ((100) + x6)).bind fun s7 =>
      (ax_gi s7 7 27 a0).bind fun x8 =>
      (ax_pi s7 7 27 a0 (x8 + (1))).bind fun s9 =>
      (ax_gi s9 7 25 a0).bind fun x10 =>
      (ax_pi s9 7 25 a0 (x10 + (1))).bind fun s11 =>
      some s11
    else
      (ax_gr s 7 24 a0).bind fun r12 =>
      (ax_gr s 7 26 a0).bind fun r13 =>
      (ax_gi s 7 27 a0).bind fun x14 =>
      (ax_al s 9 r13 ((x14 - a3) + a4)).bind fun x15 =>
      (ax_as s 9 r12 ((a2 + (1)) + a4) x15).bind fun s16 =>
      (fb_X10_tells_79 n) a0 a2 a3 (a4 + (1)) s16
set_option maxRecDepth 100000 in
set_option maxHeartbeats 4000000 in
theorem tb_X10_tells_79 {q : ax_S} : ∀ (n : Nat) (a0 : Option Nat) (a2 : Int32) (a3 : Int32) (a4 : Int32) (s : ax_S) (h : fb_X10_tells_79 n a0 a2 a3 a4 s = some q), AW mm_X10_tells 1 0 0 79 [(some (av_r a0)), none, (some (av_i a2)), (some (av_i a3)), (some (av_i a4))] [] s (none, q) := by
  intro n
  induction n with
  | zero =>
    intro a0 a2 a3 a4 s h
    exact ax_no h
  | succ n ih =>
    intro a0 a2 a3 a4 s h
    unfold fb_X10_tells_79 at h
    refine ax_iload (i := 4) dX10_tells_79 rfl ?_
    refine ax_iload_n (i := 3) dX10_tells_81 rfl rfl ?_
    refine ax_icmp_ge (tgt := 116) dX10_tells_82 (by decide) (fun c1 => ?_) (fun c1 => ?_)
    · rw [if_pos c1] at h
      refine ax_aload_n (i := 0) dX10_tells_116 rfl rfl ?_
      refine ax_dup dX10_tells_117 trivial ?_
      obtain ⟨x2, gx2, h⟩ := Option.bind_eq_some_iff.mp h
      refine ax_getI (q := (RX10, TX10, 28)) (t := 7) (k := 27) dX10_tells_118 rfl (by decide) wd_788 rfl gx2 ?_
      refine ax_iload_n (i := 3) dX10_tells_121 rfl rfl ?_
      refine ax_isub dX10_tells_122 ?_
      obtain ⟨s3, gs3, h⟩ := Option.bind_eq_some_iff.mp h
      refine ax_putI (q := (RX10, TX10, 28)) (t := 7) (k := 27) dX10_tells_123 rfl (by decide) wd_788 rfl rfl ⟨rfl, rfl⟩ gs3 ?_
      refine ax_aload_n (i := 0) dX10_tells_126 rfl rfl ?_
      obtain ⟨r4, gr4, h⟩ := Option.bind_eq_some_iff.mp h
      refine ax_getR (q := (RX10, TX10, 28)) (t := 7) (k := 26) dX10_tells_127 rfl (by decide) wd_787 rfl gr4 ?_
      refine ax_aload_n (i := 0) dX10_tells_130 rfl rfl ?_
      obtain ⟨x5, gx5, h⟩ := Option.bind_eq_some_iff.mp h
      refine ax_getI (q := (RX10, TX10, 28)) (t := 7) (k := 27) dX10_tells_131 rfl (by decide) wd_788 rfl gx5 ?_
      refine ax_bipush (v := (100)) dX10_tells_134 rfl ?_
      refine ax_aload_n (i := 0) dX10_tells_136 rfl rfl ?_
      obtain ⟨x6, gx6, h⟩ := Option.bind_eq_some_iff.mp h
      refine ax_getI (q := (RX10, TX10, 28)) (t := 7) (k := 25) dX10_tells_137 rfl (by decide) wd_786 rfl gx6 ?_
      refine ax_iadd dX10_tells_140 ?_
      obtain ⟨s7, gs7, h⟩ := Option.bind_eq_some_iff.mp h
      refine ax_iast dX10_tells_141 gs7 ?_
      refine ax_aload_n (i := 0) dX10_tells_142 rfl rfl ?_
      refine ax_dup dX10_tells_143 trivial ?_
      obtain ⟨x8, gx8, h⟩ := Option.bind_eq_some_iff.mp h
      refine ax_getI (q := (RX10, TX10, 28)) (t := 7) (k := 27) dX10_tells_144 rfl (by decide) wd_788 rfl gx8 ?_
      refine ax_iconst (v := (1)) dX10_tells_147 rfl ?_
      refine ax_iadd dX10_tells_148 ?_
      obtain ⟨s9, gs9, h⟩ := Option.bind_eq_some_iff.mp h
      refine ax_putI (q := (RX10, TX10, 28)) (t := 7) (k := 27) dX10_tells_149 rfl (by decide) wd_788 rfl rfl ⟨rfl, rfl⟩ gs9 ?_
      refine ax_aload_n (i := 0) dX10_tells_152 rfl rfl ?_
      refine ax_dup dX10_tells_153 trivial ?_
      obtain ⟨x10, gx10, h⟩ := Option.bind_eq_some_iff.mp h
      refine ax_getI (q := (RX10, TX10, 28)) (t := 7) (k := 25) dX10_tells_154 rfl (by decide) wd_786 rfl gx10 ?_
      refine ax_iconst (v := (1)) dX10_tells_157 rfl ?_
      refine ax_iadd dX10_tells_158 ?_
      obtain ⟨s11, gs11, h⟩ := Option.bind_eq_some_iff.mp h
      refine ax_putI (q := (RX10, TX10, 28)) (t := 7) (k := 25) dX10_tells_159 rfl (by decide) wd_786 rfl rfl ⟨rfl, rfl⟩ gs11 ?_
      exact ax_retv dX10_tells_162 h
    · rw [if_neg c1] at h
      refine ax_aload_n (i := 0) dX10_tells_85 rfl rfl ?_
      obtain ⟨r12, gr12, h⟩ := Option.bind_eq_some_iff.mp h
      refine ax_getR (q := (RX10, TX10, 28)) (t := 7) (k := 24) dX10_tells_86 rfl (by decide) wd_785 rfl gr12 ?_
      refine ax_iload_n (i := 2) dX10_tells_89 rfl rfl ?_
      refine ax_iconst (v := (1)) dX10_tells_90 rfl ?_
      refine ax_iadd dX10_tells_91 ?_
      refine ax_iload (i := 4) dX10_tells_92 rfl ?_
      refine ax_iadd dX10_tells_94 ?_
      refine ax_aload_n (i := 0) dX10_tells_95 rfl rfl ?_
      obtain ⟨r13, gr13, h⟩ := Option.bind_eq_some_iff.mp h
      refine ax_getR (q := (RX10, TX10, 28)) (t := 7) (k := 26) dX10_tells_96 rfl (by decide) wd_787 rfl gr13 ?_
      refine ax_aload_n (i := 0) dX10_tells_99 rfl rfl ?_
      obtain ⟨x14, gx14, h⟩ := Option.bind_eq_some_iff.mp h
      refine ax_getI (q := (RX10, TX10, 28)) (t := 7) (k := 27) dX10_tells_100 rfl (by decide) wd_788 rfl gx14 ?_
      refine ax_iload_n (i := 3) dX10_tells_103 rfl rfl ?_
      refine ax_isub dX10_tells_104 ?_
      refine ax_iload (i := 4) dX10_tells_105 rfl ?_
      refine ax_iadd dX10_tells_107 ?_
      obtain ⟨x15, gx15, h⟩ := Option.bind_eq_some_iff.mp h
      refine ax_iald dX10_tells_108 gx15 ?_
      obtain ⟨s16, gs16, h⟩ := Option.bind_eq_some_iff.mp h
      refine ax_iast dX10_tells_109 gs16 ?_
      refine ax_iinc (i := 4) (v := (a4 + (1))) (L2 := [some (av_r a0), none, some (av_i a2), some (av_i a3), some (av_i (a4 + (1)))]) dX10_tells_110 rfl rfl (by decide) rfl rfl ?_
      refine ax_goto (tgt := 79) dX10_tells_113 (by decide) ?_
      exact ax_less (L' := [(some (av_r a0)), none, (some (av_i a2)), (some (av_i a3)), (some (av_i (a4 + (1))))]) ⟨rfl, rfl, rfl, rfl, trivial⟩ (ih _ _ _ _ _ h)
def fb_X10_tells_43 : Nat → Option Nat → Int32 → Int32 → Int32 → ax_S → Option (ax_S)
  | 0, _, _, _, _, _ => none
  | n + 1, a0, a1, a2, a3, s =>
    if (4) ≤ a3 then
      (ax_gr s 7 13 a0).bind fun r18 =>
      (ax_al s 9 r18 a1).bind fun x19 =>
      fb_X10_tells_79 10000 a0 a2 x19 (0) s
    else
      (ax_gr s 7 24 a0).bind fun r20 =>
      (fn_X10_first a1 a3 s).bind fun q21 =>
      (ax_as q21.2 9 r20 ((a2 + (4)) + a3) q21.1).bind fun s22 =>
      (fb_X10_tells_43 n) a0 a1 a2 (a3 + (1)) s22
set_option maxRecDepth 100000 in
set_option maxHeartbeats 4000000 in
theorem tb_X10_tells_43 {q : ax_S} : ∀ (n : Nat) (a0 : Option Nat) (a1 : Int32) (a2 : Int32) (a3 : Int32) (s : ax_S) (h : fb_X10_tells_43 n a0 a1 a2 a3 s = some q), AW mm_X10_tells 1 0 0 43 [(some (av_r a0)), (some (av_i a1)), (some (av_i a2)), (some (av_i a3)), none] [] s (none, q) := by
  intro n
  induction n with
  | zero =>
    intro a0 a1 a2 a3 s h
    exact ax_no h
  | succ n ih =>
    intro a0 a1 a2 a3 s h
    unfold fb_X10_tells_43 at h
    refine ax_iload_n (i := 3) dX10_tells_43 rfl rfl ?_
    refine ax_iconst (v := (4)) dX10_tells_44 rfl ?_
    refine ax_icmp_ge (tgt := 69) dX10_tells_45 (by decide) (fun c17 => ?_) (fun c17 => ?_)
    · rw [if_pos c17] at h
      refine ax_aload_n (i := 0) dX10_tells_69 rfl rfl ?_
      obtain ⟨r18, gr18, h⟩ := Option.bind_eq_some_iff.mp h
      refine ax_getR (q := (RX10, TX10, 28)) (t := 7) (k := 13) dX10_tells_70 rfl (by decide) wd_774 rfl gr18 ?_
      refine ax_iload_n (i := 1) dX10_tells_73 rfl rfl ?_
      obtain ⟨x19, gx19, h⟩ := Option.bind_eq_some_iff.mp h
      refine ax_iald dX10_tells_74 gx19 ?_
      refine ax_istore_n (i := 3) (L2 := [some (av_r a0), some (av_i a1), some (av_i a2), some (av_i x19), none]) dX10_tells_75 rfl (by decide) rfl rfl ?_
      refine ax_iconst (v := (0)) dX10_tells_76 rfl ?_
      refine ax_istore (i := 4) (L2 := [some (av_r a0), some (av_i a1), some (av_i a2), some (av_i x19), some (av_i (0))]) dX10_tells_77 (by decide) rfl rfl ?_
      exact ax_less (L' := [(some (av_r a0)), none, (some (av_i a2)), (some (av_i x19)), (some (av_i (0)))]) ⟨rfl, rfl, rfl, rfl, trivial⟩ (tb_X10_tells_79  _ _ _ _ _ _ h)
    · rw [if_neg c17] at h
      refine ax_aload_n (i := 0) dX10_tells_48 rfl rfl ?_
      obtain ⟨r20, gr20, h⟩ := Option.bind_eq_some_iff.mp h
      refine ax_getR (q := (RX10, TX10, 28)) (t := 7) (k := 24) dX10_tells_49 rfl (by decide) wd_785 rfl gr20 ?_
      refine ax_iload_n (i := 2) dX10_tells_52 rfl rfl ?_
      refine ax_iconst (v := (4)) dX10_tells_53 rfl ?_
      refine ax_iadd dX10_tells_54 ?_
      refine ax_iload_n (i := 3) dX10_tells_55 rfl rfl ?_
      refine ax_iadd dX10_tells_56 ?_
      refine ax_iload_n (i := 1) dX10_tells_57 rfl rfl ?_
      refine ax_iload_n (i := 3) dX10_tells_58 rfl rfl ?_
      obtain ⟨q21, gq21, h⟩ := Option.bind_eq_some_iff.mp h
      refine ax_cS (As := [av_i a1, av_i a3]) dX10_tells_59 (th_X10_first gq21) (And.intro wd_866 wd_60) wd_864 wd_865 cy_X10_first (by omega) (by decide) (Nat.le_of_ble_eq_true rfl) rfl ?_
      obtain ⟨s22, gs22, h⟩ := Option.bind_eq_some_iff.mp h
      refine ax_iast dX10_tells_62 gs22 ?_
      refine ax_iinc (i := 3) (v := (a3 + (1))) (L2 := [some (av_r a0), some (av_i a1), some (av_i a2), some (av_i (a3 + (1))), none]) dX10_tells_63 rfl rfl (by decide) rfl rfl ?_
      refine ax_goto (tgt := 43) dX10_tells_66 (by decide) ?_
      exact ax_less (L' := [(some (av_r a0)), (some (av_i a1)), (some (av_i a2)), (some (av_i (a3 + (1)))), none]) ⟨rfl, rfl, rfl, rfl, trivial⟩ (ih _ _ _ _ _ h)
def fb_X10_tells_17 : Nat → Option Nat → Int32 → Int32 → Int32 → ax_S → Option (ax_S)
  | 0, _, _, _, _, _ => none
  | n + 1, a0, a1, a2, a3, s =>
    if (3) ≤ a3 then
      fb_X10_tells_43 10000 a0 a1 a2 (0) s
    else
      (ax_gr s 7 24 a0).bind fun r24 =>
      (ax_as s 9 r24 ((a2 + (1)) + a3) (-1005)).bind fun s25 =>
      (fb_X10_tells_17 n) a0 a1 a2 (a3 + (1)) s25
set_option maxRecDepth 100000 in
set_option maxHeartbeats 4000000 in
theorem tb_X10_tells_17 {q : ax_S} : ∀ (n : Nat) (a0 : Option Nat) (a1 : Int32) (a2 : Int32) (a3 : Int32) (s : ax_S) (h : fb_X10_tells_17 n a0 a1 a2 a3 s = some q), AW mm_X10_tells 1 0 0 17 [(some (av_r a0)), (some (av_i a1)), (some (av_i a2)), (some (av_i a3)), none] [] s (none, q) := by
  intro n
  induction n with
  | zero =>
    intro a0 a1 a2 a3 s h
    exact ax_no h
  | succ n ih =>
    intro a0 a1 a2 a3 s h
    unfold fb_X10_tells_17 at h
    refine ax_iload_n (i := 3) dX10_tells_17 rfl rfl ?_
    refine ax_iconst (v := (3)) dX10_tells_18 rfl ?_
    refine ax_icmp_ge (tgt := 41) dX10_tells_19 (by decide) (fun c23 => ?_) (fun c23 => ?_)
    · rw [if_pos c23] at h
      refine ax_iconst (v := (0)) dX10_tells_41 rfl ?_
      refine ax_istore_n (i := 3) (L2 := [some (av_r a0), some (av_i a1), some (av_i a2), some (av_i (0)), none]) dX10_tells_42 rfl (by decide) rfl rfl ?_
      exact ax_less (L' := [(some (av_r a0)), (some (av_i a1)), (some (av_i a2)), (some (av_i (0))), none]) ⟨rfl, rfl, rfl, rfl, trivial⟩ (tb_X10_tells_43  _ _ _ _ _ _ h)
    · rw [if_neg c23] at h
      refine ax_aload_n (i := 0) dX10_tells_22 rfl rfl ?_
      obtain ⟨r24, gr24, h⟩ := Option.bind_eq_some_iff.mp h
      refine ax_getR (q := (RX10, TX10, 28)) (t := 7) (k := 24) dX10_tells_23 rfl (by decide) wd_785 rfl gr24 ?_
      refine ax_iload_n (i := 2) dX10_tells_26 rfl rfl ?_
      refine ax_iconst (v := (1)) dX10_tells_27 rfl ?_
      refine ax_iadd dX10_tells_28 ?_
      refine ax_iload_n (i := 3) dX10_tells_29 rfl rfl ?_
      refine ax_iadd dX10_tells_30 ?_
      refine ax_sipush (v := (-1005)) dX10_tells_31 rfl ?_
      obtain ⟨s25, gs25, h⟩ := Option.bind_eq_some_iff.mp h
      refine ax_iast dX10_tells_34 gs25 ?_
      refine ax_iinc (i := 3) (v := (a3 + (1))) (L2 := [some (av_r a0), some (av_i a1), some (av_i a2), some (av_i (a3 + (1))), none]) dX10_tells_35 rfl rfl (by decide) rfl rfl ?_
      refine ax_goto (tgt := 17) dX10_tells_38 (by decide) ?_
      exact ax_less (L' := [(some (av_r a0)), (some (av_i a1)), (some (av_i a2)), (some (av_i (a3 + (1)))), none]) ⟨rfl, rfl, rfl, rfl, trivial⟩ (ih _ _ _ _ _ h)
def fn_X10_tells (a0 : Option Nat) (a1 : Int32) (s : ax_S) : Option (ax_S) :=
  (ax_gi s 7 25 a0).bind fun x26 =>
  ax_bd (((8) * x26)) fun v27 =>
  (ax_gr s 7 24 a0).bind fun r28 =>
  (ax_as s 9 r28 v27 a1).bind fun s29 =>
  fb_X10_tells_17 10000 a0 a1 v27 (0) s29
set_option maxRecDepth 100000 in
set_option maxHeartbeats 4000000 in
theorem tw_X10_tells {q : ax_S} {a0 : Option Nat} {a1 : Int32} {s : ax_S} (h : fn_X10_tells a0 a1 s = some q) : AW mm_X10_tells 1 0 0 0 [some (av_r a0), some (av_i a1), none, none, none] [] s (none, q) := by
  unfold fn_X10_tells at h
  refine ax_bipush (v := (8)) dX10_tells_0 rfl ?_
  refine ax_aload_n (i := 0) dX10_tells_2 rfl rfl ?_
  obtain ⟨x26, gx26, h⟩ := Option.bind_eq_some_iff.mp h
  refine ax_getI (q := (RX10, TX10, 28)) (t := 7) (k := 25) dX10_tells_3 rfl (by decide) wd_786 rfl gx26 ?_
  refine ax_imul dX10_tells_6 ?_
  refine ax_bdI h (fun v27 h => ?_)
  refine ax_istore_n (i := 2) (L2 := [some (av_r a0), some (av_i a1), some (av_i v27), none, none]) dX10_tells_7 rfl (by decide) rfl rfl ?_
  refine ax_aload_n (i := 0) dX10_tells_8 rfl rfl ?_
  obtain ⟨r28, gr28, h⟩ := Option.bind_eq_some_iff.mp h
  refine ax_getR (q := (RX10, TX10, 28)) (t := 7) (k := 24) dX10_tells_9 rfl (by decide) wd_785 rfl gr28 ?_
  refine ax_iload_n (i := 2) dX10_tells_12 rfl rfl ?_
  refine ax_iload_n (i := 1) dX10_tells_13 rfl rfl ?_
  obtain ⟨s29, gs29, h⟩ := Option.bind_eq_some_iff.mp h
  refine ax_iast dX10_tells_14 gs29 ?_
  refine ax_iconst (v := (0)) dX10_tells_15 rfl ?_
  refine ax_istore_n (i := 3) (L2 := [some (av_r a0), some (av_i a1), some (av_i v27), some (av_i (0)), none]) dX10_tells_16 rfl (by decide) rfl rfl ?_
  exact ax_less (L' := [(some (av_r a0)), (some (av_i a1)), (some (av_i v27)), (some (av_i (0))), none]) ⟨rfl, rfl, rfl, rfl, trivial⟩ (tb_X10_tells_17  _ _ _ _ _ _ h)
set_option maxRecDepth 100000 in
set_option maxHeartbeats 4000000 in
theorem th_X10_tells {q : ax_S} {a0 : Option Nat} {a1 : Int32} {s : ax_S} (h : fn_X10_tells a0 a1 s = some q) : AC mm_X10_tells yX10_tells 1 0 0 [av_r a0, av_i a1] s (none, q) := by
  exact ax_met (L0 := [some (av_r a0), some (av_i a1), none, none, none]) (by decide +kernel) rfl (fun h => absurd h (by decide)) ⟨rfl, rfl, trivial⟩ (Nat.le_of_ble_eq_true rfl) trivial (tw_X10_tells h)
/-! X10_ends -/
abbrev mm_X10_ends : ax_M := (RX10, cX10_ends, (some .boolean), 10, false)
def fb_X10_ends_387 (a0 : Option Nat) (a5 : Int32) (a6 : Int32) (a7 : Int32) (b0 : Option Nat) (b1 : Int32) (b2 : Int32) (s : ax_S) : Option (Int32 × ax_S) :=
  (ax_as s 9 b0 b1 b2).bind fun s1 =>
  (ax_gr s1 7 24 a0).bind fun r2 =>
  if a6 ≤ (1) then
    (ax_gr s1 7 24 a0).bind fun r4 =>
    (ax_al s1 9 r4 (a7 + (3))).bind fun x5 =>
    (ax_as s1 9 r2 (a7 + (3)) x5).bind fun s6 =>
    some ((1), s6)
  else
    (ax_as s1 9 r2 (a7 + (3)) a5).bind fun s7 =>
    some ((1), s7)
set_option maxRecDepth 100000 in
set_option maxHeartbeats 4000000 in
theorem tb_X10_ends_387 {q : Int32 × ax_S} {a0 : Option Nat} {a5 : Int32} {a6 : Int32} {a7 : Int32} {b0 : Option Nat} {b1 : Int32} {b2 : Int32} {s : ax_S} (h : fb_X10_ends_387 a0 a5 a6 a7 b0 b1 b2 s = some q) : AW mm_X10_ends 3 0 0 387 [(some (av_r a0)), none, none, none, none, (some (av_i a5)), (some (av_i a6)), (some (av_i a7)), none, none] [av_i b2, av_i b1, av_r b0] s (some (av_i q.1), q.2) := by
  unfold fb_X10_ends_387 at h
  obtain ⟨s1, gs1, h⟩ := Option.bind_eq_some_iff.mp h
  refine ax_iast dX10_ends_387 gs1 ?_
  refine ax_aload_n (i := 0) dX10_ends_388 rfl rfl ?_
  obtain ⟨r2, gr2, h⟩ := Option.bind_eq_some_iff.mp h
  refine ax_getR (q := (RX10, TX10, 28)) (t := 7) (k := 24) dX10_ends_389 rfl (by decide) wd_785 rfl gr2 ?_
  refine ax_iload (i := 7) dX10_ends_392 rfl ?_
  refine ax_iconst (v := (3)) dX10_ends_394 rfl ?_
  refine ax_iadd dX10_ends_395 ?_
  refine ax_iload (i := 6) dX10_ends_396 rfl ?_
  refine ax_iconst (v := (1)) dX10_ends_398 rfl ?_
  refine ax_icmp_le (tgt := 407) dX10_ends_399 (by decide) (fun c3 => ?_) (fun c3 => ?_)
  · rw [if_pos c3] at h
    refine ax_aload_n (i := 0) dX10_ends_407 rfl rfl ?_
    obtain ⟨r4, gr4, h⟩ := Option.bind_eq_some_iff.mp h
    refine ax_getR (q := (RX10, TX10, 28)) (t := 7) (k := 24) dX10_ends_408 rfl (by decide) wd_785 rfl gr4 ?_
    refine ax_iload (i := 7) dX10_ends_411 rfl ?_
    refine ax_iconst (v := (3)) dX10_ends_413 rfl ?_
    refine ax_iadd dX10_ends_414 ?_
    obtain ⟨x5, gx5, h⟩ := Option.bind_eq_some_iff.mp h
    refine ax_iald dX10_ends_415 gx5 ?_
    obtain ⟨s6, gs6, h⟩ := Option.bind_eq_some_iff.mp h
    refine ax_iast dX10_ends_416 gs6 ?_
    refine ax_iconst (v := (1)) dX10_ends_417 rfl ?_
    exact ax_reti dX10_ends_418 h
  · rw [if_neg c3] at h
    refine ax_iload (i := 5) dX10_ends_402 rfl ?_
    refine ax_goto (tgt := 416) dX10_ends_404 (by decide) ?_
    obtain ⟨s7, gs7, h⟩ := Option.bind_eq_some_iff.mp h
    refine ax_iast dX10_ends_416 gs7 ?_
    refine ax_iconst (v := (1)) dX10_ends_417 rfl ?_
    exact ax_reti dX10_ends_418 h
def fb_X10_ends_349 (a0 : Option Nat) (a2 : Int32) (a4 : Int32) (a5 : Int32) (a6 : Int32) (a7 : Int32) (a8 : Int32) (b0 : Option Nat) (b1 : Int32) (b2 : Int32) (s : ax_S) : Option (Int32 × ax_S) :=
  (ax_as s 9 b0 b1 b2).bind fun s8 =>
  (ax_gr s8 7 24 a0).bind fun r9 =>
  if a8 = 0 then
    if a6 ≤ (1) then
      (ax_gr s8 7 24 a0).bind fun r12 =>
      (ax_al s8 9 r12 (a7 + (2))).bind fun x13 =>
      fb_X10_ends_387 a0 a5 a6 a7 r9 (a7 + (2)) x13 s8
    else
      fb_X10_ends_387 a0 a5 a6 a7 r9 (a7 + (2)) a4 s8
  else
    fb_X10_ends_387 a0 a5 a6 a7 r9 (a7 + (2)) a2 s8
set_option maxRecDepth 100000 in
set_option maxHeartbeats 4000000 in
theorem tb_X10_ends_349 {q : Int32 × ax_S} {a0 : Option Nat} {a2 : Int32} {a4 : Int32} {a5 : Int32} {a6 : Int32} {a7 : Int32} {a8 : Int32} {b0 : Option Nat} {b1 : Int32} {b2 : Int32} {s : ax_S} (h : fb_X10_ends_349 a0 a2 a4 a5 a6 a7 a8 b0 b1 b2 s = some q) : AW mm_X10_ends 3 0 0 349 [(some (av_r a0)), none, (some (av_i a2)), none, (some (av_i a4)), (some (av_i a5)), (some (av_i a6)), (some (av_i a7)), (some (av_i a8)), none] [av_i b2, av_i b1, av_r b0] s (some (av_i q.1), q.2) := by
  unfold fb_X10_ends_349 at h
  obtain ⟨s8, gs8, h⟩ := Option.bind_eq_some_iff.mp h
  refine ax_iast dX10_ends_349 gs8 ?_
  refine ax_aload_n (i := 0) dX10_ends_350 rfl rfl ?_
  obtain ⟨r9, gr9, h⟩ := Option.bind_eq_some_iff.mp h
  refine ax_getR (q := (RX10, TX10, 28)) (t := 7) (k := 24) dX10_ends_351 rfl (by decide) wd_785 rfl gr9 ?_
  refine ax_iload (i := 7) dX10_ends_354 rfl ?_
  refine ax_iconst (v := (2)) dX10_ends_356 rfl ?_
  refine ax_iadd dX10_ends_357 ?_
  refine ax_iload (i := 8) dX10_ends_358 rfl ?_
  refine ax_if_eq (tgt := 367) dX10_ends_360 (by decide) (fun c10 => ?_) (fun c10 => ?_)
  · rw [if_pos c10] at h
    refine ax_iload (i := 6) dX10_ends_367 rfl ?_
    refine ax_iconst (v := (1)) dX10_ends_369 rfl ?_
    refine ax_icmp_le (tgt := 378) dX10_ends_370 (by decide) (fun c11 => ?_) (fun c11 => ?_)
    · rw [if_pos c11] at h
      refine ax_aload_n (i := 0) dX10_ends_378 rfl rfl ?_
      obtain ⟨r12, gr12, h⟩ := Option.bind_eq_some_iff.mp h
      refine ax_getR (q := (RX10, TX10, 28)) (t := 7) (k := 24) dX10_ends_379 rfl (by decide) wd_785 rfl gr12 ?_
      refine ax_iload (i := 7) dX10_ends_382 rfl ?_
      refine ax_iconst (v := (2)) dX10_ends_384 rfl ?_
      refine ax_iadd dX10_ends_385 ?_
      obtain ⟨x13, gx13, h⟩ := Option.bind_eq_some_iff.mp h
      refine ax_iald dX10_ends_386 gx13 ?_
      exact ax_less (L' := [(some (av_r a0)), none, none, none, none, (some (av_i a5)), (some (av_i a6)), (some (av_i a7)), none, none]) ⟨rfl, rfl, rfl, rfl, trivial⟩ (tb_X10_ends_387  h)
    · rw [if_neg c11] at h
      refine ax_iload (i := 4) dX10_ends_373 rfl ?_
      refine ax_goto (tgt := 387) dX10_ends_375 (by decide) ?_
      exact ax_less (L' := [(some (av_r a0)), none, none, none, none, (some (av_i a5)), (some (av_i a6)), (some (av_i a7)), none, none]) ⟨rfl, rfl, rfl, rfl, trivial⟩ (tb_X10_ends_387  h)
  · rw [if_neg c10] at h
    refine ax_iload_n (i := 2) dX10_ends_363 rfl rfl ?_
    refine ax_goto (tgt := 387) dX10_ends_364 (by decide) ?_
    exact ax_less (L' := [(some (av_r a0)), none, none, none, none, (some (av_i a5)), (some (av_i a6)), (some (av_i a7)), none, none]) ⟨rfl, rfl, rfl, rfl, trivial⟩ (tb_X10_ends_387  h)
def fb_X10_ends_312 (a0 : Option Nat) (a2 : Int32) (a3 : Int32) (a4 : Int32) (a5 : Int32) (a6 : Int32) (a7 : Int32) (a8 : Int32) (b0 : Option Nat) (b1 : Int32) (b2 : Int32) (s : ax_S) : Option (Int32 × ax_S) :=
  (ax_as s 9 b0 b1 b2).bind fun s14 =>
  (ax_gr s14 7 24 a0).bind fun r15 =>
  if a8 = 0 then
    if a6 ≤ (1) then
      (ax_gr s14 7 24 a0).bind fun r18 =>
      (ax_al s14 9 r18 (a7 + (1))).bind fun x19 =>
      fb_X10_ends_349 a0 a2 a4 a5 a6 a7 a8 r15 (a7 + (1)) x19 s14
    else
      fb_X10_ends_349 a0 a2 a4 a5 a6 a7 a8 r15 (a7 + (1)) a3 s14
  else
    fb_X10_ends_349 a0 a2 a4 a5 a6 a7 a8 r15 (a7 + (1)) a2 s14
set_option maxRecDepth 100000 in
set_option maxHeartbeats 4000000 in
theorem tb_X10_ends_312 {q : Int32 × ax_S} {a0 : Option Nat} {a2 : Int32} {a3 : Int32} {a4 : Int32} {a5 : Int32} {a6 : Int32} {a7 : Int32} {a8 : Int32} {b0 : Option Nat} {b1 : Int32} {b2 : Int32} {s : ax_S} (h : fb_X10_ends_312 a0 a2 a3 a4 a5 a6 a7 a8 b0 b1 b2 s = some q) : AW mm_X10_ends 3 0 0 312 [(some (av_r a0)), none, (some (av_i a2)), (some (av_i a3)), (some (av_i a4)), (some (av_i a5)), (some (av_i a6)), (some (av_i a7)), (some (av_i a8)), none] [av_i b2, av_i b1, av_r b0] s (some (av_i q.1), q.2) := by
  unfold fb_X10_ends_312 at h
  obtain ⟨s14, gs14, h⟩ := Option.bind_eq_some_iff.mp h
  refine ax_iast dX10_ends_312 gs14 ?_
  refine ax_aload_n (i := 0) dX10_ends_313 rfl rfl ?_
  obtain ⟨r15, gr15, h⟩ := Option.bind_eq_some_iff.mp h
  refine ax_getR (q := (RX10, TX10, 28)) (t := 7) (k := 24) dX10_ends_314 rfl (by decide) wd_785 rfl gr15 ?_
  refine ax_iload (i := 7) dX10_ends_317 rfl ?_
  refine ax_iconst (v := (1)) dX10_ends_319 rfl ?_
  refine ax_iadd dX10_ends_320 ?_
  refine ax_iload (i := 8) dX10_ends_321 rfl ?_
  refine ax_if_eq (tgt := 330) dX10_ends_323 (by decide) (fun c16 => ?_) (fun c16 => ?_)
  · rw [if_pos c16] at h
    refine ax_iload (i := 6) dX10_ends_330 rfl ?_
    refine ax_iconst (v := (1)) dX10_ends_332 rfl ?_
    refine ax_icmp_le (tgt := 340) dX10_ends_333 (by decide) (fun c17 => ?_) (fun c17 => ?_)
    · rw [if_pos c17] at h
      refine ax_aload_n (i := 0) dX10_ends_340 rfl rfl ?_
      obtain ⟨r18, gr18, h⟩ := Option.bind_eq_some_iff.mp h
      refine ax_getR (q := (RX10, TX10, 28)) (t := 7) (k := 24) dX10_ends_341 rfl (by decide) wd_785 rfl gr18 ?_
      refine ax_iload (i := 7) dX10_ends_344 rfl ?_
      refine ax_iconst (v := (1)) dX10_ends_346 rfl ?_
      refine ax_iadd dX10_ends_347 ?_
      obtain ⟨x19, gx19, h⟩ := Option.bind_eq_some_iff.mp h
      refine ax_iald dX10_ends_348 gx19 ?_
      exact ax_less (L' := [(some (av_r a0)), none, (some (av_i a2)), none, (some (av_i a4)), (some (av_i a5)), (some (av_i a6)), (some (av_i a7)), (some (av_i a8)), none]) ⟨rfl, rfl, rfl, rfl, rfl, rfl, rfl, trivial⟩ (tb_X10_ends_349  h)
    · rw [if_neg c17] at h
      refine ax_iload_n (i := 3) dX10_ends_336 rfl rfl ?_
      refine ax_goto (tgt := 349) dX10_ends_337 (by decide) ?_
      exact ax_less (L' := [(some (av_r a0)), none, (some (av_i a2)), none, (some (av_i a4)), (some (av_i a5)), (some (av_i a6)), (some (av_i a7)), (some (av_i a8)), none]) ⟨rfl, rfl, rfl, rfl, rfl, rfl, rfl, trivial⟩ (tb_X10_ends_349  h)
  · rw [if_neg c16] at h
    refine ax_iload_n (i := 2) dX10_ends_326 rfl rfl ?_
    refine ax_goto (tgt := 349) dX10_ends_327 (by decide) ?_
    exact ax_less (L' := [(some (av_r a0)), none, (some (av_i a2)), none, (some (av_i a4)), (some (av_i a5)), (some (av_i a6)), (some (av_i a7)), (some (av_i a8)), none]) ⟨rfl, rfl, rfl, rfl, rfl, rfl, rfl, trivial⟩ (tb_X10_ends_349  h)
def fb_X10_ends_288 (a0 : Option Nat) (a2 : Int32) (a3 : Int32) (a4 : Int32) (a5 : Int32) (a6 : Int32) (a7 : Int32) (b0 : Int32) (s : ax_S) : Option (Int32 × ax_S) :=
  (ax_gr s 7 24 a0).bind fun r20 =>
  if a6 ≤ 0 then
    (ax_gr s 7 24 a0).bind fun r22 =>
    (ax_al s 9 r22 a7).bind fun x23 =>
    fb_X10_ends_312 a0 a2 a3 a4 a5 a6 a7 b0 r20 a7 x23 s
  else
    fb_X10_ends_312 a0 a2 a3 a4 a5 a6 a7 b0 r20 a7 a2 s
set_option maxRecDepth 100000 in
set_option maxHeartbeats 4000000 in
theorem tb_X10_ends_288 {q : Int32 × ax_S} {a0 : Option Nat} {a2 : Int32} {a3 : Int32} {a4 : Int32} {a5 : Int32} {a6 : Int32} {a7 : Int32} {b0 : Int32} {s : ax_S} (h : fb_X10_ends_288 a0 a2 a3 a4 a5 a6 a7 b0 s = some q) : AW mm_X10_ends 3 0 0 288 [(some (av_r a0)), none, (some (av_i a2)), (some (av_i a3)), (some (av_i a4)), (some (av_i a5)), (some (av_i a6)), (some (av_i a7)), none, none] [av_i b0] s (some (av_i q.1), q.2) := by
  unfold fb_X10_ends_288 at h
  refine ax_istore (i := 8) (L2 := [some (av_r a0), none, some (av_i a2), some (av_i a3), some (av_i a4), some (av_i a5), some (av_i a6), some (av_i a7), some (av_i b0), none]) dX10_ends_288 (by decide) rfl rfl ?_
  refine ax_aload_n (i := 0) dX10_ends_290 rfl rfl ?_
  obtain ⟨r20, gr20, h⟩ := Option.bind_eq_some_iff.mp h
  refine ax_getR (q := (RX10, TX10, 28)) (t := 7) (k := 24) dX10_ends_291 rfl (by decide) wd_785 rfl gr20 ?_
  refine ax_iload (i := 7) dX10_ends_294 rfl ?_
  refine ax_iload (i := 6) dX10_ends_296 rfl ?_
  refine ax_if_le (tgt := 305) dX10_ends_298 (by decide) (fun c21 => ?_) (fun c21 => ?_)
  · rw [if_pos c21] at h
    refine ax_aload_n (i := 0) dX10_ends_305 rfl rfl ?_
    obtain ⟨r22, gr22, h⟩ := Option.bind_eq_some_iff.mp h
    refine ax_getR (q := (RX10, TX10, 28)) (t := 7) (k := 24) dX10_ends_306 rfl (by decide) wd_785 rfl gr22 ?_
    refine ax_iload (i := 7) dX10_ends_309 rfl ?_
    obtain ⟨x23, gx23, h⟩ := Option.bind_eq_some_iff.mp h
    refine ax_iald dX10_ends_311 gx23 ?_
    exact ax_less (L' := [(some (av_r a0)), none, (some (av_i a2)), (some (av_i a3)), (some (av_i a4)), (some (av_i a5)), (some (av_i a6)), (some (av_i a7)), (some (av_i b0)), none]) ⟨rfl, rfl, rfl, rfl, rfl, rfl, rfl, rfl, trivial⟩ (tb_X10_ends_312  h)
  · rw [if_neg c21] at h
    refine ax_iload_n (i := 2) dX10_ends_301 rfl rfl ?_
    refine ax_goto (tgt := 312) dX10_ends_302 (by decide) ?_
    exact ax_less (L' := [(some (av_r a0)), none, (some (av_i a2)), (some (av_i a3)), (some (av_i a4)), (some (av_i a5)), (some (av_i a6)), (some (av_i a7)), (some (av_i b0)), none]) ⟨rfl, rfl, rfl, rfl, rfl, rfl, rfl, rfl, trivial⟩ (tb_X10_ends_312  h)
def fb_X10_ends_283 (a0 : Option Nat) (a2 : Int32) (a3 : Int32) (a4 : Int32) (a5 : Int32) (a6 : Int32) (a7 : Int32) (s : ax_S) : Option (Int32 × ax_S) :=
  fb_X10_ends_288 a0 a2 a3 a4 a5 a6 a7 (1) s
set_option maxRecDepth 100000 in
set_option maxHeartbeats 4000000 in
theorem tb_X10_ends_283 {q : Int32 × ax_S} {a0 : Option Nat} {a2 : Int32} {a3 : Int32} {a4 : Int32} {a5 : Int32} {a6 : Int32} {a7 : Int32} {s : ax_S} (h : fb_X10_ends_283 a0 a2 a3 a4 a5 a6 a7 s = some q) : AW mm_X10_ends 3 0 0 283 [(some (av_r a0)), none, (some (av_i a2)), (some (av_i a3)), (some (av_i a4)), (some (av_i a5)), (some (av_i a6)), (some (av_i a7)), none, none] [] s (some (av_i q.1), q.2) := by
  unfold fb_X10_ends_283 at h
  refine ax_iconst (v := (1)) dX10_ends_283 rfl ?_
  refine ax_goto (tgt := 288) dX10_ends_284 (by decide) ?_
  exact ax_less (L' := [(some (av_r a0)), none, (some (av_i a2)), (some (av_i a3)), (some (av_i a4)), (some (av_i a5)), (some (av_i a6)), (some (av_i a7)), none, none]) ⟨rfl, rfl, rfl, rfl, rfl, rfl, rfl, trivial⟩ (tb_X10_ends_288  h)
def fb_X10_ends_223 (k98 : Option Nat → Int32 → Int32 → Int32 → Int32 → Int32 → Int32 → Int32 → ax_S → Option (Int32 × ax_S)) (a0 : Option Nat) (a1 : Int32) (a2 : Int32) (a3 : Int32) (a5 : Int32) (a6 : Int32) (a7 : Int32) (a9 : Int32) (b0 : Int32) (s : ax_S) : Option (Int32 × ax_S) :=
  if a7 = (3) then
    k98 a0 a1 a2 a3 b0 a9 a6 (a7 + (1)) s
  else
    k98 a0 a1 a2 a3 b0 a5 a6 (a7 + (1)) s
set_option maxRecDepth 100000 in
set_option maxHeartbeats 4000000 in
theorem tb_X10_ends_223 {q : Int32 × ax_S} {k98 : Option Nat → Int32 → Int32 → Int32 → Int32 → Int32 → Int32 → Int32 → ax_S → Option (Int32 × ax_S)} (hk98 : ∀ (a0 : Option Nat) (a1 : Int32) (a2 : Int32) (a3 : Int32) (a4 : Int32) (a5 : Int32) (a6 : Int32) (a7 : Int32) (s : ax_S), k98 a0 a1 a2 a3 a4 a5 a6 a7 s = some q → AW mm_X10_ends 3 0 0 98 [(some (av_r a0)), (some (av_i a1)), (some (av_i a2)), (some (av_i a3)), (some (av_i a4)), (some (av_i a5)), (some (av_i a6)), (some (av_i a7)), none, none] [] s (some (av_i q.1), q.2)) {a0 : Option Nat} {a1 : Int32} {a2 : Int32} {a3 : Int32} {a5 : Int32} {a6 : Int32} {a7 : Int32} {a9 : Int32} {b0 : Int32} {s : ax_S} (h : fb_X10_ends_223 k98 a0 a1 a2 a3 a5 a6 a7 a9 b0 s = some q) : AW mm_X10_ends 3 0 0 223 [(some (av_r a0)), (some (av_i a1)), (some (av_i a2)), (some (av_i a3)), none, (some (av_i a5)), (some (av_i a6)), (some (av_i a7)), none, (some (av_i a9))] [av_i b0] s (some (av_i q.1), q.2) := by
  unfold fb_X10_ends_223 at h
  refine ax_istore (i := 4) (L2 := [some (av_r a0), some (av_i a1), some (av_i a2), some (av_i a3), some (av_i b0), some (av_i a5), some (av_i a6), some (av_i a7), none, some (av_i a9)]) dX10_ends_223 (by decide) rfl rfl ?_
  refine ax_iload (i := 7) dX10_ends_225 rfl ?_
  refine ax_iconst (v := (3)) dX10_ends_227 rfl ?_
  refine ax_icmp_ne (tgt := 236) dX10_ends_228 (by decide) (fun c24 => ?_) (fun c24 => ?_)
  · rw [if_neg c24] at h
    refine ax_iload (i := 5) dX10_ends_236 rfl ?_
    refine ax_istore (i := 5) (L2 := [some (av_r a0), some (av_i a1), some (av_i a2), some (av_i a3), some (av_i b0), some (av_i a5), some (av_i a6), some (av_i a7), none, some (av_i a9)]) dX10_ends_238 (by decide) rfl rfl ?_
    refine ax_iinc (i := 7) (v := (a7 + (1))) (L2 := [some (av_r a0), some (av_i a1), some (av_i a2), some (av_i a3), some (av_i b0), some (av_i a5), some (av_i a6), some (av_i (a7 + (1))), none, some (av_i a9)]) dX10_ends_240 rfl rfl (by decide) rfl rfl ?_
    refine ax_goto (tgt := 98) dX10_ends_243 (by decide) ?_
    exact ax_less (L' := [(some (av_r a0)), (some (av_i a1)), (some (av_i a2)), (some (av_i a3)), (some (av_i b0)), (some (av_i a5)), (some (av_i a6)), (some (av_i (a7 + (1)))), none, none]) ⟨rfl, rfl, rfl, rfl, rfl, rfl, rfl, rfl, trivial⟩ (hk98 _ _ _ _ _ _ _ _ _ h)
  · rw [if_pos c24] at h
    refine ax_iload (i := 9) dX10_ends_231 rfl ?_
    refine ax_goto (tgt := 238) dX10_ends_233 (by decide) ?_
    refine ax_istore (i := 5) (L2 := [some (av_r a0), some (av_i a1), some (av_i a2), some (av_i a3), some (av_i b0), some (av_i a9), some (av_i a6), some (av_i a7), none, some (av_i a9)]) dX10_ends_238 (by decide) rfl rfl ?_
    refine ax_iinc (i := 7) (v := (a7 + (1))) (L2 := [some (av_r a0), some (av_i a1), some (av_i a2), some (av_i a3), some (av_i b0), some (av_i a9), some (av_i a6), some (av_i (a7 + (1))), none, some (av_i a9)]) dX10_ends_240 rfl rfl (by decide) rfl rfl ?_
    refine ax_goto (tgt := 98) dX10_ends_243 (by decide) ?_
    exact ax_less (L' := [(some (av_r a0)), (some (av_i a1)), (some (av_i a2)), (some (av_i a3)), (some (av_i b0)), (some (av_i a9)), (some (av_i a6)), (some (av_i (a7 + (1)))), none, none]) ⟨rfl, rfl, rfl, rfl, rfl, rfl, rfl, rfl, trivial⟩ (hk98 _ _ _ _ _ _ _ _ _ h)
def fb_X10_ends_209 (k98 : Option Nat → Int32 → Int32 → Int32 → Int32 → Int32 → Int32 → Int32 → ax_S → Option (Int32 × ax_S)) (a0 : Option Nat) (a1 : Int32) (a2 : Int32) (a4 : Int32) (a5 : Int32) (a6 : Int32) (a7 : Int32) (a9 : Int32) (b0 : Int32) (s : ax_S) : Option (Int32 × ax_S) :=
  if a7 = (2) then
    fb_X10_ends_223 k98 a0 a1 a2 b0 a5 a6 a7 a9 a9 s
  else
    fb_X10_ends_223 k98 a0 a1 a2 b0 a5 a6 a7 a9 a4 s
set_option maxRecDepth 100000 in
set_option maxHeartbeats 4000000 in
theorem tb_X10_ends_209 {q : Int32 × ax_S} {k98 : Option Nat → Int32 → Int32 → Int32 → Int32 → Int32 → Int32 → Int32 → ax_S → Option (Int32 × ax_S)} (hk98 : ∀ (a0 : Option Nat) (a1 : Int32) (a2 : Int32) (a3 : Int32) (a4 : Int32) (a5 : Int32) (a6 : Int32) (a7 : Int32) (s : ax_S), k98 a0 a1 a2 a3 a4 a5 a6 a7 s = some q → AW mm_X10_ends 3 0 0 98 [(some (av_r a0)), (some (av_i a1)), (some (av_i a2)), (some (av_i a3)), (some (av_i a4)), (some (av_i a5)), (some (av_i a6)), (some (av_i a7)), none, none] [] s (some (av_i q.1), q.2)) {a0 : Option Nat} {a1 : Int32} {a2 : Int32} {a4 : Int32} {a5 : Int32} {a6 : Int32} {a7 : Int32} {a9 : Int32} {b0 : Int32} {s : ax_S} (h : fb_X10_ends_209 k98 a0 a1 a2 a4 a5 a6 a7 a9 b0 s = some q) : AW mm_X10_ends 3 0 0 209 [(some (av_r a0)), (some (av_i a1)), (some (av_i a2)), none, (some (av_i a4)), (some (av_i a5)), (some (av_i a6)), (some (av_i a7)), none, (some (av_i a9))] [av_i b0] s (some (av_i q.1), q.2) := by
  unfold fb_X10_ends_209 at h
  refine ax_istore_n (i := 3) (L2 := [some (av_r a0), some (av_i a1), some (av_i a2), some (av_i b0), some (av_i a4), some (av_i a5), some (av_i a6), some (av_i a7), none, some (av_i a9)]) dX10_ends_209 rfl (by decide) rfl rfl ?_
  refine ax_iload (i := 7) dX10_ends_210 rfl ?_
  refine ax_iconst (v := (2)) dX10_ends_212 rfl ?_
  refine ax_icmp_ne (tgt := 221) dX10_ends_213 (by decide) (fun c25 => ?_) (fun c25 => ?_)
  · rw [if_neg c25] at h
    refine ax_iload (i := 4) dX10_ends_221 rfl ?_
    exact ax_less (L' := [(some (av_r a0)), (some (av_i a1)), (some (av_i a2)), (some (av_i b0)), none, (some (av_i a5)), (some (av_i a6)), (some (av_i a7)), none, (some (av_i a9))]) ⟨rfl, rfl, rfl, rfl, rfl, rfl, rfl, rfl, trivial⟩ (tb_X10_ends_223 hk98 h)
  · rw [if_pos c25] at h
    refine ax_iload (i := 9) dX10_ends_216 rfl ?_
    refine ax_goto (tgt := 223) dX10_ends_218 (by decide) ?_
    exact ax_less (L' := [(some (av_r a0)), (some (av_i a1)), (some (av_i a2)), (some (av_i b0)), none, (some (av_i a5)), (some (av_i a6)), (some (av_i a7)), none, (some (av_i a9))]) ⟨rfl, rfl, rfl, rfl, rfl, rfl, rfl, rfl, trivial⟩ (tb_X10_ends_223 hk98 h)
def fb_X10_ends_196 (k98 : Option Nat → Int32 → Int32 → Int32 → Int32 → Int32 → Int32 → Int32 → ax_S → Option (Int32 × ax_S)) (a0 : Option Nat) (a1 : Int32) (a3 : Int32) (a4 : Int32) (a5 : Int32) (a6 : Int32) (a7 : Int32) (a9 : Int32) (b0 : Int32) (s : ax_S) : Option (Int32 × ax_S) :=
  if a7 = (1) then
    fb_X10_ends_209 k98 a0 a1 b0 a4 a5 a6 a7 a9 a9 s
  else
    fb_X10_ends_209 k98 a0 a1 b0 a4 a5 a6 a7 a9 a3 s
set_option maxRecDepth 100000 in
set_option maxHeartbeats 4000000 in
theorem tb_X10_ends_196 {q : Int32 × ax_S} {k98 : Option Nat → Int32 → Int32 → Int32 → Int32 → Int32 → Int32 → Int32 → ax_S → Option (Int32 × ax_S)} (hk98 : ∀ (a0 : Option Nat) (a1 : Int32) (a2 : Int32) (a3 : Int32) (a4 : Int32) (a5 : Int32) (a6 : Int32) (a7 : Int32) (s : ax_S), k98 a0 a1 a2 a3 a4 a5 a6 a7 s = some q → AW mm_X10_ends 3 0 0 98 [(some (av_r a0)), (some (av_i a1)), (some (av_i a2)), (some (av_i a3)), (some (av_i a4)), (some (av_i a5)), (some (av_i a6)), (some (av_i a7)), none, none] [] s (some (av_i q.1), q.2)) {a0 : Option Nat} {a1 : Int32} {a3 : Int32} {a4 : Int32} {a5 : Int32} {a6 : Int32} {a7 : Int32} {a9 : Int32} {b0 : Int32} {s : ax_S} (h : fb_X10_ends_196 k98 a0 a1 a3 a4 a5 a6 a7 a9 b0 s = some q) : AW mm_X10_ends 3 0 0 196 [(some (av_r a0)), (some (av_i a1)), none, (some (av_i a3)), (some (av_i a4)), (some (av_i a5)), (some (av_i a6)), (some (av_i a7)), none, (some (av_i a9))] [av_i b0] s (some (av_i q.1), q.2) := by
  unfold fb_X10_ends_196 at h
  refine ax_istore_n (i := 2) (L2 := [some (av_r a0), some (av_i a1), some (av_i b0), some (av_i a3), some (av_i a4), some (av_i a5), some (av_i a6), some (av_i a7), none, some (av_i a9)]) dX10_ends_196 rfl (by decide) rfl rfl ?_
  refine ax_iload (i := 7) dX10_ends_197 rfl ?_
  refine ax_iconst (v := (1)) dX10_ends_199 rfl ?_
  refine ax_icmp_ne (tgt := 208) dX10_ends_200 (by decide) (fun c26 => ?_) (fun c26 => ?_)
  · rw [if_neg c26] at h
    refine ax_iload_n (i := 3) dX10_ends_208 rfl rfl ?_
    exact ax_less (L' := [(some (av_r a0)), (some (av_i a1)), (some (av_i b0)), none, (some (av_i a4)), (some (av_i a5)), (some (av_i a6)), (some (av_i a7)), none, (some (av_i a9))]) ⟨rfl, rfl, rfl, rfl, rfl, rfl, rfl, rfl, trivial⟩ (tb_X10_ends_209 hk98 h)
  · rw [if_pos c26] at h
    refine ax_iload (i := 9) dX10_ends_203 rfl ?_
    refine ax_goto (tgt := 209) dX10_ends_205 (by decide) ?_
    exact ax_less (L' := [(some (av_r a0)), (some (av_i a1)), (some (av_i b0)), none, (some (av_i a4)), (some (av_i a5)), (some (av_i a6)), (some (av_i a7)), none, (some (av_i a9))]) ⟨rfl, rfl, rfl, rfl, rfl, rfl, rfl, rfl, trivial⟩ (tb_X10_ends_209 hk98 h)
def fb_X10_ends_183 (k98 : Option Nat → Int32 → Int32 → Int32 → Int32 → Int32 → Int32 → Int32 → ax_S → Option (Int32 × ax_S)) (a0 : Option Nat) (a1 : Int32) (a2 : Int32) (a3 : Int32) (a4 : Int32) (a5 : Int32) (a6 : Int32) (a7 : Int32) (b0 : Int32) (s : ax_S) : Option (Int32 × ax_S) :=
  if a7 = 0 then
    fb_X10_ends_196 k98 a0 a1 a3 a4 a5 a6 a7 b0 b0 s
  else
    fb_X10_ends_196 k98 a0 a1 a3 a4 a5 a6 a7 b0 a2 s
set_option maxRecDepth 100000 in
set_option maxHeartbeats 4000000 in
theorem tb_X10_ends_183 {q : Int32 × ax_S} {k98 : Option Nat → Int32 → Int32 → Int32 → Int32 → Int32 → Int32 → Int32 → ax_S → Option (Int32 × ax_S)} (hk98 : ∀ (a0 : Option Nat) (a1 : Int32) (a2 : Int32) (a3 : Int32) (a4 : Int32) (a5 : Int32) (a6 : Int32) (a7 : Int32) (s : ax_S), k98 a0 a1 a2 a3 a4 a5 a6 a7 s = some q → AW mm_X10_ends 3 0 0 98 [(some (av_r a0)), (some (av_i a1)), (some (av_i a2)), (some (av_i a3)), (some (av_i a4)), (some (av_i a5)), (some (av_i a6)), (some (av_i a7)), none, none] [] s (some (av_i q.1), q.2)) {a0 : Option Nat} {a1 : Int32} {a2 : Int32} {a3 : Int32} {a4 : Int32} {a5 : Int32} {a6 : Int32} {a7 : Int32} {b0 : Int32} {s : ax_S} (h : fb_X10_ends_183 k98 a0 a1 a2 a3 a4 a5 a6 a7 b0 s = some q) : AW mm_X10_ends 3 0 0 183 [(some (av_r a0)), (some (av_i a1)), (some (av_i a2)), (some (av_i a3)), (some (av_i a4)), (some (av_i a5)), (some (av_i a6)), (some (av_i a7)), none, none] [av_i b0] s (some (av_i q.1), q.2) := by
  unfold fb_X10_ends_183 at h
  refine ax_istore (i := 9) (L2 := [some (av_r a0), some (av_i a1), some (av_i a2), some (av_i a3), some (av_i a4), some (av_i a5), some (av_i a6), some (av_i a7), none, some (av_i b0)]) dX10_ends_183 (by decide) rfl rfl ?_
  refine ax_iload (i := 7) dX10_ends_185 rfl ?_
  refine ax_if_ne (tgt := 195) dX10_ends_187 (by decide) (fun c27 => ?_) (fun c27 => ?_)
  · rw [if_neg c27] at h
    refine ax_iload_n (i := 2) dX10_ends_195 rfl rfl ?_
    exact ax_less (L' := [(some (av_r a0)), (some (av_i a1)), none, (some (av_i a3)), (some (av_i a4)), (some (av_i a5)), (some (av_i a6)), (some (av_i a7)), none, (some (av_i b0))]) ⟨rfl, rfl, rfl, rfl, rfl, rfl, rfl, rfl, trivial⟩ (tb_X10_ends_196 hk98 h)
  · rw [if_pos c27] at h
    refine ax_iload (i := 9) dX10_ends_190 rfl ?_
    refine ax_goto (tgt := 196) dX10_ends_192 (by decide) ?_
    exact ax_less (L' := [(some (av_r a0)), (some (av_i a1)), none, (some (av_i a3)), (some (av_i a4)), (some (av_i a5)), (some (av_i a6)), (some (av_i a7)), none, (some (av_i b0))]) ⟨rfl, rfl, rfl, rfl, rfl, rfl, rfl, rfl, trivial⟩ (tb_X10_ends_196 hk98 h)
def fb_X10_ends_152 (k98 : Option Nat → Int32 → Int32 → Int32 → Int32 → Int32 → Int32 → Int32 → ax_S → Option (Int32 × ax_S)) (a0 : Option Nat) (a1 : Int32) (a2 : Int32) (a3 : Int32) (a4 : Int32) (a5 : Int32) (a6 : Int32) (a7 : Int32) (a8 : Int32) (b0 : Option Nat) (b1 : Int32) (s : ax_S) : Option (Int32 × ax_S) :=
  (fn_X10_high a1 a7 s).bind fun q28 =>
  (ax_sh q28.2 7 b0).bind fun w29 =>
  (fn_X10_number b0 b1 q28.1 q28.2).bind fun q30 =>
  if q30.1 = 0 then
    some ((0), q30.2)
  else
    if a8 = 0 then
      (ax_gi q30.2 7 21 a0).bind fun x33 =>
      fb_X10_ends_183 k98 a0 a1 a2 a3 a4 a5 a6 a7 x33 q30.2
    else
      (ax_gi q30.2 7 21 a0).bind fun x34 =>
      fb_X10_ends_183 k98 a0 a1 a2 a3 a4 a5 a6 a7 (-x34) q30.2
set_option maxRecDepth 100000 in
set_option maxHeartbeats 4000000 in
theorem tb_X10_ends_152 {q : Int32 × ax_S} {k98 : Option Nat → Int32 → Int32 → Int32 → Int32 → Int32 → Int32 → Int32 → ax_S → Option (Int32 × ax_S)} (hk98 : ∀ (a0 : Option Nat) (a1 : Int32) (a2 : Int32) (a3 : Int32) (a4 : Int32) (a5 : Int32) (a6 : Int32) (a7 : Int32) (s : ax_S), k98 a0 a1 a2 a3 a4 a5 a6 a7 s = some q → AW mm_X10_ends 3 0 0 98 [(some (av_r a0)), (some (av_i a1)), (some (av_i a2)), (some (av_i a3)), (some (av_i a4)), (some (av_i a5)), (some (av_i a6)), (some (av_i a7)), none, none] [] s (some (av_i q.1), q.2)) {a0 : Option Nat} {a1 : Int32} {a2 : Int32} {a3 : Int32} {a4 : Int32} {a5 : Int32} {a6 : Int32} {a7 : Int32} {a8 : Int32} {b0 : Option Nat} {b1 : Int32} {s : ax_S} (h : fb_X10_ends_152 k98 a0 a1 a2 a3 a4 a5 a6 a7 a8 b0 b1 s = some q) : AW mm_X10_ends 3 0 0 152 [(some (av_r a0)), (some (av_i a1)), (some (av_i a2)), (some (av_i a3)), (some (av_i a4)), (some (av_i a5)), (some (av_i a6)), (some (av_i a7)), (some (av_i a8)), none] [av_i b1, av_r b0] s (some (av_i q.1), q.2) := by
  unfold fb_X10_ends_152 at h
  refine ax_iload_n (i := 1) dX10_ends_152 rfl rfl ?_
  refine ax_iload (i := 7) dX10_ends_153 rfl ?_
  obtain ⟨q28, gq28, h⟩ := Option.bind_eq_some_iff.mp h
  refine ax_cS (As := [av_i a1, av_i a7]) dX10_ends_155 (th_X10_high gq28) (And.intro wd_908 wd_60) wd_906 wd_907 cy_X10_high (by omega) (by decide) (Nat.le_of_ble_eq_true rfl) rfl ?_
  obtain ⟨w29, gw29, h⟩ := Option.bind_eq_some_iff.mp h
  obtain ⟨q30, gq30, h⟩ := Option.bind_eq_some_iff.mp h
  refine ax_cV (As := [av_i b1, av_i q28.1]) (t := 7) dX10_ends_158 gw29 (th_X10_number gq30) rfl (And.intro wd_1077 wd_60) wd_1074 wd_1076 wd_49 cy_X10_number (by omega) (by decide) (Nat.le_of_ble_eq_true rfl) rfl ?_
  refine ax_if_ne (tgt := 166) dX10_ends_161 (by decide) (fun c31 => ?_) (fun c31 => ?_)
  · rw [if_neg c31] at h
    refine ax_iload (i := 8) dX10_ends_166 rfl ?_
    refine ax_if_eq (tgt := 179) dX10_ends_168 (by decide) (fun c32 => ?_) (fun c32 => ?_)
    · rw [if_pos c32] at h
      refine ax_aload_n (i := 0) dX10_ends_179 rfl rfl ?_
      obtain ⟨x33, gx33, h⟩ := Option.bind_eq_some_iff.mp h
      refine ax_getI (q := (RX10, TX10, 28)) (t := 7) (k := 21) dX10_ends_180 rfl (by decide) wd_782 rfl gx33 ?_
      exact ax_less (L' := [(some (av_r a0)), (some (av_i a1)), (some (av_i a2)), (some (av_i a3)), (some (av_i a4)), (some (av_i a5)), (some (av_i a6)), (some (av_i a7)), none, none]) ⟨rfl, rfl, rfl, rfl, rfl, rfl, rfl, rfl, trivial⟩ (tb_X10_ends_183 hk98 h)
    · rw [if_neg c32] at h
      refine ax_aload_n (i := 0) dX10_ends_171 rfl rfl ?_
      obtain ⟨x34, gx34, h⟩ := Option.bind_eq_some_iff.mp h
      refine ax_getI (q := (RX10, TX10, 28)) (t := 7) (k := 21) dX10_ends_172 rfl (by decide) wd_782 rfl gx34 ?_
      refine ax_ineg dX10_ends_175 ?_
      refine ax_goto (tgt := 183) dX10_ends_176 (by decide) ?_
      exact ax_less (L' := [(some (av_r a0)), (some (av_i a1)), (some (av_i a2)), (some (av_i a3)), (some (av_i a4)), (some (av_i a5)), (some (av_i a6)), (some (av_i a7)), none, none]) ⟨rfl, rfl, rfl, rfl, rfl, rfl, rfl, rfl, trivial⟩ (tb_X10_ends_183 hk98 h)
  · rw [if_pos c31] at h
    refine ax_iconst (v := (0)) dX10_ends_164 rfl ?_
    exact ax_reti dX10_ends_165 h
def fb_X10_ends_139 (k98 : Option Nat → Int32 → Int32 → Int32 → Int32 → Int32 → Int32 → Int32 → ax_S → Option (Int32 × ax_S)) (a0 : Option Nat) (a1 : Int32) (a2 : Int32) (a3 : Int32) (a4 : Int32) (a5 : Int32) (a6 : Int32) (a7 : Int32) (b0 : Int32) (s : ax_S) : Option (Int32 × ax_S) :=
  if b0 = 0 then
    fb_X10_ends_152 k98 a0 a1 a2 a3 a4 a5 a6 a7 b0 a0 (0) s
  else
    fb_X10_ends_152 k98 a0 a1 a2 a3 a4 a5 a6 a7 b0 a0 (1) s
set_option maxRecDepth 100000 in
set_option maxHeartbeats 4000000 in
theorem tb_X10_ends_139 {q : Int32 × ax_S} {k98 : Option Nat → Int32 → Int32 → Int32 → Int32 → Int32 → Int32 → Int32 → ax_S → Option (Int32 × ax_S)} (hk98 : ∀ (a0 : Option Nat) (a1 : Int32) (a2 : Int32) (a3 : Int32) (a4 : Int32) (a5 : Int32) (a6 : Int32) (a7 : Int32) (s : ax_S), k98 a0 a1 a2 a3 a4 a5 a6 a7 s = some q → AW mm_X10_ends 3 0 0 98 [(some (av_r a0)), (some (av_i a1)), (some (av_i a2)), (some (av_i a3)), (some (av_i a4)), (some (av_i a5)), (some (av_i a6)), (some (av_i a7)), none, none] [] s (some (av_i q.1), q.2)) {a0 : Option Nat} {a1 : Int32} {a2 : Int32} {a3 : Int32} {a4 : Int32} {a5 : Int32} {a6 : Int32} {a7 : Int32} {b0 : Int32} {s : ax_S} (h : fb_X10_ends_139 k98 a0 a1 a2 a3 a4 a5 a6 a7 b0 s = some q) : AW mm_X10_ends 3 0 0 139 [(some (av_r a0)), (some (av_i a1)), (some (av_i a2)), (some (av_i a3)), (some (av_i a4)), (some (av_i a5)), (some (av_i a6)), (some (av_i a7)), none, none] [av_i b0] s (some (av_i q.1), q.2) := by
  unfold fb_X10_ends_139 at h
  refine ax_istore (i := 8) (L2 := [some (av_r a0), some (av_i a1), some (av_i a2), some (av_i a3), some (av_i a4), some (av_i a5), some (av_i a6), some (av_i a7), some (av_i b0), none]) dX10_ends_139 (by decide) rfl rfl ?_
  refine ax_aload_n (i := 0) dX10_ends_141 rfl rfl ?_
  refine ax_iload (i := 8) dX10_ends_142 rfl ?_
  refine ax_if_eq (tgt := 151) dX10_ends_144 (by decide) (fun c35 => ?_) (fun c35 => ?_)
  · rw [if_pos c35] at h
    refine ax_iconst (v := (0)) dX10_ends_151 rfl ?_
    exact ax_less (L' := [(some (av_r a0)), (some (av_i a1)), (some (av_i a2)), (some (av_i a3)), (some (av_i a4)), (some (av_i a5)), (some (av_i a6)), (some (av_i a7)), (some (av_i b0)), none]) ⟨rfl, rfl, rfl, rfl, rfl, rfl, rfl, rfl, rfl, trivial⟩ (tb_X10_ends_152 hk98 h)
  · rw [if_neg c35] at h
    refine ax_iconst (v := (1)) dX10_ends_147 rfl ?_
    refine ax_goto (tgt := 152) dX10_ends_148 (by decide) ?_
    exact ax_less (L' := [(some (av_r a0)), (some (av_i a1)), (some (av_i a2)), (some (av_i a3)), (some (av_i a4)), (some (av_i a5)), (some (av_i a6)), (some (av_i a7)), (some (av_i b0)), none]) ⟨rfl, rfl, rfl, rfl, rfl, rfl, rfl, rfl, rfl, trivial⟩ (tb_X10_ends_152 hk98 h)
def fb_X10_ends_138 (k98 : Option Nat → Int32 → Int32 → Int32 → Int32 → Int32 → Int32 → Int32 → ax_S → Option (Int32 × ax_S)) (a0 : Option Nat) (a1 : Int32) (a2 : Int32) (a3 : Int32) (a4 : Int32) (a5 : Int32) (a6 : Int32) (a7 : Int32) (s : ax_S) : Option (Int32 × ax_S) :=
  fb_X10_ends_139 k98 a0 a1 a2 a3 a4 a5 a6 a7 (0) s
set_option maxRecDepth 100000 in
set_option maxHeartbeats 4000000 in
theorem tb_X10_ends_138 {q : Int32 × ax_S} {k98 : Option Nat → Int32 → Int32 → Int32 → Int32 → Int32 → Int32 → Int32 → ax_S → Option (Int32 × ax_S)} (hk98 : ∀ (a0 : Option Nat) (a1 : Int32) (a2 : Int32) (a3 : Int32) (a4 : Int32) (a5 : Int32) (a6 : Int32) (a7 : Int32) (s : ax_S), k98 a0 a1 a2 a3 a4 a5 a6 a7 s = some q → AW mm_X10_ends 3 0 0 98 [(some (av_r a0)), (some (av_i a1)), (some (av_i a2)), (some (av_i a3)), (some (av_i a4)), (some (av_i a5)), (some (av_i a6)), (some (av_i a7)), none, none] [] s (some (av_i q.1), q.2)) {a0 : Option Nat} {a1 : Int32} {a2 : Int32} {a3 : Int32} {a4 : Int32} {a5 : Int32} {a6 : Int32} {a7 : Int32} {s : ax_S} (h : fb_X10_ends_138 k98 a0 a1 a2 a3 a4 a5 a6 a7 s = some q) : AW mm_X10_ends 3 0 0 138 [(some (av_r a0)), (some (av_i a1)), (some (av_i a2)), (some (av_i a3)), (some (av_i a4)), (some (av_i a5)), (some (av_i a6)), (some (av_i a7)), none, none] [] s (some (av_i q.1), q.2) := by
  unfold fb_X10_ends_138 at h
  refine ax_iconst (v := (0)) dX10_ends_138 rfl ?_
  exact ax_less (L' := [(some (av_r a0)), (some (av_i a1)), (some (av_i a2)), (some (av_i a3)), (some (av_i a4)), (some (av_i a5)), (some (av_i a6)), (some (av_i a7)), none, none]) ⟨rfl, rfl, rfl, rfl, rfl, rfl, rfl, rfl, trivial⟩ (tb_X10_ends_139 hk98 h)
def fb_X10_ends_120 (k98 : Option Nat → Int32 → Int32 → Int32 → Int32 → Int32 → Int32 → Int32 → ax_S → Option (Int32 × ax_S)) (a0 : Option Nat) (a1 : Int32) (a2 : Int32) (a3 : Int32) (a4 : Int32) (a5 : Int32) (a6 : Int32) (a7 : Int32) (s : ax_S) : Option (Int32 × ax_S) :=
  if a1 = (2) then
    (ax_sh s 7 a0).bind fun w37 =>
    (fn_X10_takes a0 (45) s).bind fun q38 =>
    if q38.1 = 0 then
      fb_X10_ends_138 k98 a0 a1 a2 a3 a4 a5 a6 a7 q38.2
    else
      fb_X10_ends_139 k98 a0 a1 a2 a3 a4 a5 a6 a7 (1) q38.2
  else
    fb_X10_ends_138 k98 a0 a1 a2 a3 a4 a5 a6 a7 s
set_option maxRecDepth 100000 in
set_option maxHeartbeats 4000000 in
theorem tb_X10_ends_120 {q : Int32 × ax_S} {k98 : Option Nat → Int32 → Int32 → Int32 → Int32 → Int32 → Int32 → Int32 → ax_S → Option (Int32 × ax_S)} (hk98 : ∀ (a0 : Option Nat) (a1 : Int32) (a2 : Int32) (a3 : Int32) (a4 : Int32) (a5 : Int32) (a6 : Int32) (a7 : Int32) (s : ax_S), k98 a0 a1 a2 a3 a4 a5 a6 a7 s = some q → AW mm_X10_ends 3 0 0 98 [(some (av_r a0)), (some (av_i a1)), (some (av_i a2)), (some (av_i a3)), (some (av_i a4)), (some (av_i a5)), (some (av_i a6)), (some (av_i a7)), none, none] [] s (some (av_i q.1), q.2)) {a0 : Option Nat} {a1 : Int32} {a2 : Int32} {a3 : Int32} {a4 : Int32} {a5 : Int32} {a6 : Int32} {a7 : Int32} {s : ax_S} (h : fb_X10_ends_120 k98 a0 a1 a2 a3 a4 a5 a6 a7 s = some q) : AW mm_X10_ends 3 0 0 120 [(some (av_r a0)), (some (av_i a1)), (some (av_i a2)), (some (av_i a3)), (some (av_i a4)), (some (av_i a5)), (some (av_i a6)), (some (av_i a7)), none, none] [] s (some (av_i q.1), q.2) := by
  unfold fb_X10_ends_120 at h
  refine ax_iload_n (i := 1) dX10_ends_120 rfl rfl ?_
  refine ax_iconst (v := (2)) dX10_ends_121 rfl ?_
  refine ax_icmp_ne (tgt := 138) dX10_ends_122 (by decide) (fun c36 => ?_) (fun c36 => ?_)
  · rw [if_neg c36] at h
    exact ax_less (L' := [(some (av_r a0)), (some (av_i a1)), (some (av_i a2)), (some (av_i a3)), (some (av_i a4)), (some (av_i a5)), (some (av_i a6)), (some (av_i a7)), none, none]) ⟨rfl, rfl, rfl, rfl, rfl, rfl, rfl, rfl, trivial⟩ (tb_X10_ends_138 hk98 h)
  · rw [if_pos c36] at h
    refine ax_aload_n (i := 0) dX10_ends_125 rfl rfl ?_
    refine ax_bipush (v := (45)) dX10_ends_126 rfl ?_
    obtain ⟨w37, gw37, h⟩ := Option.bind_eq_some_iff.mp h
    obtain ⟨q38, gq38, h⟩ := Option.bind_eq_some_iff.mp h
    refine ax_cV (As := [av_i (45)]) (t := 7) dX10_ends_128 gw37 (th_X10_takes gq38) rfl (And.intro wd_1069 wd_60) wd_1066 wd_1068 wd_47 cy_X10_takes (by omega) (by decide) (Nat.le_of_ble_eq_true rfl) rfl ?_
    refine ax_if_eq (tgt := 138) dX10_ends_131 (by decide) (fun c39 => ?_) (fun c39 => ?_)
    · rw [if_pos c39] at h
      exact ax_less (L' := [(some (av_r a0)), (some (av_i a1)), (some (av_i a2)), (some (av_i a3)), (some (av_i a4)), (some (av_i a5)), (some (av_i a6)), (some (av_i a7)), none, none]) ⟨rfl, rfl, rfl, rfl, rfl, rfl, rfl, rfl, trivial⟩ (tb_X10_ends_138 hk98 h)
    · rw [if_neg c39] at h
      refine ax_iconst (v := (1)) dX10_ends_134 rfl ?_
      refine ax_goto (tgt := 139) dX10_ends_135 (by decide) ?_
      exact ax_less (L' := [(some (av_r a0)), (some (av_i a1)), (some (av_i a2)), (some (av_i a3)), (some (av_i a4)), (some (av_i a5)), (some (av_i a6)), (some (av_i a7)), none, none]) ⟨rfl, rfl, rfl, rfl, rfl, rfl, rfl, rfl, trivial⟩ (tb_X10_ends_139 hk98 h)
def fb_X10_ends_98 : Nat → Option Nat → Int32 → Int32 → Int32 → Int32 → Int32 → Int32 → Int32 → ax_S → Option (Int32 × ax_S)
  | 0, _, _, _, _, _, _, _, _, _ => none
  | n + 1, a0, a1, a2, a3, a4, a5, a6, a7, s =>
    if a6 ≤ a7 then
      (ax_sh s 7 a0).bind fun w41 =>
      (fn_X10_takes a0 (41) s).bind fun q42 =>
      if q42.1 = 0 then
        some ((0), q42.2)
      else
        (ax_sh q42.2 7 a0).bind fun w44 =>
        (fn_X10_tells a0 a1 q42.2).bind fun q45 =>
        (ax_gi q45 7 25 a0).bind fun x46 =>
        ax_bd ((((8) * x46) - (4))) fun v47 =>
        if a1 = (1) then
          fb_X10_ends_283 a0 a2 a3 a4 a5 a6 v47 q45
        else
          if a1 = (2) then
            fb_X10_ends_283 a0 a2 a3 a4 a5 a6 v47 q45
          else
            fb_X10_ends_288 a0 a2 a3 a4 a5 a6 v47 (0) q45
    else
      if a1 = 0 then
        fb_X10_ends_120 (fb_X10_ends_98 n) a0 a1 a2 a3 a4 a5 a6 a7 s
      else
        (ax_sh s 7 a0).bind fun w51 =>
        (fn_X10_takes a0 (44) s).bind fun q52 =>
        if q52.1 = 0 then
          some ((0), q52.2)
        else
          fb_X10_ends_120 (fb_X10_ends_98 n) a0 a1 a2 a3 a4 a5 a6 a7 q52.2
set_option maxRecDepth 100000 in
set_option maxHeartbeats 4000000 in
theorem tb_X10_ends_98 {q : Int32 × ax_S} : ∀ (n : Nat) (a0 : Option Nat) (a1 : Int32) (a2 : Int32) (a3 : Int32) (a4 : Int32) (a5 : Int32) (a6 : Int32) (a7 : Int32) (s : ax_S) (h : fb_X10_ends_98 n a0 a1 a2 a3 a4 a5 a6 a7 s = some q), AW mm_X10_ends 3 0 0 98 [(some (av_r a0)), (some (av_i a1)), (some (av_i a2)), (some (av_i a3)), (some (av_i a4)), (some (av_i a5)), (some (av_i a6)), (some (av_i a7)), none, none] [] s (some (av_i q.1), q.2) := by
  intro n
  induction n with
  | zero =>
    intro a0 a1 a2 a3 a4 a5 a6 a7 s h
    exact ax_no h
  | succ n ih =>
    intro a0 a1 a2 a3 a4 a5 a6 a7 s h
    unfold fb_X10_ends_98 at h
    refine ax_iload (i := 7) dX10_ends_98 rfl ?_
    refine ax_iload (i := 6) dX10_ends_100 rfl ?_
    refine ax_icmp_ge (tgt := 246) dX10_ends_102 (by decide) (fun c40 => ?_) (fun c40 => ?_)
    · rw [if_pos c40] at h
      refine ax_aload_n (i := 0) dX10_ends_246 rfl rfl ?_
      refine ax_bipush (v := (41)) dX10_ends_247 rfl ?_
      obtain ⟨w41, gw41, h⟩ := Option.bind_eq_some_iff.mp h
      obtain ⟨q42, gq42, h⟩ := Option.bind_eq_some_iff.mp h
      refine ax_cV (As := [av_i (41)]) (t := 7) dX10_ends_249 gw41 (th_X10_takes gq42) rfl (And.intro wd_1069 wd_60) wd_1066 wd_1068 wd_47 cy_X10_takes (by omega) (by decide) (Nat.le_of_ble_eq_true rfl) rfl ?_
      refine ax_if_ne (tgt := 257) dX10_ends_252 (by decide) (fun c43 => ?_) (fun c43 => ?_)
      · rw [if_neg c43] at h
        refine ax_aload_n (i := 0) dX10_ends_257 rfl rfl ?_
        refine ax_iload_n (i := 1) dX10_ends_258 rfl rfl ?_
        obtain ⟨w44, gw44, h⟩ := Option.bind_eq_some_iff.mp h
        obtain ⟨q45, gq45, h⟩ := Option.bind_eq_some_iff.mp h
        refine ax_cV (As := [av_i a1]) (t := 7) dX10_ends_259 gw44 (th_X10_tells gq45) rfl (And.intro wd_1085 wd_60) wd_1082 wd_1084 wd_51 cy_X10_tells (by omega) (by decide) (Nat.le_of_ble_eq_true rfl) rfl ?_
        refine ax_bipush (v := (8)) dX10_ends_262 rfl ?_
        refine ax_aload_n (i := 0) dX10_ends_264 rfl rfl ?_
        obtain ⟨x46, gx46, h⟩ := Option.bind_eq_some_iff.mp h
        refine ax_getI (q := (RX10, TX10, 28)) (t := 7) (k := 25) dX10_ends_265 rfl (by decide) wd_786 rfl gx46 ?_
        refine ax_imul dX10_ends_268 ?_
        refine ax_iconst (v := (4)) dX10_ends_269 rfl ?_
        refine ax_isub dX10_ends_270 ?_
        refine ax_bdI h (fun v47 h => ?_)
        refine ax_istore (i := 7) (L2 := [some (av_r a0), some (av_i a1), some (av_i a2), some (av_i a3), some (av_i a4), some (av_i a5), some (av_i a6), some (av_i v47), none, none]) dX10_ends_271 (by decide) rfl rfl ?_
        refine ax_iload_n (i := 1) dX10_ends_273 rfl rfl ?_
        refine ax_iconst (v := (1)) dX10_ends_274 rfl ?_
        refine ax_icmp_eq (tgt := 283) dX10_ends_275 (by decide) (fun c48 => ?_) (fun c48 => ?_)
        · rw [if_pos c48] at h
          exact ax_less (L' := [(some (av_r a0)), none, (some (av_i a2)), (some (av_i a3)), (some (av_i a4)), (some (av_i a5)), (some (av_i a6)), (some (av_i v47)), none, none]) ⟨rfl, rfl, rfl, rfl, rfl, rfl, rfl, trivial⟩ (tb_X10_ends_283  h)
        · rw [if_neg c48] at h
          refine ax_iload_n (i := 1) dX10_ends_278 rfl rfl ?_
          refine ax_iconst (v := (2)) dX10_ends_279 rfl ?_
          refine ax_icmp_ne (tgt := 287) dX10_ends_280 (by decide) (fun c49 => ?_) (fun c49 => ?_)
          · rw [if_neg c49] at h
            refine ax_iconst (v := (0)) dX10_ends_287 rfl ?_
            exact ax_less (L' := [(some (av_r a0)), none, (some (av_i a2)), (some (av_i a3)), (some (av_i a4)), (some (av_i a5)), (some (av_i a6)), (some (av_i v47)), none, none]) ⟨rfl, rfl, rfl, rfl, rfl, rfl, rfl, trivial⟩ (tb_X10_ends_288  h)
          · rw [if_pos c49] at h
            exact ax_less (L' := [(some (av_r a0)), none, (some (av_i a2)), (some (av_i a3)), (some (av_i a4)), (some (av_i a5)), (some (av_i a6)), (some (av_i v47)), none, none]) ⟨rfl, rfl, rfl, rfl, rfl, rfl, rfl, trivial⟩ (tb_X10_ends_283  h)
      · rw [if_pos c43] at h
        refine ax_iconst (v := (0)) dX10_ends_255 rfl ?_
        exact ax_reti dX10_ends_256 h
    · rw [if_neg c40] at h
      refine ax_iload_n (i := 1) dX10_ends_105 rfl rfl ?_
      refine ax_if_eq (tgt := 120) dX10_ends_106 (by decide) (fun c50 => ?_) (fun c50 => ?_)
      · rw [if_pos c50] at h
        exact ax_less (L' := [(some (av_r a0)), (some (av_i a1)), (some (av_i a2)), (some (av_i a3)), (some (av_i a4)), (some (av_i a5)), (some (av_i a6)), (some (av_i a7)), none, none]) ⟨rfl, rfl, rfl, rfl, rfl, rfl, rfl, rfl, trivial⟩ (tb_X10_ends_120 ih h)
      · rw [if_neg c50] at h
        refine ax_aload_n (i := 0) dX10_ends_109 rfl rfl ?_
        refine ax_bipush (v := (44)) dX10_ends_110 rfl ?_
        obtain ⟨w51, gw51, h⟩ := Option.bind_eq_some_iff.mp h
        obtain ⟨q52, gq52, h⟩ := Option.bind_eq_some_iff.mp h
        refine ax_cV (As := [av_i (44)]) (t := 7) dX10_ends_112 gw51 (th_X10_takes gq52) rfl (And.intro wd_1069 wd_60) wd_1066 wd_1068 wd_47 cy_X10_takes (by omega) (by decide) (Nat.le_of_ble_eq_true rfl) rfl ?_
        refine ax_if_ne (tgt := 120) dX10_ends_115 (by decide) (fun c53 => ?_) (fun c53 => ?_)
        · rw [if_neg c53] at h
          exact ax_less (L' := [(some (av_r a0)), (some (av_i a1)), (some (av_i a2)), (some (av_i a3)), (some (av_i a4)), (some (av_i a5)), (some (av_i a6)), (some (av_i a7)), none, none]) ⟨rfl, rfl, rfl, rfl, rfl, rfl, rfl, rfl, trivial⟩ (tb_X10_ends_120 ih h)
        · rw [if_pos c53] at h
          refine ax_iconst (v := (0)) dX10_ends_118 rfl ?_
          exact ax_reti dX10_ends_119 h
def fb_X10_ends_88 (a0 : Option Nat) (a1 : Int32) (a2 : Int32) (a3 : Int32) (a4 : Int32) (a5 : Int32) (s : ax_S) : Option (Int32 × ax_S) :=
  fb_X10_ends_98 10000 a0 a1 a2 a3 a4 a5 (0) (0) s
set_option maxRecDepth 100000 in
set_option maxHeartbeats 4000000 in
theorem tb_X10_ends_88 {q : Int32 × ax_S} {a0 : Option Nat} {a1 : Int32} {a2 : Int32} {a3 : Int32} {a4 : Int32} {a5 : Int32} {s : ax_S} (h : fb_X10_ends_88 a0 a1 a2 a3 a4 a5 s = some q) : AW mm_X10_ends 3 0 0 88 [(some (av_r a0)), (some (av_i a1)), (some (av_i a2)), (some (av_i a3)), (some (av_i a4)), (some (av_i a5)), none, none, none, none] [] s (some (av_i q.1), q.2) := by
  unfold fb_X10_ends_88 at h
  refine ax_iconst (v := (0)) dX10_ends_88 rfl ?_
  refine ax_goto (tgt := 93) dX10_ends_89 (by decide) ?_
  refine ax_istore (i := 6) (L2 := [some (av_r a0), some (av_i a1), some (av_i a2), some (av_i a3), some (av_i a4), some (av_i a5), some (av_i (0)), none, none, none]) dX10_ends_93 (by decide) rfl rfl ?_
  refine ax_iconst (v := (0)) dX10_ends_95 rfl ?_
  refine ax_istore (i := 7) (L2 := [some (av_r a0), some (av_i a1), some (av_i a2), some (av_i a3), some (av_i a4), some (av_i a5), some (av_i (0)), some (av_i (0)), none, none]) dX10_ends_96 (by decide) rfl rfl ?_
  exact ax_less (L' := [(some (av_r a0)), (some (av_i a1)), (some (av_i a2)), (some (av_i a3)), (some (av_i a4)), (some (av_i a5)), (some (av_i (0))), (some (av_i (0))), none, none]) ⟨rfl, rfl, rfl, rfl, rfl, rfl, rfl, rfl, trivial⟩ (tb_X10_ends_98  _ _ _ _ _ _ _ _ _ _ h)
def fi_X10_ends (a0 : Option Nat) (a1 : Int32) (s : ax_S) : Option (Int32 × ax_S) :=
  if a1 = (7) then
    (ax_gr s 7 0 a0).bind fun r58 =>
    (ax_al s 9 r58 (0)).bind fun x59 =>
    (ax_sh s 7 a0).bind fun w60 =>
    (fn_X10_number a0 (0) (x59 - (1)) s).bind fun q61 =>
    if q61.1 = 0 then
      some ((0), q61.2)
    else
      (ax_sh q61.2 7 a0).bind fun w63 =>
      (fn_X10_takes a0 (41) q61.2).bind fun q64 =>
      if q64.1 = 0 then
        some ((0), q64.2)
      else
        (ax_gr q64.2 7 26 a0).bind fun r66 =>
        (ax_gi q64.2 7 27 a0).bind fun x67 =>
        (ax_gi q64.2 7 21 a0).bind fun x68 =>
        (ax_as q64.2 9 r66 x67 x68).bind fun s69 =>
        (ax_gi s69 7 27 a0).bind fun x70 =>
        (ax_pi s69 7 27 a0 (x70 + (1))).bind fun s71 =>
        some ((1), s71)
  else
    if a1 = (5) then
      fb_X10_ends_98 10000 a0 a1 (0) (0) (0) (0) (4) (0) s
    else
      if a1 = (3) then
        fb_X10_ends_88 a0 a1 (0) (0) (0) (0) s
      else
        if a1 = (6) then
          fb_X10_ends_88 a0 a1 (0) (0) (0) (0) s
        else
          fb_X10_ends_98 10000 a0 a1 (0) (0) (0) (0) (1) (0) s
set_option maxRecDepth 100000 in
set_option maxHeartbeats 4000000 in
theorem tw_X10_ends {q : Int32 × ax_S} {a0 : Option Nat} {a1 : Int32} {s : ax_S} (h : fi_X10_ends a0 a1 s = some q) : AW mm_X10_ends 3 0 0 0 [some (av_r a0), some (av_i a1), none, none, none, none, none, none, none, none] [] s (some (av_i q.1), q.2) := by
  unfold fi_X10_ends at h
  refine ax_iload_n (i := 1) dX10_ends_0 rfl rfl ?_
  refine ax_bipush (v := (7)) dX10_ends_1 rfl ?_
  refine ax_icmp_ne (tgt := 58) dX10_ends_3 (by decide) (fun c54 => ?_) (fun c54 => ?_)
  · rw [if_neg c54] at h
    refine ax_iconst (v := (0)) dX10_ends_58 rfl ?_
    refine ax_istore_n (i := 2) (L2 := [some (av_r a0), some (av_i a1), some (av_i (0)), none, none, none, none, none, none, none]) dX10_ends_59 rfl (by decide) rfl rfl ?_
    refine ax_iconst (v := (0)) dX10_ends_60 rfl ?_
    refine ax_istore_n (i := 3) (L2 := [some (av_r a0), some (av_i a1), some (av_i (0)), some (av_i (0)), none, none, none, none, none, none]) dX10_ends_61 rfl (by decide) rfl rfl ?_
    refine ax_iconst (v := (0)) dX10_ends_62 rfl ?_
    refine ax_istore (i := 4) (L2 := [some (av_r a0), some (av_i a1), some (av_i (0)), some (av_i (0)), some (av_i (0)), none, none, none, none, none]) dX10_ends_63 (by decide) rfl rfl ?_
    refine ax_iconst (v := (0)) dX10_ends_65 rfl ?_
    refine ax_istore (i := 5) (L2 := [some (av_r a0), some (av_i a1), some (av_i (0)), some (av_i (0)), some (av_i (0)), some (av_i (0)), none, none, none, none]) dX10_ends_66 (by decide) rfl rfl ?_
    refine ax_iload_n (i := 1) dX10_ends_68 rfl rfl ?_
    refine ax_iconst (v := (5)) dX10_ends_69 rfl ?_
    refine ax_icmp_ne (tgt := 77) dX10_ends_70 (by decide) (fun c55 => ?_) (fun c55 => ?_)
    · rw [if_neg c55] at h
      refine ax_iload_n (i := 1) dX10_ends_77 rfl rfl ?_
      refine ax_iconst (v := (3)) dX10_ends_78 rfl ?_
      refine ax_icmp_eq (tgt := 88) dX10_ends_79 (by decide) (fun c56 => ?_) (fun c56 => ?_)
      · rw [if_pos c56] at h
        exact ax_less (L' := [(some (av_r a0)), (some (av_i a1)), (some (av_i (0))), (some (av_i (0))), (some (av_i (0))), (some (av_i (0))), none, none, none, none]) ⟨rfl, rfl, rfl, rfl, rfl, rfl, trivial⟩ (tb_X10_ends_88  h)
      · rw [if_neg c56] at h
        refine ax_iload_n (i := 1) dX10_ends_82 rfl rfl ?_
        refine ax_bipush (v := (6)) dX10_ends_83 rfl ?_
        refine ax_icmp_ne (tgt := 92) dX10_ends_85 (by decide) (fun c57 => ?_) (fun c57 => ?_)
        · rw [if_neg c57] at h
          refine ax_iconst (v := (1)) dX10_ends_92 rfl ?_
          refine ax_istore (i := 6) (L2 := [some (av_r a0), some (av_i a1), some (av_i (0)), some (av_i (0)), some (av_i (0)), some (av_i (0)), some (av_i (1)), none, none, none]) dX10_ends_93 (by decide) rfl rfl ?_
          refine ax_iconst (v := (0)) dX10_ends_95 rfl ?_
          refine ax_istore (i := 7) (L2 := [some (av_r a0), some (av_i a1), some (av_i (0)), some (av_i (0)), some (av_i (0)), some (av_i (0)), some (av_i (1)), some (av_i (0)), none, none]) dX10_ends_96 (by decide) rfl rfl ?_
          exact ax_less (L' := [(some (av_r a0)), (some (av_i a1)), (some (av_i (0))), (some (av_i (0))), (some (av_i (0))), (some (av_i (0))), (some (av_i (1))), (some (av_i (0))), none, none]) ⟨rfl, rfl, rfl, rfl, rfl, rfl, rfl, rfl, trivial⟩ (tb_X10_ends_98  _ _ _ _ _ _ _ _ _ _ h)
        · rw [if_pos c57] at h
          exact ax_less (L' := [(some (av_r a0)), (some (av_i a1)), (some (av_i (0))), (some (av_i (0))), (some (av_i (0))), (some (av_i (0))), none, none, none, none]) ⟨rfl, rfl, rfl, rfl, rfl, rfl, trivial⟩ (tb_X10_ends_88  h)
    · rw [if_pos c55] at h
      refine ax_iconst (v := (4)) dX10_ends_73 rfl ?_
      refine ax_goto (tgt := 93) dX10_ends_74 (by decide) ?_
      refine ax_istore (i := 6) (L2 := [some (av_r a0), some (av_i a1), some (av_i (0)), some (av_i (0)), some (av_i (0)), some (av_i (0)), some (av_i (4)), none, none, none]) dX10_ends_93 (by decide) rfl rfl ?_
      refine ax_iconst (v := (0)) dX10_ends_95 rfl ?_
      refine ax_istore (i := 7) (L2 := [some (av_r a0), some (av_i a1), some (av_i (0)), some (av_i (0)), some (av_i (0)), some (av_i (0)), some (av_i (4)), some (av_i (0)), none, none]) dX10_ends_96 (by decide) rfl rfl ?_
      exact ax_less (L' := [(some (av_r a0)), (some (av_i a1)), (some (av_i (0))), (some (av_i (0))), (some (av_i (0))), (some (av_i (0))), (some (av_i (4))), (some (av_i (0))), none, none]) ⟨rfl, rfl, rfl, rfl, rfl, rfl, rfl, rfl, trivial⟩ (tb_X10_ends_98  _ _ _ _ _ _ _ _ _ _ h)
  · rw [if_pos c54] at h
    refine ax_aload_n (i := 0) dX10_ends_6 rfl rfl ?_
    refine ax_iconst (v := (0)) dX10_ends_7 rfl ?_
    refine ax_aload_n (i := 0) dX10_ends_8 rfl rfl ?_
    obtain ⟨r58, gr58, h⟩ := Option.bind_eq_some_iff.mp h
    refine ax_getR (q := (RX10, TX10, 28)) (t := 7) (k := 0) dX10_ends_9 rfl (by decide) wd_761 rfl gr58 ?_
    refine ax_iconst (v := (0)) dX10_ends_12 rfl ?_
    obtain ⟨x59, gx59, h⟩ := Option.bind_eq_some_iff.mp h
    refine ax_iald dX10_ends_13 gx59 ?_
    refine ax_iconst (v := (1)) dX10_ends_14 rfl ?_
    refine ax_isub dX10_ends_15 ?_
    obtain ⟨w60, gw60, h⟩ := Option.bind_eq_some_iff.mp h
    obtain ⟨q61, gq61, h⟩ := Option.bind_eq_some_iff.mp h
    refine ax_cV (As := [av_i (0), av_i (x59 - (1))]) (t := 7) dX10_ends_16 gw60 (th_X10_number gq61) rfl (And.intro wd_1077 wd_60) wd_1074 wd_1076 wd_49 cy_X10_number (by omega) (by decide) (Nat.le_of_ble_eq_true rfl) rfl ?_
    refine ax_if_eq (tgt := 31) dX10_ends_19 (by decide) (fun c62 => ?_) (fun c62 => ?_)
    · rw [if_pos c62] at h
      refine ax_iconst (v := (0)) dX10_ends_31 rfl ?_
      exact ax_reti dX10_ends_32 h
    · rw [if_neg c62] at h
      refine ax_aload_n (i := 0) dX10_ends_22 rfl rfl ?_
      refine ax_bipush (v := (41)) dX10_ends_23 rfl ?_
      obtain ⟨w63, gw63, h⟩ := Option.bind_eq_some_iff.mp h
      obtain ⟨q64, gq64, h⟩ := Option.bind_eq_some_iff.mp h
      refine ax_cV (As := [av_i (41)]) (t := 7) dX10_ends_25 gw63 (th_X10_takes gq64) rfl (And.intro wd_1069 wd_60) wd_1066 wd_1068 wd_47 cy_X10_takes (by omega) (by decide) (Nat.le_of_ble_eq_true rfl) rfl ?_
      refine ax_if_ne (tgt := 33) dX10_ends_28 (by decide) (fun c65 => ?_) (fun c65 => ?_)
      · rw [if_neg c65] at h
        refine ax_aload_n (i := 0) dX10_ends_33 rfl rfl ?_
        obtain ⟨r66, gr66, h⟩ := Option.bind_eq_some_iff.mp h
        refine ax_getR (q := (RX10, TX10, 28)) (t := 7) (k := 26) dX10_ends_34 rfl (by decide) wd_787 rfl gr66 ?_
        refine ax_aload_n (i := 0) dX10_ends_37 rfl rfl ?_
        obtain ⟨x67, gx67, h⟩ := Option.bind_eq_some_iff.mp h
        refine ax_getI (q := (RX10, TX10, 28)) (t := 7) (k := 27) dX10_ends_38 rfl (by decide) wd_788 rfl gx67 ?_
        refine ax_aload_n (i := 0) dX10_ends_41 rfl rfl ?_
        obtain ⟨x68, gx68, h⟩ := Option.bind_eq_some_iff.mp h
        refine ax_getI (q := (RX10, TX10, 28)) (t := 7) (k := 21) dX10_ends_42 rfl (by decide) wd_782 rfl gx68 ?_
        obtain ⟨s69, gs69, h⟩ := Option.bind_eq_some_iff.mp h
        refine ax_iast dX10_ends_45 gs69 ?_
        refine ax_aload_n (i := 0) dX10_ends_46 rfl rfl ?_
        refine ax_dup dX10_ends_47 trivial ?_
        obtain ⟨x70, gx70, h⟩ := Option.bind_eq_some_iff.mp h
        refine ax_getI (q := (RX10, TX10, 28)) (t := 7) (k := 27) dX10_ends_48 rfl (by decide) wd_788 rfl gx70 ?_
        refine ax_iconst (v := (1)) dX10_ends_51 rfl ?_
        refine ax_iadd dX10_ends_52 ?_
        obtain ⟨s71, gs71, h⟩ := Option.bind_eq_some_iff.mp h
        refine ax_putI (q := (RX10, TX10, 28)) (t := 7) (k := 27) dX10_ends_53 rfl (by decide) wd_788 rfl rfl ⟨rfl, rfl⟩ gs71 ?_
        refine ax_iconst (v := (1)) dX10_ends_56 rfl ?_
        exact ax_reti dX10_ends_57 h
      · rw [if_pos c65] at h
        refine ax_iconst (v := (0)) dX10_ends_31 rfl ?_
        exact ax_reti dX10_ends_32 h
def fn_X10_ends (a0 : Option Nat) (a1 : Int32) (s : ax_S) : Option (Int32 × ax_S) := ax_bz (fi_X10_ends a0 a1 s)
set_option maxRecDepth 100000 in
set_option maxHeartbeats 4000000 in
theorem th_X10_ends {q : Int32 × ax_S} {a0 : Option Nat} {a1 : Int32} {s : ax_S} (h : fn_X10_ends a0 a1 s = some q) : AC mm_X10_ends yX10_ends 3 0 0 [av_r a0, av_i a1] s (some (av_i q.1), q.2) := by
  obtain ⟨h, hz⟩ := ax_bz_of h
  exact ax_met (L0 := [some (av_r a0), some (av_i a1), none, none, none, none, none, none, none, none]) (by decide +kernel) rfl (fun h => absurd h (by decide)) ⟨rfl, rfl, trivial⟩ (Nat.le_of_ble_eq_true rfl) hz (tw_X10_ends h)
/-! X10_isText -/
abbrev mm_X10_isText : ax_M := (RX10, cX10_isText, (some .boolean), 4, false)
def fb_X10_isText_163 (a0 : Option Nat) (a1 : Int32) (s : ax_S) : Option (Int32 × ax_S) :=
  if a1 = 0 then
    some ((0), s)
  else
    (ax_gi s 7 19 a0).bind fun x2 =>
    (ax_gi s 7 12 a0).bind fun x3 =>
    if x2 = x3 then
      some ((1), s)
    else
      some ((0), s)
set_option maxRecDepth 100000 in
set_option maxHeartbeats 4000000 in
theorem tb_X10_isText_163 {q : Int32 × ax_S} {a0 : Option Nat} {a1 : Int32} {s : ax_S} (h : fb_X10_isText_163 a0 a1 s = some q) : AW mm_X10_isText 4 0 0 163 [(some (av_r a0)), (some (av_i a1)), none, none] [] s (some (av_i q.1), q.2) := by
  unfold fb_X10_isText_163 at h
  refine ax_iload_n (i := 1) dX10_isText_163 rfl rfl ?_
  refine ax_if_eq (tgt := 182) dX10_isText_164 (by decide) (fun c1 => ?_) (fun c1 => ?_)
  · rw [if_pos c1] at h
    refine ax_iconst (v := (0)) dX10_isText_182 rfl ?_
    exact ax_reti dX10_isText_183 h
  · rw [if_neg c1] at h
    refine ax_aload_n (i := 0) dX10_isText_167 rfl rfl ?_
    obtain ⟨x2, gx2, h⟩ := Option.bind_eq_some_iff.mp h
    refine ax_getI (q := (RX10, TX10, 28)) (t := 7) (k := 19) dX10_isText_168 rfl (by decide) wd_780 rfl gx2 ?_
    refine ax_aload_n (i := 0) dX10_isText_171 rfl rfl ?_
    obtain ⟨x3, gx3, h⟩ := Option.bind_eq_some_iff.mp h
    refine ax_getI (q := (RX10, TX10, 28)) (t := 7) (k := 12) dX10_isText_172 rfl (by decide) wd_773 rfl gx3 ?_
    refine ax_icmp_ne (tgt := 182) dX10_isText_175 (by decide) (fun c4 => ?_) (fun c4 => ?_)
    · rw [if_neg c4] at h
      refine ax_iconst (v := (0)) dX10_isText_182 rfl ?_
      exact ax_reti dX10_isText_183 h
    · rw [if_pos c4] at h
      refine ax_iconst (v := (1)) dX10_isText_178 rfl ?_
      refine ax_goto (tgt := 183) dX10_isText_179 (by decide) ?_
      exact ax_reti dX10_isText_183 h
def fb_X10_isText_108 (k25 : Option Nat → Int32 → ax_S → Option (Int32 × ax_S)) (a0 : Option Nat) (b0 : Int32) (s : ax_S) : Option (Int32 × ax_S) :=
  if b0 = 0 then
    k25 a0 b0 s
  else
    (ax_gr s 7 23 a0).bind fun r6 =>
    (ax_gi s 7 20 a0).bind fun x7 =>
    (ax_al s 9 r6 (x7 - (1))).bind fun x8 =>
    (ax_as s 9 r6 (x7 - (1)) (x8 + (1))).bind fun s9 =>
    (ax_sh s9 7 a0).bind fun w10 =>
    (fn_X10_begins a0 s9).bind fun q11 =>
    k25 a0 q11.1 q11.2
set_option maxRecDepth 100000 in
set_option maxHeartbeats 4000000 in
theorem tb_X10_isText_108 {q : Int32 × ax_S} {k25 : Option Nat → Int32 → ax_S → Option (Int32 × ax_S)} (hk25 : ∀ (a0 : Option Nat) (a1 : Int32) (s : ax_S), k25 a0 a1 s = some q → AW mm_X10_isText 4 0 0 25 [(some (av_r a0)), (some (av_i a1)), none, none] [] s (some (av_i q.1), q.2)) {a0 : Option Nat} {b0 : Int32} {s : ax_S} (h : fb_X10_isText_108 k25 a0 b0 s = some q) : AW mm_X10_isText 4 0 0 108 [(some (av_r a0)), none, none, none] [av_i b0] s (some (av_i q.1), q.2) := by
  unfold fb_X10_isText_108 at h
  refine ax_istore_n (i := 1) (L2 := [some (av_r a0), some (av_i b0), none, none]) dX10_isText_108 rfl (by decide) rfl rfl ?_
  refine ax_iload_n (i := 1) dX10_isText_109 rfl rfl ?_
  refine ax_if_eq (tgt := 160) dX10_isText_110 (by decide) (fun c5 => ?_) (fun c5 => ?_)
  · rw [if_pos c5] at h
    refine ax_goto (tgt := 25) dX10_isText_160 (by decide) ?_
    exact ax_less (L' := [(some (av_r a0)), (some (av_i b0)), none, none]) ⟨rfl, rfl, trivial⟩ (hk25 _ _ _ h)
  · rw [if_neg c5] at h
    refine ax_aload_n (i := 0) dX10_isText_113 rfl rfl ?_
    obtain ⟨r6, gr6, h⟩ := Option.bind_eq_some_iff.mp h
    refine ax_getR (q := (RX10, TX10, 28)) (t := 7) (k := 23) dX10_isText_114 rfl (by decide) wd_784 rfl gr6 ?_
    refine ax_aload_n (i := 0) dX10_isText_117 rfl rfl ?_
    obtain ⟨x7, gx7, h⟩ := Option.bind_eq_some_iff.mp h
    refine ax_getI (q := (RX10, TX10, 28)) (t := 7) (k := 20) dX10_isText_118 rfl (by decide) wd_781 rfl gx7 ?_
    refine ax_iconst (v := (1)) dX10_isText_121 rfl ?_
    refine ax_isub dX10_isText_122 ?_
    refine ax_dup2 dX10_isText_123 trivial trivial ?_
    obtain ⟨x8, gx8, h⟩ := Option.bind_eq_some_iff.mp h
    refine ax_iald dX10_isText_124 gx8 ?_
    refine ax_iconst (v := (1)) dX10_isText_125 rfl ?_
    refine ax_iadd dX10_isText_126 ?_
    obtain ⟨s9, gs9, h⟩ := Option.bind_eq_some_iff.mp h
    refine ax_iast dX10_isText_127 gs9 ?_
    refine ax_aload_n (i := 0) dX10_isText_128 rfl rfl ?_
    obtain ⟨w10, gw10, h⟩ := Option.bind_eq_some_iff.mp h
    obtain ⟨q11, gq11, h⟩ := Option.bind_eq_some_iff.mp h
    refine ax_cV (As := []) (t := 7) dX10_isText_129 gw10 (th_X10_begins gq11) rfl (And.intro wd_1057 wd_60) wd_1054 wd_1056 wd_44 cy_X10_begins (by omega) (by decide) (Nat.le_of_ble_eq_true rfl) rfl ?_
    refine ax_istore_n (i := 1) (L2 := [some (av_r a0), some (av_i q11.1), none, none]) dX10_isText_132 rfl (by decide) rfl rfl ?_
    refine ax_goto (tgt := 160) dX10_isText_133 (by decide) ?_
    refine ax_goto (tgt := 25) dX10_isText_160 (by decide) ?_
    exact ax_less (L' := [(some (av_r a0)), (some (av_i q11.1)), none, none]) ⟨rfl, rfl, trivial⟩ (hk25 _ _ _ h)
def fb_X10_isText_103 (k25 : Option Nat → Int32 → ax_S → Option (Int32 × ax_S)) (a0 : Option Nat) (s : ax_S) : Option (Int32 × ax_S) :=
  fb_X10_isText_108 k25 a0 (1) s
set_option maxRecDepth 100000 in
set_option maxHeartbeats 4000000 in
theorem tb_X10_isText_103 {q : Int32 × ax_S} {k25 : Option Nat → Int32 → ax_S → Option (Int32 × ax_S)} (hk25 : ∀ (a0 : Option Nat) (a1 : Int32) (s : ax_S), k25 a0 a1 s = some q → AW mm_X10_isText 4 0 0 25 [(some (av_r a0)), (some (av_i a1)), none, none] [] s (some (av_i q.1), q.2)) {a0 : Option Nat} {s : ax_S} (h : fb_X10_isText_103 k25 a0 s = some q) : AW mm_X10_isText 4 0 0 103 [(some (av_r a0)), none, none, none] [] s (some (av_i q.1), q.2) := by
  unfold fb_X10_isText_103 at h
  refine ax_iconst (v := (1)) dX10_isText_103 rfl ?_
  refine ax_goto (tgt := 108) dX10_isText_104 (by decide) ?_
  exact ax_less (L' := [(some (av_r a0)), none, none, none]) ⟨rfl, trivial⟩ (tb_X10_isText_108 hk25 h)
def fb_X10_isText_64 (k25 : Option Nat → Int32 → ax_S → Option (Int32 × ax_S)) (a0 : Option Nat) (a2 : Int32) (b0 : Int32) (s : ax_S) : Option (Int32 × ax_S) :=
  (ax_gr s 7 23 a0).bind fun r12 =>
  (ax_gi s 7 20 a0).bind fun x13 =>
  (ax_al s 9 r12 (x13 - (1))).bind fun x14 =>
  if b0 ≤ x14 then
    (ax_sh s 7 a0).bind fun w16 =>
    (fn_X10_ends a0 a2 s).bind fun q17 =>
    (ax_gi q17.2 7 20 a0).bind fun x18 =>
    if q17.1 = 0 then
      (ax_pi q17.2 7 20 a0 (x18 - (0))).bind fun s20 =>
      k25 a0 q17.1 s20
    else
      (ax_pi q17.2 7 20 a0 (x18 - (1))).bind fun s21 =>
      k25 a0 q17.1 s21
  else
    (ax_gr s 7 23 a0).bind fun r22 =>
    (ax_gi s 7 20 a0).bind fun x23 =>
    (ax_al s 9 r22 (x23 - (1))).bind fun x24 =>
    if x24 = 0 then
      fb_X10_isText_103 k25 a0 s
    else
      (ax_sh s 7 a0).bind fun w26 =>
      (fn_X10_takes a0 (44) s).bind fun q27 =>
      if q27.1 = 0 then
        fb_X10_isText_108 k25 a0 (0) q27.2
      else
        fb_X10_isText_103 k25 a0 q27.2
set_option maxRecDepth 100000 in
set_option maxHeartbeats 4000000 in
theorem tb_X10_isText_64 {q : Int32 × ax_S} {k25 : Option Nat → Int32 → ax_S → Option (Int32 × ax_S)} (hk25 : ∀ (a0 : Option Nat) (a1 : Int32) (s : ax_S), k25 a0 a1 s = some q → AW mm_X10_isText 4 0 0 25 [(some (av_r a0)), (some (av_i a1)), none, none] [] s (some (av_i q.1), q.2)) {a0 : Option Nat} {a2 : Int32} {b0 : Int32} {s : ax_S} (h : fb_X10_isText_64 k25 a0 a2 b0 s = some q) : AW mm_X10_isText 4 0 0 64 [(some (av_r a0)), none, (some (av_i a2)), none] [av_i b0] s (some (av_i q.1), q.2) := by
  unfold fb_X10_isText_64 at h
  refine ax_istore_n (i := 3) (L2 := [some (av_r a0), none, some (av_i a2), some (av_i b0)]) dX10_isText_64 rfl (by decide) rfl rfl ?_
  refine ax_aload_n (i := 0) dX10_isText_65 rfl rfl ?_
  obtain ⟨r12, gr12, h⟩ := Option.bind_eq_some_iff.mp h
  refine ax_getR (q := (RX10, TX10, 28)) (t := 7) (k := 23) dX10_isText_66 rfl (by decide) wd_784 rfl gr12 ?_
  refine ax_aload_n (i := 0) dX10_isText_69 rfl rfl ?_
  obtain ⟨x13, gx13, h⟩ := Option.bind_eq_some_iff.mp h
  refine ax_getI (q := (RX10, TX10, 28)) (t := 7) (k := 20) dX10_isText_70 rfl (by decide) wd_781 rfl gx13 ?_
  refine ax_iconst (v := (1)) dX10_isText_73 rfl ?_
  refine ax_isub dX10_isText_74 ?_
  obtain ⟨x14, gx14, h⟩ := Option.bind_eq_some_iff.mp h
  refine ax_iald dX10_isText_75 gx14 ?_
  refine ax_iload_n (i := 3) dX10_isText_76 rfl rfl ?_
  refine ax_icmp_ge (tgt := 136) dX10_isText_77 (by decide) (fun c15 => ?_) (fun c15 => ?_)
  · rw [if_pos c15] at h
    refine ax_aload_n (i := 0) dX10_isText_136 rfl rfl ?_
    refine ax_iload_n (i := 2) dX10_isText_137 rfl rfl ?_
    obtain ⟨w16, gw16, h⟩ := Option.bind_eq_some_iff.mp h
    obtain ⟨q17, gq17, h⟩ := Option.bind_eq_some_iff.mp h
    refine ax_cV (As := [av_i a2]) (t := 7) dX10_isText_138 gw16 (th_X10_ends gq17) rfl (And.intro wd_1073 wd_60) wd_1070 wd_1072 wd_48 cy_X10_ends (by omega) (by decide) (Nat.le_of_ble_eq_true rfl) rfl ?_
    refine ax_istore_n (i := 1) (L2 := [some (av_r a0), some (av_i q17.1), some (av_i a2), some (av_i b0)]) dX10_isText_141 rfl (by decide) rfl rfl ?_
    refine ax_aload_n (i := 0) dX10_isText_142 rfl rfl ?_
    refine ax_dup dX10_isText_143 trivial ?_
    obtain ⟨x18, gx18, h⟩ := Option.bind_eq_some_iff.mp h
    refine ax_getI (q := (RX10, TX10, 28)) (t := 7) (k := 20) dX10_isText_144 rfl (by decide) wd_781 rfl gx18 ?_
    refine ax_iload_n (i := 1) dX10_isText_147 rfl rfl ?_
    refine ax_if_eq (tgt := 155) dX10_isText_148 (by decide) (fun c19 => ?_) (fun c19 => ?_)
    · rw [if_pos c19] at h
      refine ax_iconst (v := (0)) dX10_isText_155 rfl ?_
      refine ax_isub dX10_isText_156 ?_
      obtain ⟨s20, gs20, h⟩ := Option.bind_eq_some_iff.mp h
      refine ax_putI (q := (RX10, TX10, 28)) (t := 7) (k := 20) dX10_isText_157 rfl (by decide) wd_781 rfl rfl ⟨rfl, rfl⟩ gs20 ?_
      refine ax_goto (tgt := 25) dX10_isText_160 (by decide) ?_
      exact ax_less (L' := [(some (av_r a0)), (some (av_i q17.1)), none, none]) ⟨rfl, rfl, trivial⟩ (hk25 _ _ _ h)
    · rw [if_neg c19] at h
      refine ax_iconst (v := (1)) dX10_isText_151 rfl ?_
      refine ax_goto (tgt := 156) dX10_isText_152 (by decide) ?_
      refine ax_isub dX10_isText_156 ?_
      obtain ⟨s21, gs21, h⟩ := Option.bind_eq_some_iff.mp h
      refine ax_putI (q := (RX10, TX10, 28)) (t := 7) (k := 20) dX10_isText_157 rfl (by decide) wd_781 rfl rfl ⟨rfl, rfl⟩ gs21 ?_
      refine ax_goto (tgt := 25) dX10_isText_160 (by decide) ?_
      exact ax_less (L' := [(some (av_r a0)), (some (av_i q17.1)), none, none]) ⟨rfl, rfl, trivial⟩ (hk25 _ _ _ h)
  · rw [if_neg c15] at h
    refine ax_aload_n (i := 0) dX10_isText_80 rfl rfl ?_
    obtain ⟨r22, gr22, h⟩ := Option.bind_eq_some_iff.mp h
    refine ax_getR (q := (RX10, TX10, 28)) (t := 7) (k := 23) dX10_isText_81 rfl (by decide) wd_784 rfl gr22 ?_
    refine ax_aload_n (i := 0) dX10_isText_84 rfl rfl ?_
    obtain ⟨x23, gx23, h⟩ := Option.bind_eq_some_iff.mp h
    refine ax_getI (q := (RX10, TX10, 28)) (t := 7) (k := 20) dX10_isText_85 rfl (by decide) wd_781 rfl gx23 ?_
    refine ax_iconst (v := (1)) dX10_isText_88 rfl ?_
    refine ax_isub dX10_isText_89 ?_
    obtain ⟨x24, gx24, h⟩ := Option.bind_eq_some_iff.mp h
    refine ax_iald dX10_isText_90 gx24 ?_
    refine ax_if_eq (tgt := 103) dX10_isText_91 (by decide) (fun c25 => ?_) (fun c25 => ?_)
    · rw [if_pos c25] at h
      exact ax_less (L' := [(some (av_r a0)), none, none, none]) ⟨rfl, trivial⟩ (tb_X10_isText_103 hk25 h)
    · rw [if_neg c25] at h
      refine ax_aload_n (i := 0) dX10_isText_94 rfl rfl ?_
      refine ax_bipush (v := (44)) dX10_isText_95 rfl ?_
      obtain ⟨w26, gw26, h⟩ := Option.bind_eq_some_iff.mp h
      obtain ⟨q27, gq27, h⟩ := Option.bind_eq_some_iff.mp h
      refine ax_cV (As := [av_i (44)]) (t := 7) dX10_isText_97 gw26 (th_X10_takes gq27) rfl (And.intro wd_1069 wd_60) wd_1066 wd_1068 wd_47 cy_X10_takes (by omega) (by decide) (Nat.le_of_ble_eq_true rfl) rfl ?_
      refine ax_if_eq (tgt := 107) dX10_isText_100 (by decide) (fun c28 => ?_) (fun c28 => ?_)
      · rw [if_pos c28] at h
        refine ax_iconst (v := (0)) dX10_isText_107 rfl ?_
        exact ax_less (L' := [(some (av_r a0)), none, none, none]) ⟨rfl, trivial⟩ (tb_X10_isText_108 hk25 h)
      · rw [if_neg c28] at h
        exact ax_less (L' := [(some (av_r a0)), none, none, none]) ⟨rfl, trivial⟩ (tb_X10_isText_103 hk25 h)
def fb_X10_isText_25 : Nat → Option Nat → Int32 → ax_S → Option (Int32 × ax_S)
  | 0, _, _, _ => none
  | n + 1, a0, a1, s =>
    if a1 = 0 then
      fb_X10_isText_163 a0 a1 s
    else
      (ax_gi s 7 20 a0).bind fun x30 =>
      if x30 ≤ 0 then
        fb_X10_isText_163 a0 a1 s
      else
        (ax_gr s 7 22 a0).bind fun r32 =>
        (ax_gi s 7 20 a0).bind fun x33 =>
        (ax_al s 9 r32 (x33 - (1))).bind fun x34 =>
        if x34 = (7) then
          fb_X10_isText_64 (fb_X10_isText_25 n) a0 x34 (0) s
        else
          (ax_gr s 7 13 a0).bind fun r36 =>
          (ax_al s 9 r36 x34).bind fun x37 =>
          fb_X10_isText_64 (fb_X10_isText_25 n) a0 x34 x37 s
set_option maxRecDepth 100000 in
set_option maxHeartbeats 4000000 in
theorem tb_X10_isText_25 {q : Int32 × ax_S} : ∀ (n : Nat) (a0 : Option Nat) (a1 : Int32) (s : ax_S) (h : fb_X10_isText_25 n a0 a1 s = some q), AW mm_X10_isText 4 0 0 25 [(some (av_r a0)), (some (av_i a1)), none, none] [] s (some (av_i q.1), q.2) := by
  intro n
  induction n with
  | zero =>
    intro a0 a1 s h
    exact ax_no h
  | succ n ih =>
    intro a0 a1 s h
    unfold fb_X10_isText_25 at h
    refine ax_iload_n (i := 1) dX10_isText_25 rfl rfl ?_
    refine ax_if_eq (tgt := 163) dX10_isText_26 (by decide) (fun c29 => ?_) (fun c29 => ?_)
    · rw [if_pos c29] at h
      exact ax_less (L' := [(some (av_r a0)), (some (av_i a1)), none, none]) ⟨rfl, rfl, trivial⟩ (tb_X10_isText_163  h)
    · rw [if_neg c29] at h
      refine ax_aload_n (i := 0) dX10_isText_29 rfl rfl ?_
      obtain ⟨x30, gx30, h⟩ := Option.bind_eq_some_iff.mp h
      refine ax_getI (q := (RX10, TX10, 28)) (t := 7) (k := 20) dX10_isText_30 rfl (by decide) wd_781 rfl gx30 ?_
      refine ax_if_le (tgt := 163) dX10_isText_33 (by decide) (fun c31 => ?_) (fun c31 => ?_)
      · rw [if_pos c31] at h
        exact ax_less (L' := [(some (av_r a0)), (some (av_i a1)), none, none]) ⟨rfl, rfl, trivial⟩ (tb_X10_isText_163  h)
      · rw [if_neg c31] at h
        refine ax_aload_n (i := 0) dX10_isText_36 rfl rfl ?_
        obtain ⟨r32, gr32, h⟩ := Option.bind_eq_some_iff.mp h
        refine ax_getR (q := (RX10, TX10, 28)) (t := 7) (k := 22) dX10_isText_37 rfl (by decide) wd_783 rfl gr32 ?_
        refine ax_aload_n (i := 0) dX10_isText_40 rfl rfl ?_
        obtain ⟨x33, gx33, h⟩ := Option.bind_eq_some_iff.mp h
        refine ax_getI (q := (RX10, TX10, 28)) (t := 7) (k := 20) dX10_isText_41 rfl (by decide) wd_781 rfl gx33 ?_
        refine ax_iconst (v := (1)) dX10_isText_44 rfl ?_
        refine ax_isub dX10_isText_45 ?_
        obtain ⟨x34, gx34, h⟩ := Option.bind_eq_some_iff.mp h
        refine ax_iald dX10_isText_46 gx34 ?_
        refine ax_istore_n (i := 2) (L2 := [some (av_r a0), some (av_i a1), some (av_i x34), none]) dX10_isText_47 rfl (by decide) rfl rfl ?_
        refine ax_iload_n (i := 2) dX10_isText_48 rfl rfl ?_
        refine ax_bipush (v := (7)) dX10_isText_49 rfl ?_
        refine ax_icmp_ne (tgt := 58) dX10_isText_51 (by decide) (fun c35 => ?_) (fun c35 => ?_)
        · rw [if_neg c35] at h
          refine ax_aload_n (i := 0) dX10_isText_58 rfl rfl ?_
          obtain ⟨r36, gr36, h⟩ := Option.bind_eq_some_iff.mp h
          refine ax_getR (q := (RX10, TX10, 28)) (t := 7) (k := 13) dX10_isText_59 rfl (by decide) wd_774 rfl gr36 ?_
          refine ax_iload_n (i := 2) dX10_isText_62 rfl rfl ?_
          obtain ⟨x37, gx37, h⟩ := Option.bind_eq_some_iff.mp h
          refine ax_iald dX10_isText_63 gx37 ?_
          exact ax_less (L' := [(some (av_r a0)), none, (some (av_i x34)), none]) ⟨rfl, rfl, trivial⟩ (tb_X10_isText_64 ih h)
        · rw [if_pos c35] at h
          refine ax_iconst (v := (0)) dX10_isText_54 rfl ?_
          refine ax_goto (tgt := 64) dX10_isText_55 (by decide) ?_
          exact ax_less (L' := [(some (av_r a0)), none, (some (av_i x34)), none]) ⟨rfl, rfl, trivial⟩ (tb_X10_isText_64 ih h)
def fi_X10_isText (a0 : Option Nat) (s : ax_S) : Option (Int32 × ax_S) :=
  (ax_pi s 7 19 a0 (0)).bind fun s38 =>
  (ax_pi s38 7 20 a0 (0)).bind fun s39 =>
  (ax_pi s39 7 25 a0 (0)).bind fun s40 =>
  (ax_pi s40 7 27 a0 (0)).bind fun s41 =>
  (ax_sh s41 7 a0).bind fun w42 =>
  (fn_X10_begins a0 s41).bind fun q43 =>
  fb_X10_isText_25 10000 a0 q43.1 q43.2
set_option maxRecDepth 100000 in
set_option maxHeartbeats 4000000 in
theorem tw_X10_isText {q : Int32 × ax_S} {a0 : Option Nat} {s : ax_S} (h : fi_X10_isText a0 s = some q) : AW mm_X10_isText 4 0 0 0 [some (av_r a0), none, none, none] [] s (some (av_i q.1), q.2) := by
  unfold fi_X10_isText at h
  refine ax_aload_n (i := 0) dX10_isText_0 rfl rfl ?_
  refine ax_iconst (v := (0)) dX10_isText_1 rfl ?_
  obtain ⟨s38, gs38, h⟩ := Option.bind_eq_some_iff.mp h
  refine ax_putI (q := (RX10, TX10, 28)) (t := 7) (k := 19) dX10_isText_2 rfl (by decide) wd_780 rfl rfl ⟨rfl, rfl⟩ gs38 ?_
  refine ax_aload_n (i := 0) dX10_isText_5 rfl rfl ?_
  refine ax_iconst (v := (0)) dX10_isText_6 rfl ?_
  obtain ⟨s39, gs39, h⟩ := Option.bind_eq_some_iff.mp h
  refine ax_putI (q := (RX10, TX10, 28)) (t := 7) (k := 20) dX10_isText_7 rfl (by decide) wd_781 rfl rfl ⟨rfl, rfl⟩ gs39 ?_
  refine ax_aload_n (i := 0) dX10_isText_10 rfl rfl ?_
  refine ax_iconst (v := (0)) dX10_isText_11 rfl ?_
  obtain ⟨s40, gs40, h⟩ := Option.bind_eq_some_iff.mp h
  refine ax_putI (q := (RX10, TX10, 28)) (t := 7) (k := 25) dX10_isText_12 rfl (by decide) wd_786 rfl rfl ⟨rfl, rfl⟩ gs40 ?_
  refine ax_aload_n (i := 0) dX10_isText_15 rfl rfl ?_
  refine ax_iconst (v := (0)) dX10_isText_16 rfl ?_
  obtain ⟨s41, gs41, h⟩ := Option.bind_eq_some_iff.mp h
  refine ax_putI (q := (RX10, TX10, 28)) (t := 7) (k := 27) dX10_isText_17 rfl (by decide) wd_788 rfl rfl ⟨rfl, rfl⟩ gs41 ?_
  refine ax_aload_n (i := 0) dX10_isText_20 rfl rfl ?_
  obtain ⟨w42, gw42, h⟩ := Option.bind_eq_some_iff.mp h
  obtain ⟨q43, gq43, h⟩ := Option.bind_eq_some_iff.mp h
  refine ax_cV (As := []) (t := 7) dX10_isText_21 gw42 (th_X10_begins gq43) rfl (And.intro wd_1057 wd_60) wd_1054 wd_1056 wd_44 cy_X10_begins (by omega) (by decide) (Nat.le_of_ble_eq_true rfl) rfl ?_
  refine ax_istore_n (i := 1) (L2 := [some (av_r a0), some (av_i q43.1), none, none]) dX10_isText_24 rfl (by decide) rfl rfl ?_
  exact ax_less (L' := [(some (av_r a0)), (some (av_i q43.1)), none, none]) ⟨rfl, rfl, trivial⟩ (tb_X10_isText_25  _ _ _ _ h)
def fn_X10_isText (a0 : Option Nat) (s : ax_S) : Option (Int32 × ax_S) := ax_bz (fi_X10_isText a0 s)
set_option maxRecDepth 100000 in
set_option maxHeartbeats 4000000 in
theorem th_X10_isText {q : Int32 × ax_S} {a0 : Option Nat} {s : ax_S} (h : fn_X10_isText a0 s = some q) : AC mm_X10_isText yX10_isText 4 0 0 [av_r a0] s (some (av_i q.1), q.2) := by
  obtain ⟨h, hz⟩ := ax_bz_of h
  exact ax_met (L0 := [some (av_r a0), none, none, none]) (by decide +kernel) rfl (fun h => absurd h (by decide)) ⟨rfl, trivial⟩ (Nat.le_of_ble_eq_true rfl) hz (tw_X10_isText h)
/-! X10_build -/
abbrev mm_X10_build : ax_M := (RX10, cX10_build, (some .int), 6, false)
def fb_X10_build_128 (k40 : Option Nat → Int32 → Int32 → ax_S → Option (Int32 × ax_S)) : Nat → Option Nat → Int32 → Int32 → Int32 → Int32 → ax_S → Option (Int32 × ax_S)
  | 0, _, _, _, _, _, _ => none
  | n + 1, a0, a1, a2, a3, a4, s =>
    if (4) ≤ a4 then
      k40 a0 a1 (a2 + (1)) s
    else
      (ax_gr s 7 0 a0).bind fun r2 =>
      (fn_X10_at a3 ((6) + a4) s).bind fun q3 =>
      (ax_gr q3.2 7 24 a0).bind fun r4 =>
      (ax_al q3.2 9 r4 ((((8) * a2) + (4)) + a4)).bind fun x5 =>
      (ax_as q3.2 9 r2 q3.1 x5).bind fun s6 =>
      (fb_X10_build_128 k40 n) a0 a1 a2 a3 (a4 + (1)) s6
set_option maxRecDepth 100000 in
set_option maxHeartbeats 4000000 in
theorem tb_X10_build_128 {q : Int32 × ax_S} {k40 : Option Nat → Int32 → Int32 → ax_S → Option (Int32 × ax_S)} (hk40 : ∀ (a0 : Option Nat) (a1 : Int32) (a2 : Int32) (s : ax_S), k40 a0 a1 a2 s = some q → AW mm_X10_build 5 0 0 40 [(some (av_r a0)), (some (av_i a1)), (some (av_i a2)), none, none, none] [] s (some (av_i q.1), q.2)) : ∀ (n : Nat) (a0 : Option Nat) (a1 : Int32) (a2 : Int32) (a3 : Int32) (a4 : Int32) (s : ax_S) (h : fb_X10_build_128 k40 n a0 a1 a2 a3 a4 s = some q), AW mm_X10_build 5 0 0 128 [(some (av_r a0)), (some (av_i a1)), (some (av_i a2)), (some (av_i a3)), (some (av_i a4)), none] [] s (some (av_i q.1), q.2) := by
  intro n
  induction n with
  | zero =>
    intro a0 a1 a2 a3 a4 s h
    exact ax_no h
  | succ n ih =>
    intro a0 a1 a2 a3 a4 s h
    unfold fb_X10_build_128 at h
    refine ax_iload (i := 4) dX10_build_128 rfl ?_
    refine ax_iconst (v := (4)) dX10_build_130 rfl ?_
    refine ax_icmp_ge (tgt := 168) dX10_build_131 (by decide) (fun c1 => ?_) (fun c1 => ?_)
    · rw [if_pos c1] at h
      refine ax_iinc (i := 2) (v := (a2 + (1))) (L2 := [some (av_r a0), some (av_i a1), some (av_i (a2 + (1))), some (av_i a3), some (av_i a4), none]) dX10_build_168 rfl rfl (by decide) rfl rfl ?_
      refine ax_goto (tgt := 40) dX10_build_171 (by decide) ?_
      exact ax_less (L' := [(some (av_r a0)), (some (av_i a1)), (some (av_i (a2 + (1)))), none, none, none]) ⟨rfl, rfl, rfl, trivial⟩ (hk40 _ _ _ _ h)
    · rw [if_neg c1] at h
      refine ax_aload_n (i := 0) dX10_build_134 rfl rfl ?_
      obtain ⟨r2, gr2, h⟩ := Option.bind_eq_some_iff.mp h
      refine ax_getR (q := (RX10, TX10, 28)) (t := 7) (k := 0) dX10_build_135 rfl (by decide) wd_761 rfl gr2 ?_
      refine ax_iload_n (i := 3) dX10_build_138 rfl rfl ?_
      refine ax_bipush (v := (6)) dX10_build_139 rfl ?_
      refine ax_iload (i := 4) dX10_build_141 rfl ?_
      refine ax_iadd dX10_build_143 ?_
      obtain ⟨q3, gq3, h⟩ := Option.bind_eq_some_iff.mp h
      refine ax_cS (As := [av_i a3, av_i ((6) + a4)]) dX10_build_144 (th_X10_at gq3) (And.intro wd_863 wd_60) wd_861 wd_862 cy_X10_at (by omega) (by decide) (Nat.le_of_ble_eq_true rfl) rfl ?_
      refine ax_aload_n (i := 0) dX10_build_147 rfl rfl ?_
      obtain ⟨r4, gr4, h⟩ := Option.bind_eq_some_iff.mp h
      refine ax_getR (q := (RX10, TX10, 28)) (t := 7) (k := 24) dX10_build_148 rfl (by decide) wd_785 rfl gr4 ?_
      refine ax_bipush (v := (8)) dX10_build_151 rfl ?_
      refine ax_iload_n (i := 2) dX10_build_153 rfl rfl ?_
      refine ax_imul dX10_build_154 ?_
      refine ax_iconst (v := (4)) dX10_build_155 rfl ?_
      refine ax_iadd dX10_build_156 ?_
      refine ax_iload (i := 4) dX10_build_157 rfl ?_
      refine ax_iadd dX10_build_159 ?_
      obtain ⟨x5, gx5, h⟩ := Option.bind_eq_some_iff.mp h
      refine ax_iald dX10_build_160 gx5 ?_
      obtain ⟨s6, gs6, h⟩ := Option.bind_eq_some_iff.mp h
      refine ax_iast dX10_build_161 gs6 ?_
      refine ax_iinc (i := 4) (v := (a4 + (1))) (L2 := [some (av_r a0), some (av_i a1), some (av_i a2), some (av_i a3), some (av_i (a4 + (1))), none]) dX10_build_162 rfl rfl (by decide) rfl rfl ?_
      refine ax_goto (tgt := 128) dX10_build_165 (by decide) ?_
      exact ax_less (L' := [(some (av_r a0)), (some (av_i a1)), (some (av_i a2)), (some (av_i a3)), (some (av_i (a4 + (1)))), none]) ⟨rfl, rfl, rfl, rfl, rfl, trivial⟩ (ih _ _ _ _ _ _ h)
def fb_X10_build_65 (k40 : Option Nat → Int32 → Int32 → ax_S → Option (Int32 × ax_S)) : Nat → Option Nat → Int32 → Int32 → Int32 → Int32 → ax_S → Option (Int32 × ax_S)
  | 0, _, _, _, _, _, _ => none
  | n + 1, a0, a1, a2, a3, a4, s =>
    if (3) ≤ a4 then
      fb_X10_build_128 k40 10000 a0 a1 a2 a3 (0) s
    else
      (ax_gr s 7 24 a0).bind fun r8 =>
      (ax_al s 9 r8 ((((8) * a2) + (1)) + a4)).bind fun x9 =>
      (ax_gr s 7 0 a0).bind fun r10 =>
      (fn_X10_at a3 ((3) + a4) s).bind fun q11 =>
      if x9 < (100) then
        (ax_as q11.2 9 r10 q11.1 x9).bind fun s13 =>
        (fb_X10_build_65 k40 n) a0 a1 a2 a3 (a4 + (1)) s13
      else
        (ax_as q11.2 9 r10 q11.1 ((a1 + x9) - (100))).bind fun s14 =>
        (fb_X10_build_65 k40 n) a0 a1 a2 a3 (a4 + (1)) s14
set_option maxRecDepth 100000 in
set_option maxHeartbeats 4000000 in
theorem tb_X10_build_65 {q : Int32 × ax_S} {k40 : Option Nat → Int32 → Int32 → ax_S → Option (Int32 × ax_S)} (hk40 : ∀ (a0 : Option Nat) (a1 : Int32) (a2 : Int32) (s : ax_S), k40 a0 a1 a2 s = some q → AW mm_X10_build 5 0 0 40 [(some (av_r a0)), (some (av_i a1)), (some (av_i a2)), none, none, none] [] s (some (av_i q.1), q.2)) : ∀ (n : Nat) (a0 : Option Nat) (a1 : Int32) (a2 : Int32) (a3 : Int32) (a4 : Int32) (s : ax_S) (h : fb_X10_build_65 k40 n a0 a1 a2 a3 a4 s = some q), AW mm_X10_build 5 0 0 65 [(some (av_r a0)), (some (av_i a1)), (some (av_i a2)), (some (av_i a3)), (some (av_i a4)), none] [] s (some (av_i q.1), q.2) := by
  intro n
  induction n with
  | zero =>
    intro a0 a1 a2 a3 a4 s h
    exact ax_no h
  | succ n ih =>
    intro a0 a1 a2 a3 a4 s h
    unfold fb_X10_build_65 at h
    refine ax_iload (i := 4) dX10_build_65 rfl ?_
    refine ax_iconst (v := (3)) dX10_build_67 rfl ?_
    refine ax_icmp_ge (tgt := 125) dX10_build_68 (by decide) (fun c7 => ?_) (fun c7 => ?_)
    · rw [if_pos c7] at h
      refine ax_iconst (v := (0)) dX10_build_125 rfl ?_
      refine ax_istore (i := 4) (L2 := [some (av_r a0), some (av_i a1), some (av_i a2), some (av_i a3), some (av_i (0)), none]) dX10_build_126 (by decide) rfl rfl ?_
      exact ax_less (L' := [(some (av_r a0)), (some (av_i a1)), (some (av_i a2)), (some (av_i a3)), (some (av_i (0))), none]) ⟨rfl, rfl, rfl, rfl, rfl, trivial⟩ (tb_X10_build_128 hk40 _ _ _ _ _ _ _ h)
    · rw [if_neg c7] at h
      refine ax_aload_n (i := 0) dX10_build_71 rfl rfl ?_
      obtain ⟨r8, gr8, h⟩ := Option.bind_eq_some_iff.mp h
      refine ax_getR (q := (RX10, TX10, 28)) (t := 7) (k := 24) dX10_build_72 rfl (by decide) wd_785 rfl gr8 ?_
      refine ax_bipush (v := (8)) dX10_build_75 rfl ?_
      refine ax_iload_n (i := 2) dX10_build_77 rfl rfl ?_
      refine ax_imul dX10_build_78 ?_
      refine ax_iconst (v := (1)) dX10_build_79 rfl ?_
      refine ax_iadd dX10_build_80 ?_
      refine ax_iload (i := 4) dX10_build_81 rfl ?_
      refine ax_iadd dX10_build_83 ?_
      obtain ⟨x9, gx9, h⟩ := Option.bind_eq_some_iff.mp h
      refine ax_iald dX10_build_84 gx9 ?_
      refine ax_istore (i := 5) (L2 := [some (av_r a0), some (av_i a1), some (av_i a2), some (av_i a3), some (av_i a4), some (av_i x9)]) dX10_build_85 (by decide) rfl rfl ?_
      refine ax_aload_n (i := 0) dX10_build_87 rfl rfl ?_
      obtain ⟨r10, gr10, h⟩ := Option.bind_eq_some_iff.mp h
      refine ax_getR (q := (RX10, TX10, 28)) (t := 7) (k := 0) dX10_build_88 rfl (by decide) wd_761 rfl gr10 ?_
      refine ax_iload_n (i := 3) dX10_build_91 rfl rfl ?_
      refine ax_iconst (v := (3)) dX10_build_92 rfl ?_
      refine ax_iload (i := 4) dX10_build_93 rfl ?_
      refine ax_iadd dX10_build_95 ?_
      obtain ⟨q11, gq11, h⟩ := Option.bind_eq_some_iff.mp h
      refine ax_cS (As := [av_i a3, av_i ((3) + a4)]) dX10_build_96 (th_X10_at gq11) (And.intro wd_863 wd_60) wd_861 wd_862 cy_X10_at (by omega) (by decide) (Nat.le_of_ble_eq_true rfl) rfl ?_
      refine ax_iload (i := 5) dX10_build_99 rfl ?_
      refine ax_bipush (v := (100)) dX10_build_101 rfl ?_
      refine ax_icmp_lt (tgt := 116) dX10_build_103 (by decide) (fun c12 => ?_) (fun c12 => ?_)
      · rw [if_pos c12] at h
        refine ax_iload (i := 5) dX10_build_116 rfl ?_
        obtain ⟨s13, gs13, h⟩ := Option.bind_eq_some_iff.mp h
        refine ax_iast dX10_build_118 gs13 ?_
        refine ax_iinc (i := 4) (v := (a4 + (1))) (L2 := [some (av_r a0), some (av_i a1), some (av_i a2), some (av_i a3), some (av_i (a4 + (1))), some (av_i x9)]) dX10_build_119 rfl rfl (by decide) rfl rfl ?_
        refine ax_goto (tgt := 65) dX10_build_122 (by decide) ?_
        exact ax_less (L' := [(some (av_r a0)), (some (av_i a1)), (some (av_i a2)), (some (av_i a3)), (some (av_i (a4 + (1)))), none]) ⟨rfl, rfl, rfl, rfl, rfl, trivial⟩ (ih _ _ _ _ _ _ h)
      · rw [if_neg c12] at h
        refine ax_iload_n (i := 1) dX10_build_106 rfl rfl ?_
        refine ax_iload (i := 5) dX10_build_107 rfl ?_
        refine ax_iadd dX10_build_109 ?_
        refine ax_bipush (v := (100)) dX10_build_110 rfl ?_
        refine ax_isub dX10_build_112 ?_
        refine ax_goto (tgt := 118) dX10_build_113 (by decide) ?_
        obtain ⟨s14, gs14, h⟩ := Option.bind_eq_some_iff.mp h
        refine ax_iast dX10_build_118 gs14 ?_
        refine ax_iinc (i := 4) (v := (a4 + (1))) (L2 := [some (av_r a0), some (av_i a1), some (av_i a2), some (av_i a3), some (av_i (a4 + (1))), some (av_i x9)]) dX10_build_119 rfl rfl (by decide) rfl rfl ?_
        refine ax_goto (tgt := 65) dX10_build_122 (by decide) ?_
        exact ax_less (L' := [(some (av_r a0)), (some (av_i a1)), (some (av_i a2)), (some (av_i a3)), (some (av_i (a4 + (1)))), none]) ⟨rfl, rfl, rfl, rfl, rfl, trivial⟩ (ih _ _ _ _ _ _ h)
def fb_X10_build_40 : Nat → Option Nat → Int32 → Int32 → ax_S → Option (Int32 × ax_S)
  | 0, _, _, _, _ => none
  | n + 1, a0, a1, a2, s =>
    (ax_gi s 7 25 a0).bind fun x15 =>
    if x15 ≤ a2 then
      (ax_gr s 7 26 a0).bind fun r17 =>
      (ax_al s 9 r17 (0)).bind fun x18 =>
      if x18 < (100) then
        (ax_gr s 7 26 a0).bind fun r20 =>
        (ax_al s 9 r20 (0)).bind fun x21 =>
        some (x21, s)
      else
        (ax_gr s 7 26 a0).bind fun r22 =>
        (ax_al s 9 r22 (0)).bind fun x23 =>
        some (((a1 + x23) - (100)), s)
    else
      (ax_gr s 7 24 a0).bind fun r24 =>
      (ax_al s 9 r24 ((8) * a2)).bind fun x25 =>
      (ax_sh s 7 a0).bind fun w26 =>
      (fn_X10_adds a0 x25 s).bind fun q27 =>
      fb_X10_build_65 (fb_X10_build_40 n) 10000 a0 a1 a2 q27.1 (0) q27.2
set_option maxRecDepth 100000 in
set_option maxHeartbeats 4000000 in
theorem tb_X10_build_40 {q : Int32 × ax_S} : ∀ (n : Nat) (a0 : Option Nat) (a1 : Int32) (a2 : Int32) (s : ax_S) (h : fb_X10_build_40 n a0 a1 a2 s = some q), AW mm_X10_build 5 0 0 40 [(some (av_r a0)), (some (av_i a1)), (some (av_i a2)), none, none, none] [] s (some (av_i q.1), q.2) := by
  intro n
  induction n with
  | zero =>
    intro a0 a1 a2 s h
    exact ax_no h
  | succ n ih =>
    intro a0 a1 a2 s h
    unfold fb_X10_build_40 at h
    refine ax_iload_n (i := 2) dX10_build_40 rfl rfl ?_
    refine ax_aload_n (i := 0) dX10_build_41 rfl rfl ?_
    obtain ⟨x15, gx15, h⟩ := Option.bind_eq_some_iff.mp h
    refine ax_getI (q := (RX10, TX10, 28)) (t := 7) (k := 25) dX10_build_42 rfl (by decide) wd_786 rfl gx15 ?_
    refine ax_icmp_ge (tgt := 174) dX10_build_45 (by decide) (fun c16 => ?_) (fun c16 => ?_)
    · rw [if_pos c16] at h
      refine ax_aload_n (i := 0) dX10_build_174 rfl rfl ?_
      obtain ⟨r17, gr17, h⟩ := Option.bind_eq_some_iff.mp h
      refine ax_getR (q := (RX10, TX10, 28)) (t := 7) (k := 26) dX10_build_175 rfl (by decide) wd_787 rfl gr17 ?_
      refine ax_iconst (v := (0)) dX10_build_178 rfl ?_
      obtain ⟨x18, gx18, h⟩ := Option.bind_eq_some_iff.mp h
      refine ax_iald dX10_build_179 gx18 ?_
      refine ax_bipush (v := (100)) dX10_build_180 rfl ?_
      refine ax_icmp_lt (tgt := 199) dX10_build_182 (by decide) (fun c19 => ?_) (fun c19 => ?_)
      · rw [if_pos c19] at h
        refine ax_aload_n (i := 0) dX10_build_199 rfl rfl ?_
        obtain ⟨r20, gr20, h⟩ := Option.bind_eq_some_iff.mp h
        refine ax_getR (q := (RX10, TX10, 28)) (t := 7) (k := 26) dX10_build_200 rfl (by decide) wd_787 rfl gr20 ?_
        refine ax_iconst (v := (0)) dX10_build_203 rfl ?_
        obtain ⟨x21, gx21, h⟩ := Option.bind_eq_some_iff.mp h
        refine ax_iald dX10_build_204 gx21 ?_
        exact ax_reti dX10_build_205 h
      · rw [if_neg c19] at h
        refine ax_iload_n (i := 1) dX10_build_185 rfl rfl ?_
        refine ax_aload_n (i := 0) dX10_build_186 rfl rfl ?_
        obtain ⟨r22, gr22, h⟩ := Option.bind_eq_some_iff.mp h
        refine ax_getR (q := (RX10, TX10, 28)) (t := 7) (k := 26) dX10_build_187 rfl (by decide) wd_787 rfl gr22 ?_
        refine ax_iconst (v := (0)) dX10_build_190 rfl ?_
        obtain ⟨x23, gx23, h⟩ := Option.bind_eq_some_iff.mp h
        refine ax_iald dX10_build_191 gx23 ?_
        refine ax_iadd dX10_build_192 ?_
        refine ax_bipush (v := (100)) dX10_build_193 rfl ?_
        refine ax_isub dX10_build_195 ?_
        refine ax_goto (tgt := 205) dX10_build_196 (by decide) ?_
        exact ax_reti dX10_build_205 h
    · rw [if_neg c16] at h
      refine ax_aload_n (i := 0) dX10_build_48 rfl rfl ?_
      refine ax_aload_n (i := 0) dX10_build_49 rfl rfl ?_
      obtain ⟨r24, gr24, h⟩ := Option.bind_eq_some_iff.mp h
      refine ax_getR (q := (RX10, TX10, 28)) (t := 7) (k := 24) dX10_build_50 rfl (by decide) wd_785 rfl gr24 ?_
      refine ax_bipush (v := (8)) dX10_build_53 rfl ?_
      refine ax_iload_n (i := 2) dX10_build_55 rfl rfl ?_
      refine ax_imul dX10_build_56 ?_
      obtain ⟨x25, gx25, h⟩ := Option.bind_eq_some_iff.mp h
      refine ax_iald dX10_build_57 gx25 ?_
      obtain ⟨w26, gw26, h⟩ := Option.bind_eq_some_iff.mp h
      obtain ⟨q27, gq27, h⟩ := Option.bind_eq_some_iff.mp h
      refine ax_cV (As := [av_i x25]) (t := 7) dX10_build_58 gw26 (th_X10_adds gq27) rfl (And.intro wd_860 wd_60) wd_857 wd_859 wd_17 cy_X10_adds (by omega) (by decide) (Nat.le_of_ble_eq_true rfl) rfl ?_
      refine ax_istore_n (i := 3) (L2 := [some (av_r a0), some (av_i a1), some (av_i a2), some (av_i q27.1), none, none]) dX10_build_61 rfl (by decide) rfl rfl ?_
      refine ax_iconst (v := (0)) dX10_build_62 rfl ?_
      refine ax_istore (i := 4) (L2 := [some (av_r a0), some (av_i a1), some (av_i a2), some (av_i q27.1), some (av_i (0)), none]) dX10_build_63 (by decide) rfl rfl ?_
      exact ax_less (L' := [(some (av_r a0)), (some (av_i a1)), (some (av_i a2)), (some (av_i q27.1)), (some (av_i (0))), none]) ⟨rfl, rfl, rfl, rfl, rfl, trivial⟩ (tb_X10_build_65 ih _ _ _ _ _ _ _ h)
def fn_X10_build (a0 : Option Nat) (s : ax_S) : Option (Int32 × ax_S) :=
  (ax_sh s 7 a0).bind fun w28 =>
  (fn_X10_isText a0 s).bind fun q29 =>
  if q29.1 = 0 then
    some ((-1003), q29.2)
  else
    (ax_gr q29.2 7 0 a0).bind fun r31 =>
    (ax_al q29.2 9 r31 (0)).bind fun x32 =>
    (ax_gi q29.2 7 25 a0).bind fun x33 =>
    if (x32 + x33) ≤ (12) then
      (ax_gr q29.2 7 0 a0).bind fun r35 =>
      (ax_al q29.2 9 r35 (0)).bind fun x36 =>
      fb_X10_build_40 10000 a0 x36 (0) q29.2
    else
      some ((-1004), q29.2)
set_option maxRecDepth 100000 in
set_option maxHeartbeats 4000000 in
theorem tw_X10_build {q : Int32 × ax_S} {a0 : Option Nat} {s : ax_S} (h : fn_X10_build a0 s = some q) : AW mm_X10_build 5 0 0 0 [some (av_r a0), none, none, none, none, none] [] s (some (av_i q.1), q.2) := by
  unfold fn_X10_build at h
  refine ax_aload_n (i := 0) dX10_build_0 rfl rfl ?_
  obtain ⟨w28, gw28, h⟩ := Option.bind_eq_some_iff.mp h
  obtain ⟨q29, gq29, h⟩ := Option.bind_eq_some_iff.mp h
  refine ax_cV (As := []) (t := 7) dX10_build_1 gw28 (th_X10_isText gq29) rfl (And.intro wd_1053 wd_60) wd_1050 wd_1052 wd_43 cy_X10_isText (by omega) (by decide) (Nat.le_of_ble_eq_true rfl) rfl ?_
  refine ax_if_ne (tgt := 11) dX10_build_4 (by decide) (fun c30 => ?_) (fun c30 => ?_)
  · rw [if_neg c30] at h
    refine ax_aload_n (i := 0) dX10_build_11 rfl rfl ?_
    obtain ⟨r31, gr31, h⟩ := Option.bind_eq_some_iff.mp h
    refine ax_getR (q := (RX10, TX10, 28)) (t := 7) (k := 0) dX10_build_12 rfl (by decide) wd_761 rfl gr31 ?_
    refine ax_iconst (v := (0)) dX10_build_15 rfl ?_
    obtain ⟨x32, gx32, h⟩ := Option.bind_eq_some_iff.mp h
    refine ax_iald dX10_build_16 gx32 ?_
    refine ax_aload_n (i := 0) dX10_build_17 rfl rfl ?_
    obtain ⟨x33, gx33, h⟩ := Option.bind_eq_some_iff.mp h
    refine ax_getI (q := (RX10, TX10, 28)) (t := 7) (k := 25) dX10_build_18 rfl (by decide) wd_786 rfl gx33 ?_
    refine ax_iadd dX10_build_21 ?_
    refine ax_bipush (v := (12)) dX10_build_22 rfl ?_
    refine ax_icmp_le (tgt := 31) dX10_build_24 (by decide) (fun c34 => ?_) (fun c34 => ?_)
    · rw [if_pos c34] at h
      refine ax_aload_n (i := 0) dX10_build_31 rfl rfl ?_
      obtain ⟨r35, gr35, h⟩ := Option.bind_eq_some_iff.mp h
      refine ax_getR (q := (RX10, TX10, 28)) (t := 7) (k := 0) dX10_build_32 rfl (by decide) wd_761 rfl gr35 ?_
      refine ax_iconst (v := (0)) dX10_build_35 rfl ?_
      obtain ⟨x36, gx36, h⟩ := Option.bind_eq_some_iff.mp h
      refine ax_iald dX10_build_36 gx36 ?_
      refine ax_istore_n (i := 1) (L2 := [some (av_r a0), some (av_i x36), none, none, none, none]) dX10_build_37 rfl (by decide) rfl rfl ?_
      refine ax_iconst (v := (0)) dX10_build_38 rfl ?_
      refine ax_istore_n (i := 2) (L2 := [some (av_r a0), some (av_i x36), some (av_i (0)), none, none, none]) dX10_build_39 rfl (by decide) rfl rfl ?_
      exact ax_less (L' := [(some (av_r a0)), (some (av_i x36)), (some (av_i (0))), none, none, none]) ⟨rfl, rfl, rfl, trivial⟩ (tb_X10_build_40  _ _ _ _ _ h)
    · rw [if_neg c34] at h
      refine ax_sipush (v := (-1004)) dX10_build_27 rfl ?_
      exact ax_reti dX10_build_30 h
  · rw [if_pos c30] at h
    refine ax_sipush (v := (-1003)) dX10_build_7 rfl ?_
    exact ax_reti dX10_build_10 h
set_option maxRecDepth 100000 in
set_option maxHeartbeats 4000000 in
theorem th_X10_build {q : Int32 × ax_S} {a0 : Option Nat} {s : ax_S} (h : fn_X10_build a0 s = some q) : AC mm_X10_build yX10_build 5 0 0 [av_r a0] s (some (av_i q.1), q.2) := by
  exact ax_met (L0 := [some (av_r a0), none, none, none, none, none]) (by decide +kernel) rfl (fun h => absurd h (by decide)) ⟨rfl, trivial⟩ (Nat.le_of_ble_eq_true rfl) trivial (tw_X10_build h)
/-! X10_countOf -/
abbrev mm_X10_countOf : ax_M := (RX10, cX10_countOf, (some .int), 2, false)
def fn_X10_countOf (a0 : Option Nat) (a1 : Int32) (s : ax_S) : Option (Int32 × ax_S) :=
  if a1 = 0 then
    (ax_gi s 7 4 a0).bind fun x4 =>
    some (x4, s)
  else
    (ax_gr s 7 10 a0).bind fun r2 =>
    (ax_al s 9 r2 a1).bind fun x3 =>
    some (x3, s)
set_option maxRecDepth 100000 in
set_option maxHeartbeats 4000000 in
theorem tw_X10_countOf {q : Int32 × ax_S} {a0 : Option Nat} {a1 : Int32} {s : ax_S} (h : fn_X10_countOf a0 a1 s = some q) : AW mm_X10_countOf 0 0 0 0 [some (av_r a0), some (av_i a1)] [] s (some (av_i q.1), q.2) := by
  unfold fn_X10_countOf at h
  refine ax_iload_n (i := 1) dX10_countOf_0 rfl rfl ?_
  refine ax_if_ne (tgt := 11) dX10_countOf_1 (by decide) (fun c1 => ?_) (fun c1 => ?_)
  · rw [if_neg c1] at h
    refine ax_aload_n (i := 0) dX10_countOf_11 rfl rfl ?_
    obtain ⟨r2, gr2, h⟩ := Option.bind_eq_some_iff.mp h
    refine ax_getR (q := (RX10, TX10, 28)) (t := 7) (k := 10) dX10_countOf_12 rfl (by decide) wd_771 rfl gr2 ?_
    refine ax_iload_n (i := 1) dX10_countOf_15 rfl rfl ?_
    obtain ⟨x3, gx3, h⟩ := Option.bind_eq_some_iff.mp h
    refine ax_iald dX10_countOf_16 gx3 ?_
    exact ax_reti dX10_countOf_17 h
  · rw [if_pos c1] at h
    refine ax_aload_n (i := 0) dX10_countOf_4 rfl rfl ?_
    obtain ⟨x4, gx4, h⟩ := Option.bind_eq_some_iff.mp h
    refine ax_getI (q := (RX10, TX10, 28)) (t := 7) (k := 4) dX10_countOf_5 rfl (by decide) wd_765 rfl gx4 ?_
    refine ax_goto (tgt := 17) dX10_countOf_8 (by decide) ?_
    exact ax_reti dX10_countOf_17 h
set_option maxRecDepth 100000 in
set_option maxHeartbeats 4000000 in
theorem th_X10_countOf {q : Int32 × ax_S} {a0 : Option Nat} {a1 : Int32} {s : ax_S} (h : fn_X10_countOf a0 a1 s = some q) : AC mm_X10_countOf yX10_countOf 0 0 0 [av_r a0, av_i a1] s (some (av_i q.1), q.2) := by
  exact ax_met (L0 := [some (av_r a0), some (av_i a1)]) (by decide +kernel) rfl (fun h => absurd h (by decide)) ⟨rfl, rfl, trivial⟩ (Nat.le_of_ble_eq_true rfl) trivial (tw_X10_countOf h)
/-! X10_find -/
abbrev mm_X10_find : ax_M := (RX10, cX10_find, (some .int), 4, false)
def fb_X10_find_2 : Nat → Option Nat → Int32 → Int32 → Int32 → ax_S → Option (Int32 × ax_S)
  | 0, _, _, _, _, _ => none
  | n + 1, a0, a1, a2, a3, s =>
    (ax_gi s 7 4 a0).bind fun x1 =>
    if x1 ≤ a3 then
      some ((-1), s)
    else
      (ax_gr s 7 5 a0).bind fun r3 =>
      (ax_al s 9 r3 a3).bind fun x4 =>
      if x4 = a1 then
        (ax_gr s 7 6 a0).bind fun r6 =>
        (ax_al s 9 r6 a3).bind fun x7 =>
        if x7 = a2 then
          some (a3, s)
        else
          (fb_X10_find_2 n) a0 a1 a2 (a3 + (1)) s
      else
        (fb_X10_find_2 n) a0 a1 a2 (a3 + (1)) s
set_option maxRecDepth 100000 in
set_option maxHeartbeats 4000000 in
theorem tb_X10_find_2 {q : Int32 × ax_S} : ∀ (n : Nat) (a0 : Option Nat) (a1 : Int32) (a2 : Int32) (a3 : Int32) (s : ax_S) (h : fb_X10_find_2 n a0 a1 a2 a3 s = some q), AW mm_X10_find 0 0 0 2 [(some (av_r a0)), (some (av_i a1)), (some (av_i a2)), (some (av_i a3))] [] s (some (av_i q.1), q.2) := by
  intro n
  induction n with
  | zero =>
    intro a0 a1 a2 a3 s h
    exact ax_no h
  | succ n ih =>
    intro a0 a1 a2 a3 s h
    unfold fb_X10_find_2 at h
    refine ax_iload_n (i := 3) dX10_find_2 rfl rfl ?_
    refine ax_aload_n (i := 0) dX10_find_3 rfl rfl ?_
    obtain ⟨x1, gx1, h⟩ := Option.bind_eq_some_iff.mp h
    refine ax_getI (q := (RX10, TX10, 28)) (t := 7) (k := 4) dX10_find_4 rfl (by decide) wd_765 rfl gx1 ?_
    refine ax_icmp_ge (tgt := 38) dX10_find_7 (by decide) (fun c2 => ?_) (fun c2 => ?_)
    · rw [if_pos c2] at h
      refine ax_iconst (v := (-1)) dX10_find_38 rfl ?_
      exact ax_reti dX10_find_39 h
    · rw [if_neg c2] at h
      refine ax_aload_n (i := 0) dX10_find_10 rfl rfl ?_
      obtain ⟨r3, gr3, h⟩ := Option.bind_eq_some_iff.mp h
      refine ax_getR (q := (RX10, TX10, 28)) (t := 7) (k := 5) dX10_find_11 rfl (by decide) wd_766 rfl gr3 ?_
      refine ax_iload_n (i := 3) dX10_find_14 rfl rfl ?_
      obtain ⟨x4, gx4, h⟩ := Option.bind_eq_some_iff.mp h
      refine ax_iald dX10_find_15 gx4 ?_
      refine ax_iload_n (i := 1) dX10_find_16 rfl rfl ?_
      refine ax_icmp_ne (tgt := 32) dX10_find_17 (by decide) (fun c5 => ?_) (fun c5 => ?_)
      · rw [if_neg c5] at h
        refine ax_iinc (i := 3) (v := (a3 + (1))) (L2 := [some (av_r a0), some (av_i a1), some (av_i a2), some (av_i (a3 + (1)))]) dX10_find_32 rfl rfl (by decide) rfl rfl ?_
        refine ax_goto (tgt := 2) dX10_find_35 (by decide) ?_
        exact ax_less (L' := [(some (av_r a0)), (some (av_i a1)), (some (av_i a2)), (some (av_i (a3 + (1))))]) ⟨rfl, rfl, rfl, rfl, trivial⟩ (ih _ _ _ _ _ h)
      · rw [if_pos c5] at h
        refine ax_aload_n (i := 0) dX10_find_20 rfl rfl ?_
        obtain ⟨r6, gr6, h⟩ := Option.bind_eq_some_iff.mp h
        refine ax_getR (q := (RX10, TX10, 28)) (t := 7) (k := 6) dX10_find_21 rfl (by decide) wd_767 rfl gr6 ?_
        refine ax_iload_n (i := 3) dX10_find_24 rfl rfl ?_
        obtain ⟨x7, gx7, h⟩ := Option.bind_eq_some_iff.mp h
        refine ax_iald dX10_find_25 gx7 ?_
        refine ax_iload_n (i := 2) dX10_find_26 rfl rfl ?_
        refine ax_icmp_ne (tgt := 32) dX10_find_27 (by decide) (fun c8 => ?_) (fun c8 => ?_)
        · rw [if_neg c8] at h
          refine ax_iinc (i := 3) (v := (a3 + (1))) (L2 := [some (av_r a0), some (av_i a1), some (av_i a2), some (av_i (a3 + (1)))]) dX10_find_32 rfl rfl (by decide) rfl rfl ?_
          refine ax_goto (tgt := 2) dX10_find_35 (by decide) ?_
          exact ax_less (L' := [(some (av_r a0)), (some (av_i a1)), (some (av_i a2)), (some (av_i (a3 + (1))))]) ⟨rfl, rfl, rfl, rfl, trivial⟩ (ih _ _ _ _ _ h)
        · rw [if_pos c8] at h
          refine ax_iload_n (i := 3) dX10_find_30 rfl rfl ?_
          exact ax_reti dX10_find_31 h
def fn_X10_find (a0 : Option Nat) (a1 : Int32) (a2 : Int32) (s : ax_S) : Option (Int32 × ax_S) :=
  fb_X10_find_2 10000 a0 a1 a2 (0) s
set_option maxRecDepth 100000 in
set_option maxHeartbeats 4000000 in
theorem tw_X10_find {q : Int32 × ax_S} {a0 : Option Nat} {a1 : Int32} {a2 : Int32} {s : ax_S} (h : fn_X10_find a0 a1 a2 s = some q) : AW mm_X10_find 0 0 0 0 [some (av_r a0), some (av_i a1), some (av_i a2), none] [] s (some (av_i q.1), q.2) := by
  unfold fn_X10_find at h
  refine ax_iconst (v := (0)) dX10_find_0 rfl ?_
  refine ax_istore_n (i := 3) (L2 := [some (av_r a0), some (av_i a1), some (av_i a2), some (av_i (0))]) dX10_find_1 rfl (by decide) rfl rfl ?_
  exact ax_less (L' := [(some (av_r a0)), (some (av_i a1)), (some (av_i a2)), (some (av_i (0)))]) ⟨rfl, rfl, rfl, rfl, trivial⟩ (tb_X10_find_2  _ _ _ _ _ _ h)
set_option maxRecDepth 100000 in
set_option maxHeartbeats 4000000 in
theorem th_X10_find {q : Int32 × ax_S} {a0 : Option Nat} {a1 : Int32} {a2 : Int32} {s : ax_S} (h : fn_X10_find a0 a1 a2 s = some q) : AC mm_X10_find yX10_find 0 0 0 [av_r a0, av_i a1, av_i a2] s (some (av_i q.1), q.2) := by
  exact ax_met (L0 := [some (av_r a0), some (av_i a1), some (av_i a2), none]) (by decide +kernel) rfl (fun h => absurd h (by decide)) ⟨rfl, rfl, rfl, trivial⟩ (Nat.le_of_ble_eq_true rfl) trivial (tw_X10_find h)
/-! X10_kind -/
abbrev mm_X10_kind : ax_M := (RX10, cX10_kind, (some .int), 2, false)
def fn_X10_kind (a0 : Option Nat) (a1 : Int32) (s : ax_S) : Option (Int32 × ax_S) :=
  (ax_gr s 7 0 a0).bind fun r1 =>
  (fn_X10_at a1 (0) s).bind fun q2 =>
  (ax_al q2.2 9 r1 q2.1).bind fun x3 =>
  some (x3, q2.2)
set_option maxRecDepth 100000 in
set_option maxHeartbeats 4000000 in
theorem tw_X10_kind {q : Int32 × ax_S} {a0 : Option Nat} {a1 : Int32} {s : ax_S} (h : fn_X10_kind a0 a1 s = some q) : AW mm_X10_kind 1 0 0 0 [some (av_r a0), some (av_i a1)] [] s (some (av_i q.1), q.2) := by
  unfold fn_X10_kind at h
  refine ax_aload_n (i := 0) dX10_kind_0 rfl rfl ?_
  obtain ⟨r1, gr1, h⟩ := Option.bind_eq_some_iff.mp h
  refine ax_getR (q := (RX10, TX10, 28)) (t := 7) (k := 0) dX10_kind_1 rfl (by decide) wd_761 rfl gr1 ?_
  refine ax_iload_n (i := 1) dX10_kind_4 rfl rfl ?_
  refine ax_iconst (v := (0)) dX10_kind_5 rfl ?_
  obtain ⟨q2, gq2, h⟩ := Option.bind_eq_some_iff.mp h
  refine ax_cS (As := [av_i a1, av_i (0)]) dX10_kind_6 (th_X10_at gq2) (And.intro wd_863 wd_60) wd_861 wd_862 cy_X10_at (by omega) (by decide) (Nat.le_of_ble_eq_true rfl) rfl ?_
  obtain ⟨x3, gx3, h⟩ := Option.bind_eq_some_iff.mp h
  refine ax_iald dX10_kind_9 gx3 ?_
  exact ax_reti dX10_kind_10 h
set_option maxRecDepth 100000 in
set_option maxHeartbeats 4000000 in
theorem th_X10_kind {q : Int32 × ax_S} {a0 : Option Nat} {a1 : Int32} {s : ax_S} (h : fn_X10_kind a0 a1 s = some q) : AC mm_X10_kind yX10_kind 1 0 0 [av_r a0, av_i a1] s (some (av_i q.1), q.2) := by
  exact ax_met (L0 := [some (av_r a0), some (av_i a1)]) (by decide +kernel) rfl (fun h => absurd h (by decide)) ⟨rfl, rfl, trivial⟩ (Nat.le_of_ble_eq_true rfl) trivial (tw_X10_kind h)
/-! X10_more -/
abbrev mm_X10_more : ax_M := (RX10, cX10_more, (some .long), 3, false)
def fn_X10_more (a0 : Int64) (a2 : Int32) (s : ax_S) : Option (Int64 × ax_S) :=
  some ((((31) * a0) + a2.toInt64), s)
set_option maxRecDepth 100000 in
set_option maxHeartbeats 4000000 in
theorem tw_X10_more {q : Int64 × ax_S} {a0 : Int64} {a2 : Int32} {s : ax_S} (h : fn_X10_more a0 a2 s = some q) : AW mm_X10_more 0 0 0 0 [some (av_l a0), none, some (av_i a2)] [] s (some (av_l q.1), q.2) := by
  unfold fn_X10_more at h
  refine ax_ldc2 (v := (31)) dX10_more_0 wd_1110 ?_
  refine ax_lload_n (i := 0) dX10_more_3 rfl rfl ?_
  refine ax_lmul dX10_more_4 ?_
  refine ax_iload_n (i := 2) dX10_more_5 rfl rfl ?_
  refine ax_i2l dX10_more_6 ?_
  refine ax_ladd dX10_more_7 ?_
  exact ax_retl dX10_more_8 h
set_option maxRecDepth 100000 in
set_option maxHeartbeats 4000000 in
theorem th_X10_more {q : Int64 × ax_S} {a0 : Int64} {a2 : Int32} {s : ax_S} (h : fn_X10_more a0 a2 s = some q) : AC mm_X10_more yX10_more 0 0 0 [av_l a0, av_i a2] s (some (av_l q.1), q.2) := by
  exact ax_met (L0 := [some (av_l a0), none, some (av_i a2)]) (by decide +kernel) rfl (fun h => absurd h (by decide)) ⟨rfl, rfl, trivial⟩ (Nat.le_of_ble_eq_true rfl) trivial (tw_X10_more h)
/-! X10_dependents -/
abbrev mm_X10_dependents : ax_M := (RX10, cX10_dependents, (some .int), 7, false)
def fb_X10_dependents_75 (k6 : Option Nat → Int32 → Int32 → ax_S → Option (Int32 × ax_S)) (k15 : Option Nat → Int32 → Int32 → Int32 → ax_S → Option (Int32 × ax_S)) (k29 : Option Nat → Int32 → Int32 → Int32 → Int32 → ax_S → Option (Int32 × ax_S)) (a0 : Option Nat) (a3 : Int32) (a4 : Int32) (a5 : Int32) (b0 : Int32) (b1 : Int32) (s : ax_S) : Option (Int32 × ax_S) :=
  ax_bd ((b0 ||| b1)) fun v1 =>
  k29 a0 v1 a3 a4 (a5 + (1)) s
set_option maxRecDepth 100000 in
set_option maxHeartbeats 4000000 in
theorem tb_X10_dependents_75 {q : Int32 × ax_S} {k6 : Option Nat → Int32 → Int32 → ax_S → Option (Int32 × ax_S)} {k15 : Option Nat → Int32 → Int32 → Int32 → ax_S → Option (Int32 × ax_S)} {k29 : Option Nat → Int32 → Int32 → Int32 → Int32 → ax_S → Option (Int32 × ax_S)} (hk6 : ∀ (a0 : Option Nat) (a2 : Int32) (a3 : Int32) (s : ax_S), k6 a0 a2 a3 s = some q → AW mm_X10_dependents 1 0 0 6 [(some (av_r a0)), none, (some (av_i a2)), (some (av_i a3)), none, none, none] [] s (some (av_i q.1), q.2)) (hk15 : ∀ (a0 : Option Nat) (a2 : Int32) (a3 : Int32) (a4 : Int32) (s : ax_S), k15 a0 a2 a3 a4 s = some q → AW mm_X10_dependents 1 0 0 15 [(some (av_r a0)), none, (some (av_i a2)), (some (av_i a3)), (some (av_i a4)), none, none] [] s (some (av_i q.1), q.2)) (hk29 : ∀ (a0 : Option Nat) (a2 : Int32) (a3 : Int32) (a4 : Int32) (a5 : Int32) (s : ax_S), k29 a0 a2 a3 a4 a5 s = some q → AW mm_X10_dependents 1 0 0 29 [(some (av_r a0)), none, (some (av_i a2)), (some (av_i a3)), (some (av_i a4)), (some (av_i a5)), none] [] s (some (av_i q.1), q.2)) {a0 : Option Nat} {a3 : Int32} {a4 : Int32} {a5 : Int32} {b0 : Int32} {b1 : Int32} {s : ax_S} (h : fb_X10_dependents_75 k6 k15 k29 a0 a3 a4 a5 b0 b1 s = some q) : AW mm_X10_dependents 1 0 0 75 [(some (av_r a0)), none, none, (some (av_i a3)), (some (av_i a4)), (some (av_i a5)), none] [av_i b1, av_i b0] s (some (av_i q.1), q.2) := by
  unfold fb_X10_dependents_75 at h
  refine ax_ior dX10_dependents_75 ?_
  refine ax_bdI h (fun v1 h => ?_)
  refine ax_istore_n (i := 2) (L2 := [some (av_r a0), none, some (av_i v1), some (av_i a3), some (av_i a4), some (av_i a5), none]) dX10_dependents_76 rfl (by decide) rfl rfl ?_
  refine ax_iinc (i := 5) (v := (a5 + (1))) (L2 := [some (av_r a0), none, some (av_i v1), some (av_i a3), some (av_i a4), some (av_i (a5 + (1))), none]) dX10_dependents_77 rfl rfl (by decide) rfl rfl ?_
  refine ax_goto (tgt := 29) dX10_dependents_80 (by decide) ?_
  exact ax_less (L' := [(some (av_r a0)), none, (some (av_i v1)), (some (av_i a3)), (some (av_i a4)), (some (av_i (a5 + (1)))), none]) ⟨rfl, rfl, rfl, rfl, rfl, trivial⟩ (hk29 _ _ _ _ _ _ h)
def fb_X10_dependents_74 (k6 : Option Nat → Int32 → Int32 → ax_S → Option (Int32 × ax_S)) (k15 : Option Nat → Int32 → Int32 → Int32 → ax_S → Option (Int32 × ax_S)) (k29 : Option Nat → Int32 → Int32 → Int32 → Int32 → ax_S → Option (Int32 × ax_S)) (a0 : Option Nat) (a3 : Int32) (a4 : Int32) (a5 : Int32) (b0 : Int32) (s : ax_S) : Option (Int32 × ax_S) :=
  fb_X10_dependents_75 k6 k15 k29 a0 a3 a4 a5 b0 (0) s
set_option maxRecDepth 100000 in
set_option maxHeartbeats 4000000 in
theorem tb_X10_dependents_74 {q : Int32 × ax_S} {k6 : Option Nat → Int32 → Int32 → ax_S → Option (Int32 × ax_S)} {k15 : Option Nat → Int32 → Int32 → Int32 → ax_S → Option (Int32 × ax_S)} {k29 : Option Nat → Int32 → Int32 → Int32 → Int32 → ax_S → Option (Int32 × ax_S)} (hk6 : ∀ (a0 : Option Nat) (a2 : Int32) (a3 : Int32) (s : ax_S), k6 a0 a2 a3 s = some q → AW mm_X10_dependents 1 0 0 6 [(some (av_r a0)), none, (some (av_i a2)), (some (av_i a3)), none, none, none] [] s (some (av_i q.1), q.2)) (hk15 : ∀ (a0 : Option Nat) (a2 : Int32) (a3 : Int32) (a4 : Int32) (s : ax_S), k15 a0 a2 a3 a4 s = some q → AW mm_X10_dependents 1 0 0 15 [(some (av_r a0)), none, (some (av_i a2)), (some (av_i a3)), (some (av_i a4)), none, none] [] s (some (av_i q.1), q.2)) (hk29 : ∀ (a0 : Option Nat) (a2 : Int32) (a3 : Int32) (a4 : Int32) (a5 : Int32) (s : ax_S), k29 a0 a2 a3 a4 a5 s = some q → AW mm_X10_dependents 1 0 0 29 [(some (av_r a0)), none, (some (av_i a2)), (some (av_i a3)), (some (av_i a4)), (some (av_i a5)), none] [] s (some (av_i q.1), q.2)) {a0 : Option Nat} {a3 : Int32} {a4 : Int32} {a5 : Int32} {b0 : Int32} {s : ax_S} (h : fb_X10_dependents_74 k6 k15 k29 a0 a3 a4 a5 b0 s = some q) : AW mm_X10_dependents 1 0 0 74 [(some (av_r a0)), none, none, (some (av_i a3)), (some (av_i a4)), (some (av_i a5)), none] [av_i b0] s (some (av_i q.1), q.2) := by
  unfold fb_X10_dependents_74 at h
  refine ax_iconst (v := (0)) dX10_dependents_74 rfl ?_
  exact ax_less (L' := [(some (av_r a0)), none, none, (some (av_i a3)), (some (av_i a4)), (some (av_i a5)), none]) ⟨rfl, rfl, rfl, rfl, trivial⟩ (tb_X10_dependents_75 hk6 hk15 hk29 h)
def fb_X10_dependents_29 (k6 : Option Nat → Int32 → Int32 → ax_S → Option (Int32 × ax_S)) (k15 : Option Nat → Int32 → Int32 → Int32 → ax_S → Option (Int32 × ax_S)) : Nat → Option Nat → Int32 → Int32 → Int32 → Int32 → ax_S → Option (Int32 × ax_S)
  | 0, _, _, _, _, _, _ => none
  | n + 1, a0, a2, a3, a4, a5, s =>
    if (3) ≤ a5 then
      k15 a0 a2 a3 (a4 + (1)) s
    else
      (ax_gr s 7 0 a0).bind fun r3 =>
      (fn_X10_at a4 ((3) + a5) s).bind fun q4 =>
      (ax_al q4.2 9 r3 q4.1).bind fun x5 =>
      if x5 < 0 then
        fb_X10_dependents_74 k6 k15 (fb_X10_dependents_29 k6 k15 n) a0 a3 a4 a5 a2 q4.2
      else
        if ((a2 >>> (x5 &&& 31)) &&& (1)) = (1) then
          fb_X10_dependents_75 k6 k15 (fb_X10_dependents_29 k6 k15 n) a0 a3 a4 a5 a2 ((1) <<< (a4 &&& 31)) q4.2
        else
          fb_X10_dependents_74 k6 k15 (fb_X10_dependents_29 k6 k15 n) a0 a3 a4 a5 a2 q4.2
set_option maxRecDepth 100000 in
set_option maxHeartbeats 4000000 in
theorem tb_X10_dependents_29 {q : Int32 × ax_S} {k6 : Option Nat → Int32 → Int32 → ax_S → Option (Int32 × ax_S)} {k15 : Option Nat → Int32 → Int32 → Int32 → ax_S → Option (Int32 × ax_S)} (hk6 : ∀ (a0 : Option Nat) (a2 : Int32) (a3 : Int32) (s : ax_S), k6 a0 a2 a3 s = some q → AW mm_X10_dependents 1 0 0 6 [(some (av_r a0)), none, (some (av_i a2)), (some (av_i a3)), none, none, none] [] s (some (av_i q.1), q.2)) (hk15 : ∀ (a0 : Option Nat) (a2 : Int32) (a3 : Int32) (a4 : Int32) (s : ax_S), k15 a0 a2 a3 a4 s = some q → AW mm_X10_dependents 1 0 0 15 [(some (av_r a0)), none, (some (av_i a2)), (some (av_i a3)), (some (av_i a4)), none, none] [] s (some (av_i q.1), q.2)) : ∀ (n : Nat) (a0 : Option Nat) (a2 : Int32) (a3 : Int32) (a4 : Int32) (a5 : Int32) (s : ax_S) (h : fb_X10_dependents_29 k6 k15 n a0 a2 a3 a4 a5 s = some q), AW mm_X10_dependents 1 0 0 29 [(some (av_r a0)), none, (some (av_i a2)), (some (av_i a3)), (some (av_i a4)), (some (av_i a5)), none] [] s (some (av_i q.1), q.2) := by
  intro n
  induction n with
  | zero =>
    intro a0 a2 a3 a4 a5 s h
    exact ax_no h
  | succ n ih =>
    intro a0 a2 a3 a4 a5 s h
    unfold fb_X10_dependents_29 at h
    refine ax_iload (i := 5) dX10_dependents_29 rfl ?_
    refine ax_iconst (v := (3)) dX10_dependents_31 rfl ?_
    refine ax_icmp_ge (tgt := 83) dX10_dependents_32 (by decide) (fun c2 => ?_) (fun c2 => ?_)
    · rw [if_pos c2] at h
      refine ax_iinc (i := 4) (v := (a4 + (1))) (L2 := [some (av_r a0), none, some (av_i a2), some (av_i a3), some (av_i (a4 + (1))), some (av_i a5), none]) dX10_dependents_83 rfl rfl (by decide) rfl rfl ?_
      refine ax_goto (tgt := 15) dX10_dependents_86 (by decide) ?_
      exact ax_less (L' := [(some (av_r a0)), none, (some (av_i a2)), (some (av_i a3)), (some (av_i (a4 + (1)))), none, none]) ⟨rfl, rfl, rfl, rfl, trivial⟩ (hk15 _ _ _ _ _ h)
    · rw [if_neg c2] at h
      refine ax_aload_n (i := 0) dX10_dependents_35 rfl rfl ?_
      obtain ⟨r3, gr3, h⟩ := Option.bind_eq_some_iff.mp h
      refine ax_getR (q := (RX10, TX10, 28)) (t := 7) (k := 0) dX10_dependents_36 rfl (by decide) wd_761 rfl gr3 ?_
      refine ax_iload (i := 4) dX10_dependents_39 rfl ?_
      refine ax_iconst (v := (3)) dX10_dependents_41 rfl ?_
      refine ax_iload (i := 5) dX10_dependents_42 rfl ?_
      refine ax_iadd dX10_dependents_44 ?_
      obtain ⟨q4, gq4, h⟩ := Option.bind_eq_some_iff.mp h
      refine ax_cS (As := [av_i a4, av_i ((3) + a5)]) dX10_dependents_45 (th_X10_at gq4) (And.intro wd_863 wd_60) wd_861 wd_862 cy_X10_at (by omega) (by decide) (Nat.le_of_ble_eq_true rfl) rfl ?_
      obtain ⟨x5, gx5, h⟩ := Option.bind_eq_some_iff.mp h
      refine ax_iald dX10_dependents_48 gx5 ?_
      refine ax_istore (i := 6) (L2 := [some (av_r a0), none, some (av_i a2), some (av_i a3), some (av_i a4), some (av_i a5), some (av_i x5)]) dX10_dependents_49 (by decide) rfl rfl ?_
      refine ax_iload_n (i := 2) dX10_dependents_51 rfl rfl ?_
      refine ax_iload (i := 6) dX10_dependents_52 rfl ?_
      refine ax_if_lt (tgt := 74) dX10_dependents_54 (by decide) (fun c6 => ?_) (fun c6 => ?_)
      · rw [if_pos c6] at h
        exact ax_less (L' := [(some (av_r a0)), none, none, (some (av_i a3)), (some (av_i a4)), (some (av_i a5)), none]) ⟨rfl, rfl, rfl, rfl, trivial⟩ (tb_X10_dependents_74 hk6 hk15 ih h)
      · rw [if_neg c6] at h
        refine ax_iload_n (i := 2) dX10_dependents_57 rfl rfl ?_
        refine ax_iload (i := 6) dX10_dependents_58 rfl ?_
        refine ax_ishr dX10_dependents_60 ?_
        refine ax_iconst (v := (1)) dX10_dependents_61 rfl ?_
        refine ax_iand dX10_dependents_62 ?_
        refine ax_iconst (v := (1)) dX10_dependents_63 rfl ?_
        refine ax_icmp_ne (tgt := 74) dX10_dependents_64 (by decide) (fun c7 => ?_) (fun c7 => ?_)
        · rw [if_neg c7] at h
          exact ax_less (L' := [(some (av_r a0)), none, none, (some (av_i a3)), (some (av_i a4)), (some (av_i a5)), none]) ⟨rfl, rfl, rfl, rfl, trivial⟩ (tb_X10_dependents_74 hk6 hk15 ih h)
        · rw [if_pos c7] at h
          refine ax_iconst (v := (1)) dX10_dependents_67 rfl ?_
          refine ax_iload (i := 4) dX10_dependents_68 rfl ?_
          refine ax_ishl dX10_dependents_70 ?_
          refine ax_goto (tgt := 75) dX10_dependents_71 (by decide) ?_
          exact ax_less (L' := [(some (av_r a0)), none, none, (some (av_i a3)), (some (av_i a4)), (some (av_i a5)), none]) ⟨rfl, rfl, rfl, rfl, trivial⟩ (tb_X10_dependents_75 hk6 hk15 ih h)
def fb_X10_dependents_15 (k6 : Option Nat → Int32 → Int32 → ax_S → Option (Int32 × ax_S)) : Nat → Option Nat → Int32 → Int32 → Int32 → ax_S → Option (Int32 × ax_S)
  | 0, _, _, _, _, _ => none
  | n + 1, a0, a2, a3, a4, s =>
    (ax_gr s 7 0 a0).bind fun r8 =>
    (ax_al s 9 r8 (0)).bind fun x9 =>
    if x9 ≤ a4 then
      k6 a0 a2 (a3 + (1)) s
    else
      fb_X10_dependents_29 k6 (fb_X10_dependents_15 k6 n) 10000 a0 a2 a3 a4 (0) s
set_option maxRecDepth 100000 in
set_option maxHeartbeats 4000000 in
theorem tb_X10_dependents_15 {q : Int32 × ax_S} {k6 : Option Nat → Int32 → Int32 → ax_S → Option (Int32 × ax_S)} (hk6 : ∀ (a0 : Option Nat) (a2 : Int32) (a3 : Int32) (s : ax_S), k6 a0 a2 a3 s = some q → AW mm_X10_dependents 1 0 0 6 [(some (av_r a0)), none, (some (av_i a2)), (some (av_i a3)), none, none, none] [] s (some (av_i q.1), q.2)) : ∀ (n : Nat) (a0 : Option Nat) (a2 : Int32) (a3 : Int32) (a4 : Int32) (s : ax_S) (h : fb_X10_dependents_15 k6 n a0 a2 a3 a4 s = some q), AW mm_X10_dependents 1 0 0 15 [(some (av_r a0)), none, (some (av_i a2)), (some (av_i a3)), (some (av_i a4)), none, none] [] s (some (av_i q.1), q.2) := by
  intro n
  induction n with
  | zero =>
    intro a0 a2 a3 a4 s h
    exact ax_no h
  | succ n ih =>
    intro a0 a2 a3 a4 s h
    unfold fb_X10_dependents_15 at h
    refine ax_iload (i := 4) dX10_dependents_15 rfl ?_
    refine ax_aload_n (i := 0) dX10_dependents_17 rfl rfl ?_
    obtain ⟨r8, gr8, h⟩ := Option.bind_eq_some_iff.mp h
    refine ax_getR (q := (RX10, TX10, 28)) (t := 7) (k := 0) dX10_dependents_18 rfl (by decide) wd_761 rfl gr8 ?_
    refine ax_iconst (v := (0)) dX10_dependents_21 rfl ?_
    obtain ⟨x9, gx9, h⟩ := Option.bind_eq_some_iff.mp h
    refine ax_iald dX10_dependents_22 gx9 ?_
    refine ax_icmp_ge (tgt := 89) dX10_dependents_23 (by decide) (fun c10 => ?_) (fun c10 => ?_)
    · rw [if_pos c10] at h
      refine ax_iinc (i := 3) (v := (a3 + (1))) (L2 := [some (av_r a0), none, some (av_i a2), some (av_i (a3 + (1))), some (av_i a4), none, none]) dX10_dependents_89 rfl rfl (by decide) rfl rfl ?_
      refine ax_goto (tgt := 6) dX10_dependents_92 (by decide) ?_
      exact ax_less (L' := [(some (av_r a0)), none, (some (av_i a2)), (some (av_i (a3 + (1)))), none, none, none]) ⟨rfl, rfl, rfl, trivial⟩ (hk6 _ _ _ _ h)
    · rw [if_neg c10] at h
      refine ax_iconst (v := (0)) dX10_dependents_26 rfl ?_
      refine ax_istore (i := 5) (L2 := [some (av_r a0), none, some (av_i a2), some (av_i a3), some (av_i a4), some (av_i (0)), none]) dX10_dependents_27 (by decide) rfl rfl ?_
      exact ax_less (L' := [(some (av_r a0)), none, (some (av_i a2)), (some (av_i a3)), (some (av_i a4)), (some (av_i (0))), none]) ⟨rfl, rfl, rfl, rfl, rfl, trivial⟩ (tb_X10_dependents_29 hk6 ih _ _ _ _ _ _ _ h)
def fb_X10_dependents_6 : Nat → Option Nat → Int32 → Int32 → ax_S → Option (Int32 × ax_S)
  | 0, _, _, _, _ => none
  | n + 1, a0, a2, a3, s =>
    if (12) ≤ a3 then
      some (a2, s)
    else
      fb_X10_dependents_15 (fb_X10_dependents_6 n) 10000 a0 a2 a3 (0) s
set_option maxRecDepth 100000 in
set_option maxHeartbeats 4000000 in
theorem tb_X10_dependents_6 {q : Int32 × ax_S} : ∀ (n : Nat) (a0 : Option Nat) (a2 : Int32) (a3 : Int32) (s : ax_S) (h : fb_X10_dependents_6 n a0 a2 a3 s = some q), AW mm_X10_dependents 1 0 0 6 [(some (av_r a0)), none, (some (av_i a2)), (some (av_i a3)), none, none, none] [] s (some (av_i q.1), q.2) := by
  intro n
  induction n with
  | zero =>
    intro a0 a2 a3 s h
    exact ax_no h
  | succ n ih =>
    intro a0 a2 a3 s h
    unfold fb_X10_dependents_6 at h
    refine ax_iload_n (i := 3) dX10_dependents_6 rfl rfl ?_
    refine ax_bipush (v := (12)) dX10_dependents_7 rfl ?_
    refine ax_icmp_ge (tgt := 95) dX10_dependents_9 (by decide) (fun c11 => ?_) (fun c11 => ?_)
    · rw [if_pos c11] at h
      refine ax_iload_n (i := 2) dX10_dependents_95 rfl rfl ?_
      exact ax_reti dX10_dependents_96 h
    · rw [if_neg c11] at h
      refine ax_iconst (v := (0)) dX10_dependents_12 rfl ?_
      refine ax_istore (i := 4) (L2 := [some (av_r a0), none, some (av_i a2), some (av_i a3), some (av_i (0)), none, none]) dX10_dependents_13 (by decide) rfl rfl ?_
      exact ax_less (L' := [(some (av_r a0)), none, (some (av_i a2)), (some (av_i a3)), (some (av_i (0))), none, none]) ⟨rfl, rfl, rfl, rfl, trivial⟩ (tb_X10_dependents_15 ih _ _ _ _ _ _ h)
def fn_X10_dependents (a0 : Option Nat) (a1 : Int32) (s : ax_S) : Option (Int32 × ax_S) :=
  ax_bd (((1) <<< (a1 &&& 31))) fun v12 =>
  fb_X10_dependents_6 10000 a0 v12 (0) s
set_option maxRecDepth 100000 in
set_option maxHeartbeats 4000000 in
theorem tw_X10_dependents {q : Int32 × ax_S} {a0 : Option Nat} {a1 : Int32} {s : ax_S} (h : fn_X10_dependents a0 a1 s = some q) : AW mm_X10_dependents 1 0 0 0 [some (av_r a0), some (av_i a1), none, none, none, none, none] [] s (some (av_i q.1), q.2) := by
  unfold fn_X10_dependents at h
  refine ax_iconst (v := (1)) dX10_dependents_0 rfl ?_
  refine ax_iload_n (i := 1) dX10_dependents_1 rfl rfl ?_
  refine ax_ishl dX10_dependents_2 ?_
  refine ax_bdI h (fun v12 h => ?_)
  refine ax_istore_n (i := 2) (L2 := [some (av_r a0), some (av_i a1), some (av_i v12), none, none, none, none]) dX10_dependents_3 rfl (by decide) rfl rfl ?_
  refine ax_iconst (v := (0)) dX10_dependents_4 rfl ?_
  refine ax_istore_n (i := 3) (L2 := [some (av_r a0), some (av_i a1), some (av_i v12), some (av_i (0)), none, none, none]) dX10_dependents_5 rfl (by decide) rfl rfl ?_
  exact ax_less (L' := [(some (av_r a0)), none, (some (av_i v12)), (some (av_i (0))), none, none, none]) ⟨rfl, rfl, rfl, trivial⟩ (tb_X10_dependents_6  _ _ _ _ _ h)
set_option maxRecDepth 100000 in
set_option maxHeartbeats 4000000 in
theorem th_X10_dependents {q : Int32 × ax_S} {a0 : Option Nat} {a1 : Int32} {s : ax_S} (h : fn_X10_dependents a0 a1 s = some q) : AC mm_X10_dependents yX10_dependents 1 0 0 [av_r a0, av_i a1] s (some (av_i q.1), q.2) := by
  exact ax_met (L0 := [some (av_r a0), some (av_i a1), none, none, none, none, none]) (by decide +kernel) rfl (fun h => absurd h (by decide)) ⟨rfl, rfl, trivial⟩ (Nat.le_of_ble_eq_true rfl) trivial (tw_X10_dependents h)
/-! X10_depthOf -/
abbrev mm_X10_depthOf : ax_M := (RX10, cX10_depthOf, (some .int), 6, false)
def fb_X10_depthOf_107 (k27 : Option Nat → Int32 → Int32 → ax_S → Option (Int32 × ax_S)) (k35 : Option Nat → Int32 → Int32 → Int32 → ax_S → Option (Int32 × ax_S)) (k48 : Option Nat → Int32 → Int32 → Int32 → Int32 → ax_S → Option (Int32 × ax_S)) (a0 : Option Nat) (a1 : Int32) (a2 : Int32) (a3 : Int32) (a4 : Int32) (b0 : Option Nat) (b1 : Int32) (s : ax_S) : Option (Int32 × ax_S) :=
  (ax_gr s 7 15 a0).bind fun r1 =>
  (ax_al s 9 r1 a3).bind fun x2 =>
  (ax_as s 9 b0 b1 x2).bind fun s3 =>
  k48 a0 a1 a2 a3 (a4 + (1)) s3
set_option maxRecDepth 100000 in
set_option maxHeartbeats 4000000 in
theorem tb_X10_depthOf_107 {q : Int32 × ax_S} {k27 : Option Nat → Int32 → Int32 → ax_S → Option (Int32 × ax_S)} {k35 : Option Nat → Int32 → Int32 → Int32 → ax_S → Option (Int32 × ax_S)} {k48 : Option Nat → Int32 → Int32 → Int32 → Int32 → ax_S → Option (Int32 × ax_S)} (hk27 : ∀ (a0 : Option Nat) (a1 : Int32) (a2 : Int32) (s : ax_S), k27 a0 a1 a2 s = some q → AW mm_X10_depthOf 1 0 0 27 [(some (av_r a0)), (some (av_i a1)), (some (av_i a2)), none, none, none] [] s (some (av_i q.1), q.2)) (hk35 : ∀ (a0 : Option Nat) (a1 : Int32) (a2 : Int32) (a3 : Int32) (s : ax_S), k35 a0 a1 a2 a3 s = some q → AW mm_X10_depthOf 1 0 0 35 [(some (av_r a0)), (some (av_i a1)), (some (av_i a2)), (some (av_i a3)), none, none] [] s (some (av_i q.1), q.2)) (hk48 : ∀ (a0 : Option Nat) (a1 : Int32) (a2 : Int32) (a3 : Int32) (a4 : Int32) (s : ax_S), k48 a0 a1 a2 a3 a4 s = some q → AW mm_X10_depthOf 1 0 0 48 [(some (av_r a0)), (some (av_i a1)), (some (av_i a2)), (some (av_i a3)), (some (av_i a4)), none] [] s (some (av_i q.1), q.2)) {a0 : Option Nat} {a1 : Int32} {a2 : Int32} {a3 : Int32} {a4 : Int32} {b0 : Option Nat} {b1 : Int32} {s : ax_S} (h : fb_X10_depthOf_107 k27 k35 k48 a0 a1 a2 a3 a4 b0 b1 s = some q) : AW mm_X10_depthOf 1 0 0 107 [(some (av_r a0)), (some (av_i a1)), (some (av_i a2)), (some (av_i a3)), (some (av_i a4)), none] [av_i b1, av_r b0] s (some (av_i q.1), q.2) := by
  unfold fb_X10_depthOf_107 at h
  refine ax_aload_n (i := 0) dX10_depthOf_107 rfl rfl ?_
  obtain ⟨r1, gr1, h⟩ := Option.bind_eq_some_iff.mp h
  refine ax_getR (q := (RX10, TX10, 28)) (t := 7) (k := 15) dX10_depthOf_108 rfl (by decide) wd_776 rfl gr1 ?_
  refine ax_iload_n (i := 3) dX10_depthOf_111 rfl rfl ?_
  obtain ⟨x2, gx2, h⟩ := Option.bind_eq_some_iff.mp h
  refine ax_iald dX10_depthOf_112 gx2 ?_
  obtain ⟨s3, gs3, h⟩ := Option.bind_eq_some_iff.mp h
  refine ax_iast dX10_depthOf_113 gs3 ?_
  refine ax_iinc (i := 4) (v := (a4 + (1))) (L2 := [some (av_r a0), some (av_i a1), some (av_i a2), some (av_i a3), some (av_i (a4 + (1))), none]) dX10_depthOf_114 rfl rfl (by decide) rfl rfl ?_
  refine ax_goto (tgt := 48) dX10_depthOf_117 (by decide) ?_
  exact ax_less (L' := [(some (av_r a0)), (some (av_i a1)), (some (av_i a2)), (some (av_i a3)), (some (av_i (a4 + (1)))), none]) ⟨rfl, rfl, rfl, rfl, rfl, trivial⟩ (hk48 _ _ _ _ _ _ h)
def fb_X10_depthOf_48 (k27 : Option Nat → Int32 → Int32 → ax_S → Option (Int32 × ax_S)) (k35 : Option Nat → Int32 → Int32 → Int32 → ax_S → Option (Int32 × ax_S)) : Nat → Option Nat → Int32 → Int32 → Int32 → Int32 → ax_S → Option (Int32 × ax_S)
  | 0, _, _, _, _, _, _ => none
  | n + 1, a0, a1, a2, a3, a4, s =>
    if (3) ≤ a4 then
      k35 a0 a1 a2 (a3 + (1)) s
    else
      (ax_gr s 7 0 a0).bind fun r5 =>
      (fn_X10_at a3 ((3) + a4) s).bind fun q6 =>
      (ax_al q6.2 9 r5 q6.1).bind fun x7 =>
      (ax_gr q6.2 7 15 a0).bind fun r8 =>
      if x7 < 0 then
        fb_X10_depthOf_107 k27 k35 (fb_X10_depthOf_48 k27 k35 n) a0 a1 a2 a3 a4 r8 a3 q6.2
      else
        (ax_gr q6.2 7 15 a0).bind fun r10 =>
        (ax_al q6.2 9 r10 x7).bind fun x11 =>
        (ax_gr q6.2 7 15 a0).bind fun r12 =>
        (ax_al q6.2 9 r12 a3).bind fun x13 =>
        if x11 < x13 then
          fb_X10_depthOf_107 k27 k35 (fb_X10_depthOf_48 k27 k35 n) a0 a1 a2 a3 a4 r8 a3 q6.2
        else
          (ax_gr q6.2 7 15 a0).bind fun r15 =>
          (ax_al q6.2 9 r15 x7).bind fun x16 =>
          (ax_as q6.2 9 r8 a3 (x16 + (1))).bind fun s17 =>
          (fb_X10_depthOf_48 k27 k35 n) a0 a1 a2 a3 (a4 + (1)) s17
set_option maxRecDepth 100000 in
set_option maxHeartbeats 4000000 in
theorem tb_X10_depthOf_48 {q : Int32 × ax_S} {k27 : Option Nat → Int32 → Int32 → ax_S → Option (Int32 × ax_S)} {k35 : Option Nat → Int32 → Int32 → Int32 → ax_S → Option (Int32 × ax_S)} (hk27 : ∀ (a0 : Option Nat) (a1 : Int32) (a2 : Int32) (s : ax_S), k27 a0 a1 a2 s = some q → AW mm_X10_depthOf 1 0 0 27 [(some (av_r a0)), (some (av_i a1)), (some (av_i a2)), none, none, none] [] s (some (av_i q.1), q.2)) (hk35 : ∀ (a0 : Option Nat) (a1 : Int32) (a2 : Int32) (a3 : Int32) (s : ax_S), k35 a0 a1 a2 a3 s = some q → AW mm_X10_depthOf 1 0 0 35 [(some (av_r a0)), (some (av_i a1)), (some (av_i a2)), (some (av_i a3)), none, none] [] s (some (av_i q.1), q.2)) : ∀ (n : Nat) (a0 : Option Nat) (a1 : Int32) (a2 : Int32) (a3 : Int32) (a4 : Int32) (s : ax_S) (h : fb_X10_depthOf_48 k27 k35 n a0 a1 a2 a3 a4 s = some q), AW mm_X10_depthOf 1 0 0 48 [(some (av_r a0)), (some (av_i a1)), (some (av_i a2)), (some (av_i a3)), (some (av_i a4)), none] [] s (some (av_i q.1), q.2) := by
  intro n
  induction n with
  | zero =>
    intro a0 a1 a2 a3 a4 s h
    exact ax_no h
  | succ n ih =>
    intro a0 a1 a2 a3 a4 s h
    unfold fb_X10_depthOf_48 at h
    refine ax_iload (i := 4) dX10_depthOf_48 rfl ?_
    refine ax_iconst (v := (3)) dX10_depthOf_50 rfl ?_
    refine ax_icmp_ge (tgt := 120) dX10_depthOf_51 (by decide) (fun c4 => ?_) (fun c4 => ?_)
    · rw [if_pos c4] at h
      refine ax_iinc (i := 3) (v := (a3 + (1))) (L2 := [some (av_r a0), some (av_i a1), some (av_i a2), some (av_i (a3 + (1))), some (av_i a4), none]) dX10_depthOf_120 rfl rfl (by decide) rfl rfl ?_
      refine ax_goto (tgt := 35) dX10_depthOf_123 (by decide) ?_
      exact ax_less (L' := [(some (av_r a0)), (some (av_i a1)), (some (av_i a2)), (some (av_i (a3 + (1)))), none, none]) ⟨rfl, rfl, rfl, rfl, trivial⟩ (hk35 _ _ _ _ _ h)
    · rw [if_neg c4] at h
      refine ax_aload_n (i := 0) dX10_depthOf_54 rfl rfl ?_
      obtain ⟨r5, gr5, h⟩ := Option.bind_eq_some_iff.mp h
      refine ax_getR (q := (RX10, TX10, 28)) (t := 7) (k := 0) dX10_depthOf_55 rfl (by decide) wd_761 rfl gr5 ?_
      refine ax_iload_n (i := 3) dX10_depthOf_58 rfl rfl ?_
      refine ax_iconst (v := (3)) dX10_depthOf_59 rfl ?_
      refine ax_iload (i := 4) dX10_depthOf_60 rfl ?_
      refine ax_iadd dX10_depthOf_62 ?_
      obtain ⟨q6, gq6, h⟩ := Option.bind_eq_some_iff.mp h
      refine ax_cS (As := [av_i a3, av_i ((3) + a4)]) dX10_depthOf_63 (th_X10_at gq6) (And.intro wd_863 wd_60) wd_861 wd_862 cy_X10_at (by omega) (by decide) (Nat.le_of_ble_eq_true rfl) rfl ?_
      obtain ⟨x7, gx7, h⟩ := Option.bind_eq_some_iff.mp h
      refine ax_iald dX10_depthOf_66 gx7 ?_
      refine ax_istore (i := 5) (L2 := [some (av_r a0), some (av_i a1), some (av_i a2), some (av_i a3), some (av_i a4), some (av_i x7)]) dX10_depthOf_67 (by decide) rfl rfl ?_
      refine ax_aload_n (i := 0) dX10_depthOf_69 rfl rfl ?_
      obtain ⟨r8, gr8, h⟩ := Option.bind_eq_some_iff.mp h
      refine ax_getR (q := (RX10, TX10, 28)) (t := 7) (k := 15) dX10_depthOf_70 rfl (by decide) wd_776 rfl gr8 ?_
      refine ax_iload_n (i := 3) dX10_depthOf_73 rfl rfl ?_
      refine ax_iload (i := 5) dX10_depthOf_74 rfl ?_
      refine ax_if_lt (tgt := 107) dX10_depthOf_76 (by decide) (fun c9 => ?_) (fun c9 => ?_)
      · rw [if_pos c9] at h
        exact ax_less (L' := [(some (av_r a0)), (some (av_i a1)), (some (av_i a2)), (some (av_i a3)), (some (av_i a4)), none]) ⟨rfl, rfl, rfl, rfl, rfl, trivial⟩ (tb_X10_depthOf_107 hk27 hk35 ih h)
      · rw [if_neg c9] at h
        refine ax_aload_n (i := 0) dX10_depthOf_79 rfl rfl ?_
        obtain ⟨r10, gr10, h⟩ := Option.bind_eq_some_iff.mp h
        refine ax_getR (q := (RX10, TX10, 28)) (t := 7) (k := 15) dX10_depthOf_80 rfl (by decide) wd_776 rfl gr10 ?_
        refine ax_iload (i := 5) dX10_depthOf_83 rfl ?_
        obtain ⟨x11, gx11, h⟩ := Option.bind_eq_some_iff.mp h
        refine ax_iald dX10_depthOf_85 gx11 ?_
        refine ax_aload_n (i := 0) dX10_depthOf_86 rfl rfl ?_
        obtain ⟨r12, gr12, h⟩ := Option.bind_eq_some_iff.mp h
        refine ax_getR (q := (RX10, TX10, 28)) (t := 7) (k := 15) dX10_depthOf_87 rfl (by decide) wd_776 rfl gr12 ?_
        refine ax_iload_n (i := 3) dX10_depthOf_90 rfl rfl ?_
        obtain ⟨x13, gx13, h⟩ := Option.bind_eq_some_iff.mp h
        refine ax_iald dX10_depthOf_91 gx13 ?_
        refine ax_icmp_lt (tgt := 107) dX10_depthOf_92 (by decide) (fun c14 => ?_) (fun c14 => ?_)
        · rw [if_pos c14] at h
          exact ax_less (L' := [(some (av_r a0)), (some (av_i a1)), (some (av_i a2)), (some (av_i a3)), (some (av_i a4)), none]) ⟨rfl, rfl, rfl, rfl, rfl, trivial⟩ (tb_X10_depthOf_107 hk27 hk35 ih h)
        · rw [if_neg c14] at h
          refine ax_aload_n (i := 0) dX10_depthOf_95 rfl rfl ?_
          obtain ⟨r15, gr15, h⟩ := Option.bind_eq_some_iff.mp h
          refine ax_getR (q := (RX10, TX10, 28)) (t := 7) (k := 15) dX10_depthOf_96 rfl (by decide) wd_776 rfl gr15 ?_
          refine ax_iload (i := 5) dX10_depthOf_99 rfl ?_
          obtain ⟨x16, gx16, h⟩ := Option.bind_eq_some_iff.mp h
          refine ax_iald dX10_depthOf_101 gx16 ?_
          refine ax_iconst (v := (1)) dX10_depthOf_102 rfl ?_
          refine ax_iadd dX10_depthOf_103 ?_
          refine ax_goto (tgt := 113) dX10_depthOf_104 (by decide) ?_
          obtain ⟨s17, gs17, h⟩ := Option.bind_eq_some_iff.mp h
          refine ax_iast dX10_depthOf_113 gs17 ?_
          refine ax_iinc (i := 4) (v := (a4 + (1))) (L2 := [some (av_r a0), some (av_i a1), some (av_i a2), some (av_i a3), some (av_i (a4 + (1))), some (av_i x7)]) dX10_depthOf_114 rfl rfl (by decide) rfl rfl ?_
          refine ax_goto (tgt := 48) dX10_depthOf_117 (by decide) ?_
          exact ax_less (L' := [(some (av_r a0)), (some (av_i a1)), (some (av_i a2)), (some (av_i a3)), (some (av_i (a4 + (1)))), none]) ⟨rfl, rfl, rfl, rfl, rfl, trivial⟩ (ih _ _ _ _ _ _ h)
def fb_X10_depthOf_35 (k27 : Option Nat → Int32 → Int32 → ax_S → Option (Int32 × ax_S)) : Nat → Option Nat → Int32 → Int32 → Int32 → ax_S → Option (Int32 × ax_S)
  | 0, _, _, _, _, _ => none
  | n + 1, a0, a1, a2, a3, s =>
    (ax_gr s 7 0 a0).bind fun r18 =>
    (ax_al s 9 r18 (0)).bind fun x19 =>
    if x19 ≤ a3 then
      k27 a0 a1 (a2 + (1)) s
    else
      fb_X10_depthOf_48 k27 (fb_X10_depthOf_35 k27 n) 10000 a0 a1 a2 a3 (0) s
set_option maxRecDepth 100000 in
set_option maxHeartbeats 4000000 in
theorem tb_X10_depthOf_35 {q : Int32 × ax_S} {k27 : Option Nat → Int32 → Int32 → ax_S → Option (Int32 × ax_S)} (hk27 : ∀ (a0 : Option Nat) (a1 : Int32) (a2 : Int32) (s : ax_S), k27 a0 a1 a2 s = some q → AW mm_X10_depthOf 1 0 0 27 [(some (av_r a0)), (some (av_i a1)), (some (av_i a2)), none, none, none] [] s (some (av_i q.1), q.2)) : ∀ (n : Nat) (a0 : Option Nat) (a1 : Int32) (a2 : Int32) (a3 : Int32) (s : ax_S) (h : fb_X10_depthOf_35 k27 n a0 a1 a2 a3 s = some q), AW mm_X10_depthOf 1 0 0 35 [(some (av_r a0)), (some (av_i a1)), (some (av_i a2)), (some (av_i a3)), none, none] [] s (some (av_i q.1), q.2) := by
  intro n
  induction n with
  | zero =>
    intro a0 a1 a2 a3 s h
    exact ax_no h
  | succ n ih =>
    intro a0 a1 a2 a3 s h
    unfold fb_X10_depthOf_35 at h
    refine ax_iload_n (i := 3) dX10_depthOf_35 rfl rfl ?_
    refine ax_aload_n (i := 0) dX10_depthOf_36 rfl rfl ?_
    obtain ⟨r18, gr18, h⟩ := Option.bind_eq_some_iff.mp h
    refine ax_getR (q := (RX10, TX10, 28)) (t := 7) (k := 0) dX10_depthOf_37 rfl (by decide) wd_761 rfl gr18 ?_
    refine ax_iconst (v := (0)) dX10_depthOf_40 rfl ?_
    obtain ⟨x19, gx19, h⟩ := Option.bind_eq_some_iff.mp h
    refine ax_iald dX10_depthOf_41 gx19 ?_
    refine ax_icmp_ge (tgt := 126) dX10_depthOf_42 (by decide) (fun c20 => ?_) (fun c20 => ?_)
    · rw [if_pos c20] at h
      refine ax_iinc (i := 2) (v := (a2 + (1))) (L2 := [some (av_r a0), some (av_i a1), some (av_i (a2 + (1))), some (av_i a3), none, none]) dX10_depthOf_126 rfl rfl (by decide) rfl rfl ?_
      refine ax_goto (tgt := 27) dX10_depthOf_129 (by decide) ?_
      exact ax_less (L' := [(some (av_r a0)), (some (av_i a1)), (some (av_i (a2 + (1)))), none, none, none]) ⟨rfl, rfl, rfl, trivial⟩ (hk27 _ _ _ _ h)
    · rw [if_neg c20] at h
      refine ax_iconst (v := (0)) dX10_depthOf_45 rfl ?_
      refine ax_istore (i := 4) (L2 := [some (av_r a0), some (av_i a1), some (av_i a2), some (av_i a3), some (av_i (0)), none]) dX10_depthOf_46 (by decide) rfl rfl ?_
      exact ax_less (L' := [(some (av_r a0)), (some (av_i a1)), (some (av_i a2)), (some (av_i a3)), (some (av_i (0))), none]) ⟨rfl, rfl, rfl, rfl, rfl, trivial⟩ (tb_X10_depthOf_48 hk27 ih _ _ _ _ _ _ _ h)
def fb_X10_depthOf_27 : Nat → Option Nat → Int32 → Int32 → ax_S → Option (Int32 × ax_S)
  | 0, _, _, _, _ => none
  | n + 1, a0, a1, a2, s =>
    if (12) ≤ a2 then
      (ax_gr s 7 15 a0).bind fun r22 =>
      (ax_al s 9 r22 a1).bind fun x23 =>
      some (x23, s)
    else
      fb_X10_depthOf_35 (fb_X10_depthOf_27 n) 10000 a0 a1 a2 (0) s
set_option maxRecDepth 100000 in
set_option maxHeartbeats 4000000 in
theorem tb_X10_depthOf_27 {q : Int32 × ax_S} : ∀ (n : Nat) (a0 : Option Nat) (a1 : Int32) (a2 : Int32) (s : ax_S) (h : fb_X10_depthOf_27 n a0 a1 a2 s = some q), AW mm_X10_depthOf 1 0 0 27 [(some (av_r a0)), (some (av_i a1)), (some (av_i a2)), none, none, none] [] s (some (av_i q.1), q.2) := by
  intro n
  induction n with
  | zero =>
    intro a0 a1 a2 s h
    exact ax_no h
  | succ n ih =>
    intro a0 a1 a2 s h
    unfold fb_X10_depthOf_27 at h
    refine ax_iload_n (i := 2) dX10_depthOf_27 rfl rfl ?_
    refine ax_bipush (v := (12)) dX10_depthOf_28 rfl ?_
    refine ax_icmp_ge (tgt := 132) dX10_depthOf_30 (by decide) (fun c21 => ?_) (fun c21 => ?_)
    · rw [if_pos c21] at h
      refine ax_aload_n (i := 0) dX10_depthOf_132 rfl rfl ?_
      obtain ⟨r22, gr22, h⟩ := Option.bind_eq_some_iff.mp h
      refine ax_getR (q := (RX10, TX10, 28)) (t := 7) (k := 15) dX10_depthOf_133 rfl (by decide) wd_776 rfl gr22 ?_
      refine ax_iload_n (i := 1) dX10_depthOf_136 rfl rfl ?_
      obtain ⟨x23, gx23, h⟩ := Option.bind_eq_some_iff.mp h
      refine ax_iald dX10_depthOf_137 gx23 ?_
      exact ax_reti dX10_depthOf_138 h
    · rw [if_neg c21] at h
      refine ax_iconst (v := (0)) dX10_depthOf_33 rfl ?_
      refine ax_istore_n (i := 3) (L2 := [some (av_r a0), some (av_i a1), some (av_i a2), some (av_i (0)), none, none]) dX10_depthOf_34 rfl (by decide) rfl rfl ?_
      exact ax_less (L' := [(some (av_r a0)), (some (av_i a1)), (some (av_i a2)), (some (av_i (0))), none, none]) ⟨rfl, rfl, rfl, rfl, trivial⟩ (tb_X10_depthOf_35 ih _ _ _ _ _ _ h)
def fb_X10_depthOf_2 : Nat → Option Nat → Int32 → Int32 → ax_S → Option (Int32 × ax_S)
  | 0, _, _, _, _ => none
  | n + 1, a0, a1, a2, s =>
    (ax_gr s 7 0 a0).bind fun r24 =>
    (ax_al s 9 r24 (0)).bind fun x25 =>
    if x25 ≤ a2 then
      fb_X10_depthOf_27 10000 a0 a1 (0) s
    else
      (ax_gr s 7 15 a0).bind fun r27 =>
      (ax_as s 9 r27 a2 (0)).bind fun s28 =>
      (fb_X10_depthOf_2 n) a0 a1 (a2 + (1)) s28
set_option maxRecDepth 100000 in
set_option maxHeartbeats 4000000 in
theorem tb_X10_depthOf_2 {q : Int32 × ax_S} : ∀ (n : Nat) (a0 : Option Nat) (a1 : Int32) (a2 : Int32) (s : ax_S) (h : fb_X10_depthOf_2 n a0 a1 a2 s = some q), AW mm_X10_depthOf 1 0 0 2 [(some (av_r a0)), (some (av_i a1)), (some (av_i a2)), none, none, none] [] s (some (av_i q.1), q.2) := by
  intro n
  induction n with
  | zero =>
    intro a0 a1 a2 s h
    exact ax_no h
  | succ n ih =>
    intro a0 a1 a2 s h
    unfold fb_X10_depthOf_2 at h
    refine ax_iload_n (i := 2) dX10_depthOf_2 rfl rfl ?_
    refine ax_aload_n (i := 0) dX10_depthOf_3 rfl rfl ?_
    obtain ⟨r24, gr24, h⟩ := Option.bind_eq_some_iff.mp h
    refine ax_getR (q := (RX10, TX10, 28)) (t := 7) (k := 0) dX10_depthOf_4 rfl (by decide) wd_761 rfl gr24 ?_
    refine ax_iconst (v := (0)) dX10_depthOf_7 rfl ?_
    obtain ⟨x25, gx25, h⟩ := Option.bind_eq_some_iff.mp h
    refine ax_iald dX10_depthOf_8 gx25 ?_
    refine ax_icmp_ge (tgt := 25) dX10_depthOf_9 (by decide) (fun c26 => ?_) (fun c26 => ?_)
    · rw [if_pos c26] at h
      refine ax_iconst (v := (0)) dX10_depthOf_25 rfl ?_
      refine ax_istore_n (i := 2) (L2 := [some (av_r a0), some (av_i a1), some (av_i (0)), none, none, none]) dX10_depthOf_26 rfl (by decide) rfl rfl ?_
      exact ax_less (L' := [(some (av_r a0)), (some (av_i a1)), (some (av_i (0))), none, none, none]) ⟨rfl, rfl, rfl, trivial⟩ (tb_X10_depthOf_27  _ _ _ _ _ h)
    · rw [if_neg c26] at h
      refine ax_aload_n (i := 0) dX10_depthOf_12 rfl rfl ?_
      obtain ⟨r27, gr27, h⟩ := Option.bind_eq_some_iff.mp h
      refine ax_getR (q := (RX10, TX10, 28)) (t := 7) (k := 15) dX10_depthOf_13 rfl (by decide) wd_776 rfl gr27 ?_
      refine ax_iload_n (i := 2) dX10_depthOf_16 rfl rfl ?_
      refine ax_iconst (v := (0)) dX10_depthOf_17 rfl ?_
      obtain ⟨s28, gs28, h⟩ := Option.bind_eq_some_iff.mp h
      refine ax_iast dX10_depthOf_18 gs28 ?_
      refine ax_iinc (i := 2) (v := (a2 + (1))) (L2 := [some (av_r a0), some (av_i a1), some (av_i (a2 + (1))), none, none, none]) dX10_depthOf_19 rfl rfl (by decide) rfl rfl ?_
      refine ax_goto (tgt := 2) dX10_depthOf_22 (by decide) ?_
      exact ax_less (L' := [(some (av_r a0)), (some (av_i a1)), (some (av_i (a2 + (1)))), none, none, none]) ⟨rfl, rfl, rfl, trivial⟩ (ih _ _ _ _ h)
def fn_X10_depthOf (a0 : Option Nat) (a1 : Int32) (s : ax_S) : Option (Int32 × ax_S) :=
  fb_X10_depthOf_2 10000 a0 a1 (0) s
set_option maxRecDepth 100000 in
set_option maxHeartbeats 4000000 in
theorem tw_X10_depthOf {q : Int32 × ax_S} {a0 : Option Nat} {a1 : Int32} {s : ax_S} (h : fn_X10_depthOf a0 a1 s = some q) : AW mm_X10_depthOf 1 0 0 0 [some (av_r a0), some (av_i a1), none, none, none, none] [] s (some (av_i q.1), q.2) := by
  unfold fn_X10_depthOf at h
  refine ax_iconst (v := (0)) dX10_depthOf_0 rfl ?_
  refine ax_istore_n (i := 2) (L2 := [some (av_r a0), some (av_i a1), some (av_i (0)), none, none, none]) dX10_depthOf_1 rfl (by decide) rfl rfl ?_
  exact ax_less (L' := [(some (av_r a0)), (some (av_i a1)), (some (av_i (0))), none, none, none]) ⟨rfl, rfl, rfl, trivial⟩ (tb_X10_depthOf_2  _ _ _ _ _ h)
set_option maxRecDepth 100000 in
set_option maxHeartbeats 4000000 in
theorem th_X10_depthOf {q : Int32 × ax_S} {a0 : Option Nat} {a1 : Int32} {s : ax_S} (h : fn_X10_depthOf a0 a1 s = some q) : AC mm_X10_depthOf yX10_depthOf 1 0 0 [av_r a0, av_i a1] s (some (av_i q.1), q.2) := by
  exact ax_met (L0 := [some (av_r a0), some (av_i a1), none, none, none, none]) (by decide +kernel) rfl (fun h => absurd h (by decide)) ⟨rfl, rfl, trivial⟩ (Nat.le_of_ble_eq_true rfl) trivial (tw_X10_depthOf h)
/-! X10_isReady -/
abbrev mm_X10_isReady : ax_M := (RX10, cX10_isReady, (some .boolean), 6, false)
def fb_X10_isReady_49 (k5 : Option Nat → Int32 → Int32 → Int32 → Int32 → ax_S → Option (Int32 × ax_S)) (a0 : Option Nat) (a1 : Int32) (a2 : Int32) (a4 : Int32) (s : ax_S) : Option (Int32 × ax_S) :=
  k5 a0 a1 a2 (0) (a4 + (1)) s
set_option maxRecDepth 100000 in
set_option maxHeartbeats 4000000 in
theorem tb_X10_isReady_49 {q : Int32 × ax_S} {k5 : Option Nat → Int32 → Int32 → Int32 → Int32 → ax_S → Option (Int32 × ax_S)} (hk5 : ∀ (a0 : Option Nat) (a1 : Int32) (a2 : Int32) (a3 : Int32) (a4 : Int32) (s : ax_S), k5 a0 a1 a2 a3 a4 s = some q → AW mm_X10_isReady 1 0 0 5 [(some (av_r a0)), (some (av_i a1)), (some (av_i a2)), (some (av_i a3)), (some (av_i a4)), none] [] s (some (av_i q.1), q.2)) {a0 : Option Nat} {a1 : Int32} {a2 : Int32} {a4 : Int32} {s : ax_S} (h : fb_X10_isReady_49 k5 a0 a1 a2 a4 s = some q) : AW mm_X10_isReady 1 0 0 49 [(some (av_r a0)), (some (av_i a1)), (some (av_i a2)), none, (some (av_i a4)), none] [] s (some (av_i q.1), q.2) := by
  unfold fb_X10_isReady_49 at h
  refine ax_iconst (v := (0)) dX10_isReady_49 rfl ?_
  refine ax_istore_n (i := 3) (L2 := [some (av_r a0), some (av_i a1), some (av_i a2), some (av_i (0)), some (av_i a4), none]) dX10_isReady_50 rfl (by decide) rfl rfl ?_
  refine ax_iinc (i := 4) (v := (a4 + (1))) (L2 := [some (av_r a0), some (av_i a1), some (av_i a2), some (av_i (0)), some (av_i (a4 + (1))), none]) dX10_isReady_51 rfl rfl (by decide) rfl rfl ?_
  refine ax_goto (tgt := 5) dX10_isReady_54 (by decide) ?_
  exact ax_less (L' := [(some (av_r a0)), (some (av_i a1)), (some (av_i a2)), (some (av_i (0))), (some (av_i (a4 + (1)))), none]) ⟨rfl, rfl, rfl, rfl, rfl, trivial⟩ (hk5 _ _ _ _ _ _ h)
def fb_X10_isReady_45 (k5 : Option Nat → Int32 → Int32 → Int32 → Int32 → ax_S → Option (Int32 × ax_S)) (a0 : Option Nat) (a1 : Int32) (a2 : Int32) (a4 : Int32) (s : ax_S) : Option (Int32 × ax_S) :=
  k5 a0 a1 a2 (1) (a4 + (1)) s
set_option maxRecDepth 100000 in
set_option maxHeartbeats 4000000 in
theorem tb_X10_isReady_45 {q : Int32 × ax_S} {k5 : Option Nat → Int32 → Int32 → Int32 → Int32 → ax_S → Option (Int32 × ax_S)} (hk5 : ∀ (a0 : Option Nat) (a1 : Int32) (a2 : Int32) (a3 : Int32) (a4 : Int32) (s : ax_S), k5 a0 a1 a2 a3 a4 s = some q → AW mm_X10_isReady 1 0 0 5 [(some (av_r a0)), (some (av_i a1)), (some (av_i a2)), (some (av_i a3)), (some (av_i a4)), none] [] s (some (av_i q.1), q.2)) {a0 : Option Nat} {a1 : Int32} {a2 : Int32} {a4 : Int32} {s : ax_S} (h : fb_X10_isReady_45 k5 a0 a1 a2 a4 s = some q) : AW mm_X10_isReady 1 0 0 45 [(some (av_r a0)), (some (av_i a1)), (some (av_i a2)), none, (some (av_i a4)), none] [] s (some (av_i q.1), q.2) := by
  unfold fb_X10_isReady_45 at h
  refine ax_iconst (v := (1)) dX10_isReady_45 rfl ?_
  refine ax_goto (tgt := 50) dX10_isReady_46 (by decide) ?_
  refine ax_istore_n (i := 3) (L2 := [some (av_r a0), some (av_i a1), some (av_i a2), some (av_i (1)), some (av_i a4), none]) dX10_isReady_50 rfl (by decide) rfl rfl ?_
  refine ax_iinc (i := 4) (v := (a4 + (1))) (L2 := [some (av_r a0), some (av_i a1), some (av_i a2), some (av_i (1)), some (av_i (a4 + (1))), none]) dX10_isReady_51 rfl rfl (by decide) rfl rfl ?_
  refine ax_goto (tgt := 5) dX10_isReady_54 (by decide) ?_
  exact ax_less (L' := [(some (av_r a0)), (some (av_i a1)), (some (av_i a2)), (some (av_i (1))), (some (av_i (a4 + (1)))), none]) ⟨rfl, rfl, rfl, rfl, rfl, trivial⟩ (hk5 _ _ _ _ _ _ h)
def fb_X10_isReady_5 : Nat → Option Nat → Int32 → Int32 → Int32 → Int32 → ax_S → Option (Int32 × ax_S)
  | 0, _, _, _, _, _, _ => none
  | n + 1, a0, a1, a2, a3, a4, s =>
    if (3) ≤ a4 then
      some (a3, s)
    else
      (ax_gr s 7 0 a0).bind fun r2 =>
      (fn_X10_at a1 ((3) + a4) s).bind fun q3 =>
      (ax_al q3.2 9 r2 q3.1).bind fun x4 =>
      if a3 = 0 then
        fb_X10_isReady_49 (fb_X10_isReady_5 n) a0 a1 a2 a4 q3.2
      else
        if x4 < 0 then
          fb_X10_isReady_45 (fb_X10_isReady_5 n) a0 a1 a2 a4 q3.2
        else
          if ((a2 >>> (x4 &&& 31)) &&& (1)) = (1) then
            fb_X10_isReady_45 (fb_X10_isReady_5 n) a0 a1 a2 a4 q3.2
          else
            fb_X10_isReady_49 (fb_X10_isReady_5 n) a0 a1 a2 a4 q3.2
set_option maxRecDepth 100000 in
set_option maxHeartbeats 4000000 in
theorem tb_X10_isReady_5 {q : Int32 × ax_S} : ∀ (n : Nat) (a0 : Option Nat) (a1 : Int32) (a2 : Int32) (a3 : Int32) (a4 : Int32) (s : ax_S) (h : fb_X10_isReady_5 n a0 a1 a2 a3 a4 s = some q), AW mm_X10_isReady 1 0 0 5 [(some (av_r a0)), (some (av_i a1)), (some (av_i a2)), (some (av_i a3)), (some (av_i a4)), none] [] s (some (av_i q.1), q.2) := by
  intro n
  induction n with
  | zero =>
    intro a0 a1 a2 a3 a4 s h
    exact ax_no h
  | succ n ih =>
    intro a0 a1 a2 a3 a4 s h
    unfold fb_X10_isReady_5 at h
    refine ax_iload (i := 4) dX10_isReady_5 rfl ?_
    refine ax_iconst (v := (3)) dX10_isReady_7 rfl ?_
    refine ax_icmp_ge (tgt := 57) dX10_isReady_8 (by decide) (fun c1 => ?_) (fun c1 => ?_)
    · rw [if_pos c1] at h
      refine ax_iload_n (i := 3) dX10_isReady_57 rfl rfl ?_
      exact ax_reti dX10_isReady_58 h
    · rw [if_neg c1] at h
      refine ax_aload_n (i := 0) dX10_isReady_11 rfl rfl ?_
      obtain ⟨r2, gr2, h⟩ := Option.bind_eq_some_iff.mp h
      refine ax_getR (q := (RX10, TX10, 28)) (t := 7) (k := 0) dX10_isReady_12 rfl (by decide) wd_761 rfl gr2 ?_
      refine ax_iload_n (i := 1) dX10_isReady_15 rfl rfl ?_
      refine ax_iconst (v := (3)) dX10_isReady_16 rfl ?_
      refine ax_iload (i := 4) dX10_isReady_17 rfl ?_
      refine ax_iadd dX10_isReady_19 ?_
      obtain ⟨q3, gq3, h⟩ := Option.bind_eq_some_iff.mp h
      refine ax_cS (As := [av_i a1, av_i ((3) + a4)]) dX10_isReady_20 (th_X10_at gq3) (And.intro wd_863 wd_60) wd_861 wd_862 cy_X10_at (by omega) (by decide) (Nat.le_of_ble_eq_true rfl) rfl ?_
      obtain ⟨x4, gx4, h⟩ := Option.bind_eq_some_iff.mp h
      refine ax_iald dX10_isReady_23 gx4 ?_
      refine ax_istore (i := 5) (L2 := [some (av_r a0), some (av_i a1), some (av_i a2), some (av_i a3), some (av_i a4), some (av_i x4)]) dX10_isReady_24 (by decide) rfl rfl ?_
      refine ax_iload_n (i := 3) dX10_isReady_26 rfl rfl ?_
      refine ax_if_eq (tgt := 49) dX10_isReady_27 (by decide) (fun c5 => ?_) (fun c5 => ?_)
      · rw [if_pos c5] at h
        exact ax_less (L' := [(some (av_r a0)), (some (av_i a1)), (some (av_i a2)), none, (some (av_i a4)), none]) ⟨rfl, rfl, rfl, rfl, trivial⟩ (tb_X10_isReady_49 ih h)
      · rw [if_neg c5] at h
        refine ax_iload (i := 5) dX10_isReady_30 rfl ?_
        refine ax_if_lt (tgt := 45) dX10_isReady_32 (by decide) (fun c6 => ?_) (fun c6 => ?_)
        · rw [if_pos c6] at h
          exact ax_less (L' := [(some (av_r a0)), (some (av_i a1)), (some (av_i a2)), none, (some (av_i a4)), none]) ⟨rfl, rfl, rfl, rfl, trivial⟩ (tb_X10_isReady_45 ih h)
        · rw [if_neg c6] at h
          refine ax_iload_n (i := 2) dX10_isReady_35 rfl rfl ?_
          refine ax_iload (i := 5) dX10_isReady_36 rfl ?_
          refine ax_ishr dX10_isReady_38 ?_
          refine ax_iconst (v := (1)) dX10_isReady_39 rfl ?_
          refine ax_iand dX10_isReady_40 ?_
          refine ax_iconst (v := (1)) dX10_isReady_41 rfl ?_
          refine ax_icmp_ne (tgt := 49) dX10_isReady_42 (by decide) (fun c7 => ?_) (fun c7 => ?_)
          · rw [if_neg c7] at h
            exact ax_less (L' := [(some (av_r a0)), (some (av_i a1)), (some (av_i a2)), none, (some (av_i a4)), none]) ⟨rfl, rfl, rfl, rfl, trivial⟩ (tb_X10_isReady_49 ih h)
          · rw [if_pos c7] at h
            exact ax_less (L' := [(some (av_r a0)), (some (av_i a1)), (some (av_i a2)), none, (some (av_i a4)), none]) ⟨rfl, rfl, rfl, rfl, trivial⟩ (tb_X10_isReady_45 ih h)
def fi_X10_isReady (a0 : Option Nat) (a1 : Int32) (a2 : Int32) (s : ax_S) : Option (Int32 × ax_S) :=
  fb_X10_isReady_5 10000 a0 a1 a2 (1) (0) s
set_option maxRecDepth 100000 in
set_option maxHeartbeats 4000000 in
theorem tw_X10_isReady {q : Int32 × ax_S} {a0 : Option Nat} {a1 : Int32} {a2 : Int32} {s : ax_S} (h : fi_X10_isReady a0 a1 a2 s = some q) : AW mm_X10_isReady 1 0 0 0 [some (av_r a0), some (av_i a1), some (av_i a2), none, none, none] [] s (some (av_i q.1), q.2) := by
  unfold fi_X10_isReady at h
  refine ax_iconst (v := (1)) dX10_isReady_0 rfl ?_
  refine ax_istore_n (i := 3) (L2 := [some (av_r a0), some (av_i a1), some (av_i a2), some (av_i (1)), none, none]) dX10_isReady_1 rfl (by decide) rfl rfl ?_
  refine ax_iconst (v := (0)) dX10_isReady_2 rfl ?_
  refine ax_istore (i := 4) (L2 := [some (av_r a0), some (av_i a1), some (av_i a2), some (av_i (1)), some (av_i (0)), none]) dX10_isReady_3 (by decide) rfl rfl ?_
  exact ax_less (L' := [(some (av_r a0)), (some (av_i a1)), (some (av_i a2)), (some (av_i (1))), (some (av_i (0))), none]) ⟨rfl, rfl, rfl, rfl, rfl, trivial⟩ (tb_X10_isReady_5  _ _ _ _ _ _ _ h)
def fn_X10_isReady (a0 : Option Nat) (a1 : Int32) (a2 : Int32) (s : ax_S) : Option (Int32 × ax_S) := ax_bz (fi_X10_isReady a0 a1 a2 s)
set_option maxRecDepth 100000 in
set_option maxHeartbeats 4000000 in
theorem th_X10_isReady {q : Int32 × ax_S} {a0 : Option Nat} {a1 : Int32} {a2 : Int32} {s : ax_S} (h : fn_X10_isReady a0 a1 a2 s = some q) : AC mm_X10_isReady yX10_isReady 1 0 0 [av_r a0, av_i a1, av_i a2] s (some (av_i q.1), q.2) := by
  obtain ⟨h, hz⟩ := ax_bz_of h
  exact ax_met (L0 := [some (av_r a0), some (av_i a1), some (av_i a2), none, none, none]) (by decide +kernel) rfl (fun h => absurd h (by decide)) ⟨rfl, rfl, rfl, trivial⟩ (Nat.le_of_ble_eq_true rfl) hz (tw_X10_isReady h)
/-! X10_placeOf -/
abbrev mm_X10_placeOf : ax_M := (RX10, cX10_placeOf, (some .int), 5, false)
def fb_X10_placeOf_7 (k4 : Option Nat → Int32 → Int32 → Int32 → ax_S → Option (Int32 × ax_S)) : Nat → Option Nat → Int32 → Int32 → Int32 → Int32 → ax_S → Option (Int32 × ax_S)
  | 0, _, _, _, _, _, _ => none
  | n + 1, a0, a1, a2, a3, a4, s =>
    if ((a2 >>> (a4 &&& 31)) &&& (1)) = (1) then
      (fb_X10_placeOf_7 k4 n) a0 a1 a2 a3 (a4 + (1)) s
    else
      (ax_sh s 7 a0).bind fun w2 =>
      (fn_X10_isReady a0 a4 a2 s).bind fun q3 =>
      if q3.1 = 0 then
        (fb_X10_placeOf_7 k4 n) a0 a1 a2 a3 (a4 + (1)) q3.2
      else
        if a4 = a1 then
          some (a3, q3.2)
        else
          ax_bd ((a2 ||| ((1) <<< (a4 &&& 31)))) fun v6 =>
          k4 a0 a1 v6 (a3 + (1)) q3.2
set_option maxRecDepth 100000 in
set_option maxHeartbeats 4000000 in
theorem tb_X10_placeOf_7 {q : Int32 × ax_S} {k4 : Option Nat → Int32 → Int32 → Int32 → ax_S → Option (Int32 × ax_S)} (hk4 : ∀ (a0 : Option Nat) (a1 : Int32) (a2 : Int32) (a3 : Int32) (s : ax_S), k4 a0 a1 a2 a3 s = some q → AW mm_X10_placeOf 2 0 0 4 [(some (av_r a0)), (some (av_i a1)), (some (av_i a2)), (some (av_i a3)), none] [] s (some (av_i q.1), q.2)) : ∀ (n : Nat) (a0 : Option Nat) (a1 : Int32) (a2 : Int32) (a3 : Int32) (a4 : Int32) (s : ax_S) (h : fb_X10_placeOf_7 k4 n a0 a1 a2 a3 a4 s = some q), AW mm_X10_placeOf 2 0 0 7 [(some (av_r a0)), (some (av_i a1)), (some (av_i a2)), (some (av_i a3)), (some (av_i a4))] [] s (some (av_i q.1), q.2) := by
  intro n
  induction n with
  | zero =>
    intro a0 a1 a2 a3 a4 s h
    exact ax_no h
  | succ n ih =>
    intro a0 a1 a2 a3 a4 s h
    unfold fb_X10_placeOf_7 at h
    refine ax_iload_n (i := 2) dX10_placeOf_7 rfl rfl ?_
    refine ax_iload (i := 4) dX10_placeOf_8 rfl ?_
    refine ax_ishr dX10_placeOf_10 ?_
    refine ax_iconst (v := (1)) dX10_placeOf_11 rfl ?_
    refine ax_iand dX10_placeOf_12 ?_
    refine ax_iconst (v := (1)) dX10_placeOf_13 rfl ?_
    refine ax_icmp_eq (tgt := 27) dX10_placeOf_14 (by decide) (fun c1 => ?_) (fun c1 => ?_)
    · rw [if_pos c1] at h
      refine ax_iinc (i := 4) (v := (a4 + (1))) (L2 := [some (av_r a0), some (av_i a1), some (av_i a2), some (av_i a3), some (av_i (a4 + (1)))]) dX10_placeOf_27 rfl rfl (by decide) rfl rfl ?_
      refine ax_goto (tgt := 7) dX10_placeOf_30 (by decide) ?_
      exact ax_less (L' := [(some (av_r a0)), (some (av_i a1)), (some (av_i a2)), (some (av_i a3)), (some (av_i (a4 + (1))))]) ⟨rfl, rfl, rfl, rfl, rfl, trivial⟩ (ih _ _ _ _ _ _ h)
    · rw [if_neg c1] at h
      refine ax_aload_n (i := 0) dX10_placeOf_17 rfl rfl ?_
      refine ax_iload (i := 4) dX10_placeOf_18 rfl ?_
      refine ax_iload_n (i := 2) dX10_placeOf_20 rfl rfl ?_
      obtain ⟨w2, gw2, h⟩ := Option.bind_eq_some_iff.mp h
      obtain ⟨q3, gq3, h⟩ := Option.bind_eq_some_iff.mp h
      refine ax_cV (As := [av_i a4, av_i a2]) (t := 7) dX10_placeOf_21 gw2 (th_X10_isReady gq3) rfl (And.intro wd_935 wd_60) wd_932 wd_934 wd_27 cy_X10_isReady (by omega) (by decide) (Nat.le_of_ble_eq_true rfl) rfl ?_
      refine ax_if_ne (tgt := 33) dX10_placeOf_24 (by decide) (fun c4 => ?_) (fun c4 => ?_)
      · rw [if_neg c4] at h
        refine ax_iload (i := 4) dX10_placeOf_33 rfl ?_
        refine ax_iload_n (i := 1) dX10_placeOf_35 rfl rfl ?_
        refine ax_icmp_ne (tgt := 41) dX10_placeOf_36 (by decide) (fun c5 => ?_) (fun c5 => ?_)
        · rw [if_neg c5] at h
          refine ax_iload_n (i := 2) dX10_placeOf_41 rfl rfl ?_
          refine ax_iconst (v := (1)) dX10_placeOf_42 rfl ?_
          refine ax_iload (i := 4) dX10_placeOf_43 rfl ?_
          refine ax_ishl dX10_placeOf_45 ?_
          refine ax_ior dX10_placeOf_46 ?_
          refine ax_bdI h (fun v6 h => ?_)
          refine ax_istore_n (i := 2) (L2 := [some (av_r a0), some (av_i a1), some (av_i v6), some (av_i a3), some (av_i a4)]) dX10_placeOf_47 rfl (by decide) rfl rfl ?_
          refine ax_iinc (i := 3) (v := (a3 + (1))) (L2 := [some (av_r a0), some (av_i a1), some (av_i v6), some (av_i (a3 + (1))), some (av_i a4)]) dX10_placeOf_48 rfl rfl (by decide) rfl rfl ?_
          refine ax_goto (tgt := 4) dX10_placeOf_51 (by decide) ?_
          exact ax_less (L' := [(some (av_r a0)), (some (av_i a1)), (some (av_i v6)), (some (av_i (a3 + (1)))), none]) ⟨rfl, rfl, rfl, rfl, trivial⟩ (hk4 _ _ _ _ _ h)
        · rw [if_pos c5] at h
          refine ax_iload_n (i := 3) dX10_placeOf_39 rfl rfl ?_
          exact ax_reti dX10_placeOf_40 h
      · rw [if_pos c4] at h
        refine ax_iinc (i := 4) (v := (a4 + (1))) (L2 := [some (av_r a0), some (av_i a1), some (av_i a2), some (av_i a3), some (av_i (a4 + (1)))]) dX10_placeOf_27 rfl rfl (by decide) rfl rfl ?_
        refine ax_goto (tgt := 7) dX10_placeOf_30 (by decide) ?_
        exact ax_less (L' := [(some (av_r a0)), (some (av_i a1)), (some (av_i a2)), (some (av_i a3)), (some (av_i (a4 + (1))))]) ⟨rfl, rfl, rfl, rfl, rfl, trivial⟩ (ih _ _ _ _ _ _ h)
def fb_X10_placeOf_4 : Nat → Option Nat → Int32 → Int32 → Int32 → ax_S → Option (Int32 × ax_S)
  | 0, _, _, _, _, _ => none
  | n + 1, a0, a1, a2, a3, s =>
    fb_X10_placeOf_7 (fb_X10_placeOf_4 n) 10000 a0 a1 a2 a3 (0) s
set_option maxRecDepth 100000 in
set_option maxHeartbeats 4000000 in
theorem tb_X10_placeOf_4 {q : Int32 × ax_S} : ∀ (n : Nat) (a0 : Option Nat) (a1 : Int32) (a2 : Int32) (a3 : Int32) (s : ax_S) (h : fb_X10_placeOf_4 n a0 a1 a2 a3 s = some q), AW mm_X10_placeOf 2 0 0 4 [(some (av_r a0)), (some (av_i a1)), (some (av_i a2)), (some (av_i a3)), none] [] s (some (av_i q.1), q.2) := by
  intro n
  induction n with
  | zero =>
    intro a0 a1 a2 a3 s h
    exact ax_no h
  | succ n ih =>
    intro a0 a1 a2 a3 s h
    unfold fb_X10_placeOf_4 at h
    refine ax_iconst (v := (0)) dX10_placeOf_4 rfl ?_
    refine ax_istore (i := 4) (L2 := [some (av_r a0), some (av_i a1), some (av_i a2), some (av_i a3), some (av_i (0))]) dX10_placeOf_5 (by decide) rfl rfl ?_
    exact ax_less (L' := [(some (av_r a0)), (some (av_i a1)), (some (av_i a2)), (some (av_i a3)), (some (av_i (0)))]) ⟨rfl, rfl, rfl, rfl, rfl, trivial⟩ (tb_X10_placeOf_7 ih _ _ _ _ _ _ _ h)
def fn_X10_placeOf (a0 : Option Nat) (a1 : Int32) (s : ax_S) : Option (Int32 × ax_S) :=
  fb_X10_placeOf_4 10000 a0 a1 (0) (0) s
set_option maxRecDepth 100000 in
set_option maxHeartbeats 4000000 in
theorem tw_X10_placeOf {q : Int32 × ax_S} {a0 : Option Nat} {a1 : Int32} {s : ax_S} (h : fn_X10_placeOf a0 a1 s = some q) : AW mm_X10_placeOf 2 0 0 0 [some (av_r a0), some (av_i a1), none, none, none] [] s (some (av_i q.1), q.2) := by
  unfold fn_X10_placeOf at h
  refine ax_iconst (v := (0)) dX10_placeOf_0 rfl ?_
  refine ax_istore_n (i := 2) (L2 := [some (av_r a0), some (av_i a1), some (av_i (0)), none, none]) dX10_placeOf_1 rfl (by decide) rfl rfl ?_
  refine ax_iconst (v := (0)) dX10_placeOf_2 rfl ?_
  refine ax_istore_n (i := 3) (L2 := [some (av_r a0), some (av_i a1), some (av_i (0)), some (av_i (0)), none]) dX10_placeOf_3 rfl (by decide) rfl rfl ?_
  exact ax_less (L' := [(some (av_r a0)), (some (av_i a1)), (some (av_i (0))), (some (av_i (0))), none]) ⟨rfl, rfl, rfl, rfl, trivial⟩ (tb_X10_placeOf_4  _ _ _ _ _ _ h)
set_option maxRecDepth 100000 in
set_option maxHeartbeats 4000000 in
theorem th_X10_placeOf {q : Int32 × ax_S} {a0 : Option Nat} {a1 : Int32} {s : ax_S} (h : fn_X10_placeOf a0 a1 s = some q) : AC mm_X10_placeOf yX10_placeOf 2 0 0 [av_r a0, av_i a1] s (some (av_i q.1), q.2) := by
  exact ax_met (L0 := [some (av_r a0), some (av_i a1), none, none, none]) (by decide +kernel) rfl (fun h => absurd h (by decide)) ⟨rfl, rfl, trivial⟩ (Nat.le_of_ble_eq_true rfl) trivial (tw_X10_placeOf h)
/-! X10_size -/
abbrev mm_X10_size : ax_M := (RX10, cX10_size, (some .int), 3, false)
def fb_X10_size_4 : Nat → Int32 → Int32 → ax_S → Option (Int32 × ax_S)
  | 0, _, _, _ => none
  | n + 1, a1, a2, s =>
    if a2 = 0 then
      some (a1, s)
    else
      ax_bd ((a2 &&& (a2 - (1)))) fun v2 =>
      (fb_X10_size_4 n) (a1 + (1)) v2 s
set_option maxRecDepth 100000 in
set_option maxHeartbeats 4000000 in
theorem tb_X10_size_4 {q : Int32 × ax_S} : ∀ (n : Nat) (a1 : Int32) (a2 : Int32) (s : ax_S) (h : fb_X10_size_4 n a1 a2 s = some q), AW mm_X10_size 0 0 0 4 [none, (some (av_i a1)), (some (av_i a2))] [] s (some (av_i q.1), q.2) := by
  intro n
  induction n with
  | zero =>
    intro a1 a2 s h
    exact ax_no h
  | succ n ih =>
    intro a1 a2 s h
    unfold fb_X10_size_4 at h
    refine ax_iload_n (i := 2) dX10_size_4 rfl rfl ?_
    refine ax_if_eq (tgt := 20) dX10_size_5 (by decide) (fun c1 => ?_) (fun c1 => ?_)
    · rw [if_pos c1] at h
      refine ax_iload_n (i := 1) dX10_size_20 rfl rfl ?_
      exact ax_reti dX10_size_21 h
    · rw [if_neg c1] at h
      refine ax_iinc (i := 1) (v := (a1 + (1))) (L2 := [none, some (av_i (a1 + (1))), some (av_i a2)]) dX10_size_8 rfl rfl (by decide) rfl rfl ?_
      refine ax_iload_n (i := 2) dX10_size_11 rfl rfl ?_
      refine ax_iload_n (i := 2) dX10_size_12 rfl rfl ?_
      refine ax_iconst (v := (1)) dX10_size_13 rfl ?_
      refine ax_isub dX10_size_14 ?_
      refine ax_iand dX10_size_15 ?_
      refine ax_bdI h (fun v2 h => ?_)
      refine ax_istore_n (i := 2) (L2 := [none, some (av_i (a1 + (1))), some (av_i v2)]) dX10_size_16 rfl (by decide) rfl rfl ?_
      refine ax_goto (tgt := 4) dX10_size_17 (by decide) ?_
      exact ax_less (L' := [none, (some (av_i (a1 + (1)))), (some (av_i v2))]) ⟨rfl, rfl, trivial⟩ (ih _ _ _ h)
def fn_X10_size (a0 : Int32) (s : ax_S) : Option (Int32 × ax_S) :=
  fb_X10_size_4 10000 (0) a0 s
set_option maxRecDepth 100000 in
set_option maxHeartbeats 4000000 in
theorem tw_X10_size {q : Int32 × ax_S} {a0 : Int32} {s : ax_S} (h : fn_X10_size a0 s = some q) : AW mm_X10_size 0 0 0 0 [some (av_i a0), none, none] [] s (some (av_i q.1), q.2) := by
  unfold fn_X10_size at h
  refine ax_iconst (v := (0)) dX10_size_0 rfl ?_
  refine ax_istore_n (i := 1) (L2 := [some (av_i a0), some (av_i (0)), none]) dX10_size_1 rfl (by decide) rfl rfl ?_
  refine ax_iload_n (i := 0) dX10_size_2 rfl rfl ?_
  refine ax_istore_n (i := 2) (L2 := [some (av_i a0), some (av_i (0)), some (av_i a0)]) dX10_size_3 rfl (by decide) rfl rfl ?_
  exact ax_less (L' := [none, (some (av_i (0))), (some (av_i a0))]) ⟨rfl, rfl, trivial⟩ (tb_X10_size_4  _ _ _ _ h)
set_option maxRecDepth 100000 in
set_option maxHeartbeats 4000000 in
theorem th_X10_size {q : Int32 × ax_S} {a0 : Int32} {s : ax_S} (h : fn_X10_size a0 s = some q) : AC mm_X10_size yX10_size 0 0 0 [av_i a0] s (some (av_i q.1), q.2) := by
  exact ax_met (L0 := [some (av_i a0), none, none]) (by decide +kernel) rfl (fun h => absurd h (by decide)) ⟨rfl, trivial⟩ (Nat.le_of_ble_eq_true rfl) trivial (tw_X10_size h)
/-! X10_nodeTells -/
abbrev mm_X10_nodeTells : ax_M := (RX10, cX10_nodeTells, (some .int), 3, false)
def fn_X10_nodeTells (a0 : Option Nat) (a1 : Int32) (a2 : Int32) (s : ax_S) : Option (Int32 × ax_S) :=
  if (3) ≤ a2 then
    if a2 = (3) then
      (ax_sh s 7 a0).bind fun w8 =>
      (fn_X10_dependents a0 a1 s).bind fun q9 =>
      (fn_X10_size q9.1 q9.2).bind fun q10 =>
      some (q10.1, q10.2)
    else
      if a2 = (4) then
        (ax_sh s 7 a0).bind fun w6 =>
        (fn_X10_placeOf a0 a1 s).bind fun q7 =>
        some (q7.1, q7.2)
      else
        (ax_sh s 7 a0).bind fun w4 =>
        (fn_X10_depthOf a0 a1 s).bind fun q5 =>
        some (q5.1, q5.2)
  else
    (ax_gr s 7 0 a0).bind fun r11 =>
    (fn_X10_at a1 a2 s).bind fun q12 =>
    (ax_al q12.2 9 r11 q12.1).bind fun x13 =>
    some (x13, q12.2)
set_option maxRecDepth 100000 in
set_option maxHeartbeats 4000000 in
theorem tw_X10_nodeTells {q : Int32 × ax_S} {a0 : Option Nat} {a1 : Int32} {a2 : Int32} {s : ax_S} (h : fn_X10_nodeTells a0 a1 a2 s = some q) : AW mm_X10_nodeTells 3 0 0 0 [some (av_r a0), some (av_i a1), some (av_i a2)] [] s (some (av_i q.1), q.2) := by
  unfold fn_X10_nodeTells at h
  refine ax_iload_n (i := 2) dX10_nodeTells_0 rfl rfl ?_
  refine ax_iconst (v := (3)) dX10_nodeTells_1 rfl ?_
  refine ax_icmp_ge (tgt := 18) dX10_nodeTells_2 (by decide) (fun c1 => ?_) (fun c1 => ?_)
  · rw [if_pos c1] at h
    refine ax_iload_n (i := 2) dX10_nodeTells_18 rfl rfl ?_
    refine ax_iconst (v := (3)) dX10_nodeTells_19 rfl ?_
    refine ax_icmp_ne (tgt := 34) dX10_nodeTells_20 (by decide) (fun c2 => ?_) (fun c2 => ?_)
    · rw [if_neg c2] at h
      refine ax_iload_n (i := 2) dX10_nodeTells_34 rfl rfl ?_
      refine ax_iconst (v := (4)) dX10_nodeTells_35 rfl ?_
      refine ax_icmp_ne (tgt := 47) dX10_nodeTells_36 (by decide) (fun c3 => ?_) (fun c3 => ?_)
      · rw [if_neg c3] at h
        refine ax_aload_n (i := 0) dX10_nodeTells_47 rfl rfl ?_
        refine ax_iload_n (i := 1) dX10_nodeTells_48 rfl rfl ?_
        obtain ⟨w4, gw4, h⟩ := Option.bind_eq_some_iff.mp h
        obtain ⟨q5, gq5, h⟩ := Option.bind_eq_some_iff.mp h
        refine ax_cV (As := [av_i a1]) (t := 7) dX10_nodeTells_49 gw4 (th_X10_depthOf gq5) rfl (And.intro wd_939 wd_60) wd_936 wd_938 wd_28 cy_X10_depthOf (by omega) (by decide) (Nat.le_of_ble_eq_true rfl) rfl ?_
        exact ax_reti dX10_nodeTells_52 h
      · rw [if_pos c3] at h
        refine ax_aload_n (i := 0) dX10_nodeTells_39 rfl rfl ?_
        refine ax_iload_n (i := 1) dX10_nodeTells_40 rfl rfl ?_
        obtain ⟨w6, gw6, h⟩ := Option.bind_eq_some_iff.mp h
        obtain ⟨q7, gq7, h⟩ := Option.bind_eq_some_iff.mp h
        refine ax_cV (As := [av_i a1]) (t := 7) dX10_nodeTells_41 gw6 (th_X10_placeOf gq7) rfl (And.intro wd_931 wd_60) wd_928 wd_930 wd_26 cy_X10_placeOf (by omega) (by decide) (Nat.le_of_ble_eq_true rfl) rfl ?_
        refine ax_goto (tgt := 52) dX10_nodeTells_44 (by decide) ?_
        exact ax_reti dX10_nodeTells_52 h
    · rw [if_pos c2] at h
      refine ax_aload_n (i := 0) dX10_nodeTells_23 rfl rfl ?_
      refine ax_iload_n (i := 1) dX10_nodeTells_24 rfl rfl ?_
      obtain ⟨w8, gw8, h⟩ := Option.bind_eq_some_iff.mp h
      obtain ⟨q9, gq9, h⟩ := Option.bind_eq_some_iff.mp h
      refine ax_cV (As := [av_i a1]) (t := 7) dX10_nodeTells_25 gw8 (th_X10_dependents gq9) rfl (And.intro wd_886 wd_60) wd_883 wd_885 wd_21 cy_X10_dependents (by omega) (by decide) (Nat.le_of_ble_eq_true rfl) rfl ?_
      obtain ⟨q10, gq10, h⟩ := Option.bind_eq_some_iff.mp h
      refine ax_cS (As := [av_i q9.1]) dX10_nodeTells_28 (th_X10_size gq10) (And.intro wd_927 wd_60) wd_925 wd_926 cy_X10_size (by omega) (by decide) (Nat.le_of_ble_eq_true rfl) rfl ?_
      refine ax_goto (tgt := 52) dX10_nodeTells_31 (by decide) ?_
      exact ax_reti dX10_nodeTells_52 h
  · rw [if_neg c1] at h
    refine ax_aload_n (i := 0) dX10_nodeTells_5 rfl rfl ?_
    obtain ⟨r11, gr11, h⟩ := Option.bind_eq_some_iff.mp h
    refine ax_getR (q := (RX10, TX10, 28)) (t := 7) (k := 0) dX10_nodeTells_6 rfl (by decide) wd_761 rfl gr11 ?_
    refine ax_iload_n (i := 1) dX10_nodeTells_9 rfl rfl ?_
    refine ax_iload_n (i := 2) dX10_nodeTells_10 rfl rfl ?_
    obtain ⟨q12, gq12, h⟩ := Option.bind_eq_some_iff.mp h
    refine ax_cS (As := [av_i a1, av_i a2]) dX10_nodeTells_11 (th_X10_at gq12) (And.intro wd_863 wd_60) wd_861 wd_862 cy_X10_at (by omega) (by decide) (Nat.le_of_ble_eq_true rfl) rfl ?_
    obtain ⟨x13, gx13, h⟩ := Option.bind_eq_some_iff.mp h
    refine ax_iald dX10_nodeTells_14 gx13 ?_
    refine ax_goto (tgt := 52) dX10_nodeTells_15 (by decide) ?_
    exact ax_reti dX10_nodeTells_52 h
set_option maxRecDepth 100000 in
set_option maxHeartbeats 4000000 in
theorem th_X10_nodeTells {q : Int32 × ax_S} {a0 : Option Nat} {a1 : Int32} {a2 : Int32} {s : ax_S} (h : fn_X10_nodeTells a0 a1 a2 s = some q) : AC mm_X10_nodeTells yX10_nodeTells 3 0 0 [av_r a0, av_i a1, av_i a2] s (some (av_i q.1), q.2) := by
  exact ax_met (L0 := [some (av_r a0), some (av_i a1), some (av_i a2)]) (by decide +kernel) rfl (fun h => absurd h (by decide)) ⟨rfl, rfl, rfl, trivial⟩ (Nat.le_of_ble_eq_true rfl) trivial (tw_X10_nodeTells h)
/-! X10_checksum -/
abbrev mm_X10_checksum : ax_M := (RX10, cX10_checksum, (some .long), 5, false)
def fb_X10_checksum_205 (k169 : Option Nat → Int64 → Int32 → ax_S → Option (Int64 × ax_S)) (k182 : Option Nat → Int64 → Int32 → Int32 → ax_S → Option (Int64 × ax_S)) (a0 : Option Nat) (a3 : Int32) (a4 : Int32) (b0 : Int64) (b1 : Int32) (s : ax_S) : Option (Int64 × ax_S) :=
  (fn_X10_more b0 b1 s).bind fun q1 =>
  k182 a0 q1.1 a3 (a4 + (1)) q1.2
set_option maxRecDepth 100000 in
set_option maxHeartbeats 4000000 in
theorem tb_X10_checksum_205 {q : Int64 × ax_S} {k169 : Option Nat → Int64 → Int32 → ax_S → Option (Int64 × ax_S)} {k182 : Option Nat → Int64 → Int32 → Int32 → ax_S → Option (Int64 × ax_S)} (hk169 : ∀ (a0 : Option Nat) (a1 : Int64) (a3 : Int32) (s : ax_S), k169 a0 a1 a3 s = some q → AW mm_X10_checksum 4 0 0 169 [(some (av_r a0)), (some (av_l a1)), none, (some (av_i a3)), none] [] s (some (av_l q.1), q.2)) (hk182 : ∀ (a0 : Option Nat) (a1 : Int64) (a3 : Int32) (a4 : Int32) (s : ax_S), k182 a0 a1 a3 a4 s = some q → AW mm_X10_checksum 4 0 0 182 [(some (av_r a0)), (some (av_l a1)), none, (some (av_i a3)), (some (av_i a4))] [] s (some (av_l q.1), q.2)) {a0 : Option Nat} {a3 : Int32} {a4 : Int32} {b0 : Int64} {b1 : Int32} {s : ax_S} (h : fb_X10_checksum_205 k169 k182 a0 a3 a4 b0 b1 s = some q) : AW mm_X10_checksum 4 0 0 205 [(some (av_r a0)), none, none, (some (av_i a3)), (some (av_i a4))] [av_i b1, av_l b0] s (some (av_l q.1), q.2) := by
  unfold fb_X10_checksum_205 at h
  obtain ⟨q1, gq1, h⟩ := Option.bind_eq_some_iff.mp h
  refine ax_cS (As := [av_l b0, av_i b1]) dX10_checksum_205 (th_X10_more gq1) (And.intro wd_1109 wd_60) wd_1107 wd_1108 cy_X10_more (by omega) (by decide) (Nat.le_of_ble_eq_true rfl) rfl ?_
  refine ax_lstore_n (i := 1) (L2 := [some (av_r a0), some (av_l q1.1), none, some (av_i a3), some (av_i a4)]) dX10_checksum_208 rfl (by decide) rfl rfl ?_
  refine ax_iinc (i := 4) (v := (a4 + (1))) (L2 := [some (av_r a0), some (av_l q1.1), none, some (av_i a3), some (av_i (a4 + (1)))]) dX10_checksum_209 rfl rfl (by decide) rfl rfl ?_
  refine ax_goto (tgt := 182) dX10_checksum_212 (by decide) ?_
  exact ax_less (L' := [(some (av_r a0)), (some (av_l q1.1)), none, (some (av_i a3)), (some (av_i (a4 + (1))))]) ⟨rfl, rfl, rfl, rfl, trivial⟩ (hk182 _ _ _ _ _ h)
def fb_X10_checksum_182 (k169 : Option Nat → Int64 → Int32 → ax_S → Option (Int64 × ax_S)) : Nat → Option Nat → Int64 → Int32 → Int32 → ax_S → Option (Int64 × ax_S)
  | 0, _, _, _, _, _ => none
  | n + 1, a0, a1, a3, a4, s =>
    if (10) ≤ a4 then
      k169 a0 a1 (a3 + (1)) s
    else
      (ax_sh s 7 a0).bind fun w3 =>
      (fn_X10_find a0 a3 a4 s).bind fun q4 =>
      if 0 ≤ q4.1 then
        fb_X10_checksum_205 k169 (fb_X10_checksum_182 k169 n) a0 a3 a4 a1 (1) q4.2
      else
        fb_X10_checksum_205 k169 (fb_X10_checksum_182 k169 n) a0 a3 a4 a1 (0) q4.2
set_option maxRecDepth 100000 in
set_option maxHeartbeats 4000000 in
theorem tb_X10_checksum_182 {q : Int64 × ax_S} {k169 : Option Nat → Int64 → Int32 → ax_S → Option (Int64 × ax_S)} (hk169 : ∀ (a0 : Option Nat) (a1 : Int64) (a3 : Int32) (s : ax_S), k169 a0 a1 a3 s = some q → AW mm_X10_checksum 4 0 0 169 [(some (av_r a0)), (some (av_l a1)), none, (some (av_i a3)), none] [] s (some (av_l q.1), q.2)) : ∀ (n : Nat) (a0 : Option Nat) (a1 : Int64) (a3 : Int32) (a4 : Int32) (s : ax_S) (h : fb_X10_checksum_182 k169 n a0 a1 a3 a4 s = some q), AW mm_X10_checksum 4 0 0 182 [(some (av_r a0)), (some (av_l a1)), none, (some (av_i a3)), (some (av_i a4))] [] s (some (av_l q.1), q.2) := by
  intro n
  induction n with
  | zero =>
    intro a0 a1 a3 a4 s h
    exact ax_no h
  | succ n ih =>
    intro a0 a1 a3 a4 s h
    unfold fb_X10_checksum_182 at h
    refine ax_iload (i := 4) dX10_checksum_182 rfl ?_
    refine ax_bipush (v := (10)) dX10_checksum_184 rfl ?_
    refine ax_icmp_ge (tgt := 215) dX10_checksum_186 (by decide) (fun c2 => ?_) (fun c2 => ?_)
    · rw [if_pos c2] at h
      refine ax_iinc (i := 3) (v := (a3 + (1))) (L2 := [some (av_r a0), some (av_l a1), none, some (av_i (a3 + (1))), some (av_i a4)]) dX10_checksum_215 rfl rfl (by decide) rfl rfl ?_
      refine ax_goto (tgt := 169) dX10_checksum_218 (by decide) ?_
      exact ax_less (L' := [(some (av_r a0)), (some (av_l a1)), none, (some (av_i (a3 + (1)))), none]) ⟨rfl, rfl, rfl, trivial⟩ (hk169 _ _ _ _ h)
    · rw [if_neg c2] at h
      refine ax_lload_n (i := 1) dX10_checksum_189 rfl rfl ?_
      refine ax_aload_n (i := 0) dX10_checksum_190 rfl rfl ?_
      refine ax_iload_n (i := 3) dX10_checksum_191 rfl rfl ?_
      refine ax_iload (i := 4) dX10_checksum_192 rfl ?_
      obtain ⟨w3, gw3, h⟩ := Option.bind_eq_some_iff.mp h
      obtain ⟨q4, gq4, h⟩ := Option.bind_eq_some_iff.mp h
      refine ax_cV (As := [av_i a3, av_i a4]) (t := 7) dX10_checksum_194 gw3 (th_X10_find gq4) rfl (And.intro wd_967 wd_60) wd_964 wd_966 wd_32 cy_X10_find (by omega) (by decide) (Nat.le_of_ble_eq_true rfl) rfl ?_
      refine ax_if_ge (tgt := 204) dX10_checksum_197 (by decide) (fun c5 => ?_) (fun c5 => ?_)
      · rw [if_pos c5] at h
        refine ax_iconst (v := (1)) dX10_checksum_204 rfl ?_
        exact ax_less (L' := [(some (av_r a0)), none, none, (some (av_i a3)), (some (av_i a4))]) ⟨rfl, rfl, rfl, trivial⟩ (tb_X10_checksum_205 hk169 ih h)
      · rw [if_neg c5] at h
        refine ax_iconst (v := (0)) dX10_checksum_200 rfl ?_
        refine ax_goto (tgt := 205) dX10_checksum_201 (by decide) ?_
        exact ax_less (L' := [(some (av_r a0)), none, none, (some (av_i a3)), (some (av_i a4))]) ⟨rfl, rfl, rfl, trivial⟩ (tb_X10_checksum_205 hk169 ih h)
def fb_X10_checksum_169 : Nat → Option Nat → Int64 → Int32 → ax_S → Option (Int64 × ax_S)
  | 0, _, _, _, _ => none
  | n + 1, a0, a1, a3, s =>
    (ax_gr s 7 0 a0).bind fun r6 =>
    (ax_al s 9 r6 (0)).bind fun x7 =>
    if x7 ≤ a3 then
      some (a1, s)
    else
      fb_X10_checksum_182 (fb_X10_checksum_169 n) 10000 a0 a1 a3 (0) s
set_option maxRecDepth 100000 in
set_option maxHeartbeats 4000000 in
theorem tb_X10_checksum_169 {q : Int64 × ax_S} : ∀ (n : Nat) (a0 : Option Nat) (a1 : Int64) (a3 : Int32) (s : ax_S) (h : fb_X10_checksum_169 n a0 a1 a3 s = some q), AW mm_X10_checksum 4 0 0 169 [(some (av_r a0)), (some (av_l a1)), none, (some (av_i a3)), none] [] s (some (av_l q.1), q.2) := by
  intro n
  induction n with
  | zero =>
    intro a0 a1 a3 s h
    exact ax_no h
  | succ n ih =>
    intro a0 a1 a3 s h
    unfold fb_X10_checksum_169 at h
    refine ax_iload_n (i := 3) dX10_checksum_169 rfl rfl ?_
    refine ax_aload_n (i := 0) dX10_checksum_170 rfl rfl ?_
    obtain ⟨r6, gr6, h⟩ := Option.bind_eq_some_iff.mp h
    refine ax_getR (q := (RX10, TX10, 28)) (t := 7) (k := 0) dX10_checksum_171 rfl (by decide) wd_761 rfl gr6 ?_
    refine ax_iconst (v := (0)) dX10_checksum_174 rfl ?_
    obtain ⟨x7, gx7, h⟩ := Option.bind_eq_some_iff.mp h
    refine ax_iald dX10_checksum_175 gx7 ?_
    refine ax_icmp_ge (tgt := 221) dX10_checksum_176 (by decide) (fun c8 => ?_) (fun c8 => ?_)
    · rw [if_pos c8] at h
      refine ax_lload_n (i := 1) dX10_checksum_221 rfl rfl ?_
      exact ax_retl dX10_checksum_222 h
    · rw [if_neg c8] at h
      refine ax_iconst (v := (0)) dX10_checksum_179 rfl ?_
      refine ax_istore (i := 4) (L2 := [some (av_r a0), some (av_l a1), none, some (av_i a3), some (av_i (0))]) dX10_checksum_180 (by decide) rfl rfl ?_
      exact ax_less (L' := [(some (av_r a0)), (some (av_l a1)), none, (some (av_i a3)), (some (av_i (0)))]) ⟨rfl, rfl, rfl, rfl, trivial⟩ (tb_X10_checksum_182 ih _ _ _ _ _ _ h)
def fb_X10_checksum_146 : Nat → Option Nat → Int64 → Int32 → ax_S → Option (Int64 × ax_S)
  | 0, _, _, _, _ => none
  | n + 1, a0, a1, a3, s =>
    if (5) ≤ a3 then
      fb_X10_checksum_169 10000 a0 a1 (0) s
    else
      (ax_sh s 7 a0).bind fun w10 =>
      (fn_X10_countOf a0 a3 s).bind fun q11 =>
      (fn_X10_more a1 q11.1 q11.2).bind fun q12 =>
      (fb_X10_checksum_146 n) a0 q12.1 (a3 + (1)) q12.2
set_option maxRecDepth 100000 in
set_option maxHeartbeats 4000000 in
theorem tb_X10_checksum_146 {q : Int64 × ax_S} : ∀ (n : Nat) (a0 : Option Nat) (a1 : Int64) (a3 : Int32) (s : ax_S) (h : fb_X10_checksum_146 n a0 a1 a3 s = some q), AW mm_X10_checksum 4 0 0 146 [(some (av_r a0)), (some (av_l a1)), none, (some (av_i a3)), none] [] s (some (av_l q.1), q.2) := by
  intro n
  induction n with
  | zero =>
    intro a0 a1 a3 s h
    exact ax_no h
  | succ n ih =>
    intro a0 a1 a3 s h
    unfold fb_X10_checksum_146 at h
    refine ax_iload_n (i := 3) dX10_checksum_146 rfl rfl ?_
    refine ax_iconst (v := (5)) dX10_checksum_147 rfl ?_
    refine ax_icmp_ge (tgt := 167) dX10_checksum_148 (by decide) (fun c9 => ?_) (fun c9 => ?_)
    · rw [if_pos c9] at h
      refine ax_iconst (v := (0)) dX10_checksum_167 rfl ?_
      refine ax_istore_n (i := 3) (L2 := [some (av_r a0), some (av_l a1), none, some (av_i (0)), none]) dX10_checksum_168 rfl (by decide) rfl rfl ?_
      exact ax_less (L' := [(some (av_r a0)), (some (av_l a1)), none, (some (av_i (0))), none]) ⟨rfl, rfl, rfl, trivial⟩ (tb_X10_checksum_169  _ _ _ _ _ h)
    · rw [if_neg c9] at h
      refine ax_lload_n (i := 1) dX10_checksum_151 rfl rfl ?_
      refine ax_aload_n (i := 0) dX10_checksum_152 rfl rfl ?_
      refine ax_iload_n (i := 3) dX10_checksum_153 rfl rfl ?_
      obtain ⟨w10, gw10, h⟩ := Option.bind_eq_some_iff.mp h
      obtain ⟨q11, gq11, h⟩ := Option.bind_eq_some_iff.mp h
      refine ax_cV (As := [av_i a3]) (t := 7) dX10_checksum_154 gw10 (th_X10_countOf gq11) rfl (And.intro wd_1037 wd_60) wd_1034 wd_1036 wd_42 cy_X10_countOf (by omega) (by decide) (Nat.le_of_ble_eq_true rfl) rfl ?_
      obtain ⟨q12, gq12, h⟩ := Option.bind_eq_some_iff.mp h
      refine ax_cS (As := [av_l a1, av_i q11.1]) dX10_checksum_157 (th_X10_more gq12) (And.intro wd_1109 wd_60) wd_1107 wd_1108 cy_X10_more (by omega) (by decide) (Nat.le_of_ble_eq_true rfl) rfl ?_
      refine ax_lstore_n (i := 1) (L2 := [some (av_r a0), some (av_l q12.1), none, some (av_i a3), none]) dX10_checksum_160 rfl (by decide) rfl rfl ?_
      refine ax_iinc (i := 3) (v := (a3 + (1))) (L2 := [some (av_r a0), some (av_l q12.1), none, some (av_i (a3 + (1))), none]) dX10_checksum_161 rfl rfl (by decide) rfl rfl ?_
      refine ax_goto (tgt := 146) dX10_checksum_164 (by decide) ?_
      exact ax_less (L' := [(some (av_r a0)), (some (av_l q12.1)), none, (some (av_i (a3 + (1)))), none]) ⟨rfl, rfl, rfl, trivial⟩ (ih _ _ _ _ h)
def fb_X10_checksum_98 (k15 : Option Nat → Int64 → Int32 → ax_S → Option (Int64 × ax_S)) : Nat → Option Nat → Int64 → Int32 → Int32 → ax_S → Option (Int64 × ax_S)
  | 0, _, _, _, _, _ => none
  | n + 1, a0, a1, a3, a4, s =>
    (ax_gr s 7 14 a0).bind fun r13 =>
    (ax_sh s 7 a0).bind fun w14 =>
    (fn_X10_kind a0 a3 s).bind fun q15 =>
    (ax_al q15.2 9 r13 q15.1).bind fun x16 =>
    if x16 ≤ a4 then
      k15 a0 a1 (a3 + (1)) q15.2
    else
      (ax_gr q15.2 7 0 a0).bind fun r18 =>
      (fn_X10_at a3 ((6) + a4) q15.2).bind fun q19 =>
      (ax_al q19.2 9 r18 q19.1).bind fun x20 =>
      (fn_X10_more a1 x20 q19.2).bind fun q21 =>
      (fb_X10_checksum_98 k15 n) a0 q21.1 a3 (a4 + (1)) q21.2
set_option maxRecDepth 100000 in
set_option maxHeartbeats 4000000 in
theorem tb_X10_checksum_98 {q : Int64 × ax_S} {k15 : Option Nat → Int64 → Int32 → ax_S → Option (Int64 × ax_S)} (hk15 : ∀ (a0 : Option Nat) (a1 : Int64) (a3 : Int32) (s : ax_S), k15 a0 a1 a3 s = some q → AW mm_X10_checksum 4 0 0 15 [(some (av_r a0)), (some (av_l a1)), none, (some (av_i a3)), none] [] s (some (av_l q.1), q.2)) : ∀ (n : Nat) (a0 : Option Nat) (a1 : Int64) (a3 : Int32) (a4 : Int32) (s : ax_S) (h : fb_X10_checksum_98 k15 n a0 a1 a3 a4 s = some q), AW mm_X10_checksum 4 0 0 98 [(some (av_r a0)), (some (av_l a1)), none, (some (av_i a3)), (some (av_i a4))] [] s (some (av_l q.1), q.2) := by
  intro n
  induction n with
  | zero =>
    intro a0 a1 a3 a4 s h
    exact ax_no h
  | succ n ih =>
    intro a0 a1 a3 a4 s h
    unfold fb_X10_checksum_98 at h
    refine ax_iload (i := 4) dX10_checksum_98 rfl ?_
    refine ax_aload_n (i := 0) dX10_checksum_100 rfl rfl ?_
    obtain ⟨r13, gr13, h⟩ := Option.bind_eq_some_iff.mp h
    refine ax_getR (q := (RX10, TX10, 28)) (t := 7) (k := 14) dX10_checksum_101 rfl (by decide) wd_775 rfl gr13 ?_
    refine ax_aload_n (i := 0) dX10_checksum_104 rfl rfl ?_
    refine ax_iload_n (i := 3) dX10_checksum_105 rfl rfl ?_
    obtain ⟨w14, gw14, h⟩ := Option.bind_eq_some_iff.mp h
    obtain ⟨q15, gq15, h⟩ := Option.bind_eq_some_iff.mp h
    refine ax_cV (As := [av_i a3]) (t := 7) dX10_checksum_106 gw14 (th_X10_kind gq15) rfl (And.intro wd_882 wd_60) wd_879 wd_881 wd_20 cy_X10_kind (by omega) (by decide) (Nat.le_of_ble_eq_true rfl) rfl ?_
    obtain ⟨x16, gx16, h⟩ := Option.bind_eq_some_iff.mp h
    refine ax_iald dX10_checksum_109 gx16 ?_
    refine ax_icmp_ge (tgt := 138) dX10_checksum_110 (by decide) (fun c17 => ?_) (fun c17 => ?_)
    · rw [if_pos c17] at h
      refine ax_iinc (i := 3) (v := (a3 + (1))) (L2 := [some (av_r a0), some (av_l a1), none, some (av_i (a3 + (1))), some (av_i a4)]) dX10_checksum_138 rfl rfl (by decide) rfl rfl ?_
      refine ax_goto (tgt := 15) dX10_checksum_141 (by decide) ?_
      exact ax_less (L' := [(some (av_r a0)), (some (av_l a1)), none, (some (av_i (a3 + (1)))), none]) ⟨rfl, rfl, rfl, trivial⟩ (hk15 _ _ _ _ h)
    · rw [if_neg c17] at h
      refine ax_lload_n (i := 1) dX10_checksum_113 rfl rfl ?_
      refine ax_aload_n (i := 0) dX10_checksum_114 rfl rfl ?_
      obtain ⟨r18, gr18, h⟩ := Option.bind_eq_some_iff.mp h
      refine ax_getR (q := (RX10, TX10, 28)) (t := 7) (k := 0) dX10_checksum_115 rfl (by decide) wd_761 rfl gr18 ?_
      refine ax_iload_n (i := 3) dX10_checksum_118 rfl rfl ?_
      refine ax_bipush (v := (6)) dX10_checksum_119 rfl ?_
      refine ax_iload (i := 4) dX10_checksum_121 rfl ?_
      refine ax_iadd dX10_checksum_123 ?_
      obtain ⟨q19, gq19, h⟩ := Option.bind_eq_some_iff.mp h
      refine ax_cS (As := [av_i a3, av_i ((6) + a4)]) dX10_checksum_124 (th_X10_at gq19) (And.intro wd_863 wd_60) wd_861 wd_862 cy_X10_at (by omega) (by decide) (Nat.le_of_ble_eq_true rfl) rfl ?_
      obtain ⟨x20, gx20, h⟩ := Option.bind_eq_some_iff.mp h
      refine ax_iald dX10_checksum_127 gx20 ?_
      obtain ⟨q21, gq21, h⟩ := Option.bind_eq_some_iff.mp h
      refine ax_cS (As := [av_l a1, av_i x20]) dX10_checksum_128 (th_X10_more gq21) (And.intro wd_1109 wd_60) wd_1107 wd_1108 cy_X10_more (by omega) (by decide) (Nat.le_of_ble_eq_true rfl) rfl ?_
      refine ax_lstore_n (i := 1) (L2 := [some (av_r a0), some (av_l q21.1), none, some (av_i a3), some (av_i a4)]) dX10_checksum_131 rfl (by decide) rfl rfl ?_
      refine ax_iinc (i := 4) (v := (a4 + (1))) (L2 := [some (av_r a0), some (av_l q21.1), none, some (av_i a3), some (av_i (a4 + (1)))]) dX10_checksum_132 rfl rfl (by decide) rfl rfl ?_
      refine ax_goto (tgt := 98) dX10_checksum_135 (by decide) ?_
      exact ax_less (L' := [(some (av_r a0)), (some (av_l q21.1)), none, (some (av_i a3)), (some (av_i (a4 + (1))))]) ⟨rfl, rfl, rfl, rfl, trivial⟩ (ih _ _ _ _ _ h)
def fb_X10_checksum_56 (k15 : Option Nat → Int64 → Int32 → ax_S → Option (Int64 × ax_S)) : Nat → Option Nat → Int64 → Int32 → Int32 → ax_S → Option (Int64 × ax_S)
  | 0, _, _, _, _, _ => none
  | n + 1, a0, a1, a3, a4, s =>
    (ax_gr s 7 13 a0).bind fun r22 =>
    (ax_sh s 7 a0).bind fun w23 =>
    (fn_X10_kind a0 a3 s).bind fun q24 =>
    (ax_al q24.2 9 r22 q24.1).bind fun x25 =>
    if x25 ≤ a4 then
      fb_X10_checksum_98 k15 10000 a0 a1 a3 (0) q24.2
    else
      (ax_gr q24.2 7 0 a0).bind fun r27 =>
      (fn_X10_at a3 ((3) + a4) q24.2).bind fun q28 =>
      (ax_al q28.2 9 r27 q28.1).bind fun x29 =>
      (fn_X10_more a1 x29 q28.2).bind fun q30 =>
      (fb_X10_checksum_56 k15 n) a0 q30.1 a3 (a4 + (1)) q30.2
set_option maxRecDepth 100000 in
set_option maxHeartbeats 4000000 in
theorem tb_X10_checksum_56 {q : Int64 × ax_S} {k15 : Option Nat → Int64 → Int32 → ax_S → Option (Int64 × ax_S)} (hk15 : ∀ (a0 : Option Nat) (a1 : Int64) (a3 : Int32) (s : ax_S), k15 a0 a1 a3 s = some q → AW mm_X10_checksum 4 0 0 15 [(some (av_r a0)), (some (av_l a1)), none, (some (av_i a3)), none] [] s (some (av_l q.1), q.2)) : ∀ (n : Nat) (a0 : Option Nat) (a1 : Int64) (a3 : Int32) (a4 : Int32) (s : ax_S) (h : fb_X10_checksum_56 k15 n a0 a1 a3 a4 s = some q), AW mm_X10_checksum 4 0 0 56 [(some (av_r a0)), (some (av_l a1)), none, (some (av_i a3)), (some (av_i a4))] [] s (some (av_l q.1), q.2) := by
  intro n
  induction n with
  | zero =>
    intro a0 a1 a3 a4 s h
    exact ax_no h
  | succ n ih =>
    intro a0 a1 a3 a4 s h
    unfold fb_X10_checksum_56 at h
    refine ax_iload (i := 4) dX10_checksum_56 rfl ?_
    refine ax_aload_n (i := 0) dX10_checksum_58 rfl rfl ?_
    obtain ⟨r22, gr22, h⟩ := Option.bind_eq_some_iff.mp h
    refine ax_getR (q := (RX10, TX10, 28)) (t := 7) (k := 13) dX10_checksum_59 rfl (by decide) wd_774 rfl gr22 ?_
    refine ax_aload_n (i := 0) dX10_checksum_62 rfl rfl ?_
    refine ax_iload_n (i := 3) dX10_checksum_63 rfl rfl ?_
    obtain ⟨w23, gw23, h⟩ := Option.bind_eq_some_iff.mp h
    obtain ⟨q24, gq24, h⟩ := Option.bind_eq_some_iff.mp h
    refine ax_cV (As := [av_i a3]) (t := 7) dX10_checksum_64 gw23 (th_X10_kind gq24) rfl (And.intro wd_882 wd_60) wd_879 wd_881 wd_20 cy_X10_kind (by omega) (by decide) (Nat.le_of_ble_eq_true rfl) rfl ?_
    obtain ⟨x25, gx25, h⟩ := Option.bind_eq_some_iff.mp h
    refine ax_iald dX10_checksum_67 gx25 ?_
    refine ax_icmp_ge (tgt := 95) dX10_checksum_68 (by decide) (fun c26 => ?_) (fun c26 => ?_)
    · rw [if_pos c26] at h
      refine ax_iconst (v := (0)) dX10_checksum_95 rfl ?_
      refine ax_istore (i := 4) (L2 := [some (av_r a0), some (av_l a1), none, some (av_i a3), some (av_i (0))]) dX10_checksum_96 (by decide) rfl rfl ?_
      exact ax_less (L' := [(some (av_r a0)), (some (av_l a1)), none, (some (av_i a3)), (some (av_i (0)))]) ⟨rfl, rfl, rfl, rfl, trivial⟩ (tb_X10_checksum_98 hk15 _ _ _ _ _ _ h)
    · rw [if_neg c26] at h
      refine ax_lload_n (i := 1) dX10_checksum_71 rfl rfl ?_
      refine ax_aload_n (i := 0) dX10_checksum_72 rfl rfl ?_
      obtain ⟨r27, gr27, h⟩ := Option.bind_eq_some_iff.mp h
      refine ax_getR (q := (RX10, TX10, 28)) (t := 7) (k := 0) dX10_checksum_73 rfl (by decide) wd_761 rfl gr27 ?_
      refine ax_iload_n (i := 3) dX10_checksum_76 rfl rfl ?_
      refine ax_iconst (v := (3)) dX10_checksum_77 rfl ?_
      refine ax_iload (i := 4) dX10_checksum_78 rfl ?_
      refine ax_iadd dX10_checksum_80 ?_
      obtain ⟨q28, gq28, h⟩ := Option.bind_eq_some_iff.mp h
      refine ax_cS (As := [av_i a3, av_i ((3) + a4)]) dX10_checksum_81 (th_X10_at gq28) (And.intro wd_863 wd_60) wd_861 wd_862 cy_X10_at (by omega) (by decide) (Nat.le_of_ble_eq_true rfl) rfl ?_
      obtain ⟨x29, gx29, h⟩ := Option.bind_eq_some_iff.mp h
      refine ax_iald dX10_checksum_84 gx29 ?_
      obtain ⟨q30, gq30, h⟩ := Option.bind_eq_some_iff.mp h
      refine ax_cS (As := [av_l a1, av_i x29]) dX10_checksum_85 (th_X10_more gq30) (And.intro wd_1109 wd_60) wd_1107 wd_1108 cy_X10_more (by omega) (by decide) (Nat.le_of_ble_eq_true rfl) rfl ?_
      refine ax_lstore_n (i := 1) (L2 := [some (av_r a0), some (av_l q30.1), none, some (av_i a3), some (av_i a4)]) dX10_checksum_88 rfl (by decide) rfl rfl ?_
      refine ax_iinc (i := 4) (v := (a4 + (1))) (L2 := [some (av_r a0), some (av_l q30.1), none, some (av_i a3), some (av_i (a4 + (1)))]) dX10_checksum_89 rfl rfl (by decide) rfl rfl ?_
      refine ax_goto (tgt := 56) dX10_checksum_92 (by decide) ?_
      exact ax_less (L' := [(some (av_r a0)), (some (av_l q30.1)), none, (some (av_i a3)), (some (av_i (a4 + (1))))]) ⟨rfl, rfl, rfl, rfl, trivial⟩ (ih _ _ _ _ _ h)
def fb_X10_checksum_28 (k15 : Option Nat → Int64 → Int32 → ax_S → Option (Int64 × ax_S)) : Nat → Option Nat → Int64 → Int32 → Int32 → ax_S → Option (Int64 × ax_S)
  | 0, _, _, _, _, _ => none
  | n + 1, a0, a1, a3, a4, s =>
    if (6) ≤ a4 then
      fb_X10_checksum_56 k15 10000 a0 a1 a3 (0) s
    else
      (ax_sh s 7 a0).bind fun w32 =>
      (fn_X10_nodeTells a0 a3 a4 s).bind fun q33 =>
      (fn_X10_more a1 q33.1 q33.2).bind fun q34 =>
      (fb_X10_checksum_28 k15 n) a0 q34.1 a3 (a4 + (1)) q34.2
set_option maxRecDepth 100000 in
set_option maxHeartbeats 4000000 in
theorem tb_X10_checksum_28 {q : Int64 × ax_S} {k15 : Option Nat → Int64 → Int32 → ax_S → Option (Int64 × ax_S)} (hk15 : ∀ (a0 : Option Nat) (a1 : Int64) (a3 : Int32) (s : ax_S), k15 a0 a1 a3 s = some q → AW mm_X10_checksum 4 0 0 15 [(some (av_r a0)), (some (av_l a1)), none, (some (av_i a3)), none] [] s (some (av_l q.1), q.2)) : ∀ (n : Nat) (a0 : Option Nat) (a1 : Int64) (a3 : Int32) (a4 : Int32) (s : ax_S) (h : fb_X10_checksum_28 k15 n a0 a1 a3 a4 s = some q), AW mm_X10_checksum 4 0 0 28 [(some (av_r a0)), (some (av_l a1)), none, (some (av_i a3)), (some (av_i a4))] [] s (some (av_l q.1), q.2) := by
  intro n
  induction n with
  | zero =>
    intro a0 a1 a3 a4 s h
    exact ax_no h
  | succ n ih =>
    intro a0 a1 a3 a4 s h
    unfold fb_X10_checksum_28 at h
    refine ax_iload (i := 4) dX10_checksum_28 rfl ?_
    refine ax_bipush (v := (6)) dX10_checksum_30 rfl ?_
    refine ax_icmp_ge (tgt := 53) dX10_checksum_32 (by decide) (fun c31 => ?_) (fun c31 => ?_)
    · rw [if_pos c31] at h
      refine ax_iconst (v := (0)) dX10_checksum_53 rfl ?_
      refine ax_istore (i := 4) (L2 := [some (av_r a0), some (av_l a1), none, some (av_i a3), some (av_i (0))]) dX10_checksum_54 (by decide) rfl rfl ?_
      exact ax_less (L' := [(some (av_r a0)), (some (av_l a1)), none, (some (av_i a3)), (some (av_i (0)))]) ⟨rfl, rfl, rfl, rfl, trivial⟩ (tb_X10_checksum_56 hk15 _ _ _ _ _ _ h)
    · rw [if_neg c31] at h
      refine ax_lload_n (i := 1) dX10_checksum_35 rfl rfl ?_
      refine ax_aload_n (i := 0) dX10_checksum_36 rfl rfl ?_
      refine ax_iload_n (i := 3) dX10_checksum_37 rfl rfl ?_
      refine ax_iload (i := 4) dX10_checksum_38 rfl ?_
      obtain ⟨w32, gw32, h⟩ := Option.bind_eq_some_iff.mp h
      obtain ⟨q33, gq33, h⟩ := Option.bind_eq_some_iff.mp h
      refine ax_cV (As := [av_i a3, av_i a4]) (t := 7) dX10_checksum_40 gw32 (th_X10_nodeTells gq33) rfl (And.intro wd_924 wd_60) wd_921 wd_923 wd_25 cy_X10_nodeTells (by omega) (by decide) (Nat.le_of_ble_eq_true rfl) rfl ?_
      obtain ⟨q34, gq34, h⟩ := Option.bind_eq_some_iff.mp h
      refine ax_cS (As := [av_l a1, av_i q33.1]) dX10_checksum_43 (th_X10_more gq34) (And.intro wd_1109 wd_60) wd_1107 wd_1108 cy_X10_more (by omega) (by decide) (Nat.le_of_ble_eq_true rfl) rfl ?_
      refine ax_lstore_n (i := 1) (L2 := [some (av_r a0), some (av_l q34.1), none, some (av_i a3), some (av_i a4)]) dX10_checksum_46 rfl (by decide) rfl rfl ?_
      refine ax_iinc (i := 4) (v := (a4 + (1))) (L2 := [some (av_r a0), some (av_l q34.1), none, some (av_i a3), some (av_i (a4 + (1)))]) dX10_checksum_47 rfl rfl (by decide) rfl rfl ?_
      refine ax_goto (tgt := 28) dX10_checksum_50 (by decide) ?_
      exact ax_less (L' := [(some (av_r a0)), (some (av_l q34.1)), none, (some (av_i a3)), (some (av_i (a4 + (1))))]) ⟨rfl, rfl, rfl, rfl, trivial⟩ (ih _ _ _ _ _ h)
def fb_X10_checksum_15 : Nat → Option Nat → Int64 → Int32 → ax_S → Option (Int64 × ax_S)
  | 0, _, _, _, _ => none
  | n + 1, a0, a1, a3, s =>
    (ax_gr s 7 0 a0).bind fun r35 =>
    (ax_al s 9 r35 (0)).bind fun x36 =>
    if x36 ≤ a3 then
      fb_X10_checksum_146 10000 a0 a1 (0) s
    else
      fb_X10_checksum_28 (fb_X10_checksum_15 n) 10000 a0 a1 a3 (0) s
set_option maxRecDepth 100000 in
set_option maxHeartbeats 4000000 in
theorem tb_X10_checksum_15 {q : Int64 × ax_S} : ∀ (n : Nat) (a0 : Option Nat) (a1 : Int64) (a3 : Int32) (s : ax_S) (h : fb_X10_checksum_15 n a0 a1 a3 s = some q), AW mm_X10_checksum 4 0 0 15 [(some (av_r a0)), (some (av_l a1)), none, (some (av_i a3)), none] [] s (some (av_l q.1), q.2) := by
  intro n
  induction n with
  | zero =>
    intro a0 a1 a3 s h
    exact ax_no h
  | succ n ih =>
    intro a0 a1 a3 s h
    unfold fb_X10_checksum_15 at h
    refine ax_iload_n (i := 3) dX10_checksum_15 rfl rfl ?_
    refine ax_aload_n (i := 0) dX10_checksum_16 rfl rfl ?_
    obtain ⟨r35, gr35, h⟩ := Option.bind_eq_some_iff.mp h
    refine ax_getR (q := (RX10, TX10, 28)) (t := 7) (k := 0) dX10_checksum_17 rfl (by decide) wd_761 rfl gr35 ?_
    refine ax_iconst (v := (0)) dX10_checksum_20 rfl ?_
    obtain ⟨x36, gx36, h⟩ := Option.bind_eq_some_iff.mp h
    refine ax_iald dX10_checksum_21 gx36 ?_
    refine ax_icmp_ge (tgt := 144) dX10_checksum_22 (by decide) (fun c37 => ?_) (fun c37 => ?_)
    · rw [if_pos c37] at h
      refine ax_iconst (v := (0)) dX10_checksum_144 rfl ?_
      refine ax_istore_n (i := 3) (L2 := [some (av_r a0), some (av_l a1), none, some (av_i (0)), none]) dX10_checksum_145 rfl (by decide) rfl rfl ?_
      exact ax_less (L' := [(some (av_r a0)), (some (av_l a1)), none, (some (av_i (0))), none]) ⟨rfl, rfl, rfl, trivial⟩ (tb_X10_checksum_146  _ _ _ _ _ h)
    · rw [if_neg c37] at h
      refine ax_iconst (v := (0)) dX10_checksum_25 rfl ?_
      refine ax_istore (i := 4) (L2 := [some (av_r a0), some (av_l a1), none, some (av_i a3), some (av_i (0))]) dX10_checksum_26 (by decide) rfl rfl ?_
      exact ax_less (L' := [(some (av_r a0)), (some (av_l a1)), none, (some (av_i a3)), (some (av_i (0)))]) ⟨rfl, rfl, rfl, rfl, trivial⟩ (tb_X10_checksum_28 ih _ _ _ _ _ _ h)
def fn_X10_checksum (a0 : Option Nat) (s : ax_S) : Option (Int64 × ax_S) :=
  (ax_gr s 7 0 a0).bind fun r38 =>
  (ax_al s 9 r38 (0)).bind fun x39 =>
  (fn_X10_more (127) x39 s).bind fun q40 =>
  fb_X10_checksum_15 10000 a0 q40.1 (0) q40.2
set_option maxRecDepth 100000 in
set_option maxHeartbeats 4000000 in
theorem tw_X10_checksum {q : Int64 × ax_S} {a0 : Option Nat} {s : ax_S} (h : fn_X10_checksum a0 s = some q) : AW mm_X10_checksum 4 0 0 0 [some (av_r a0), none, none, none, none] [] s (some (av_l q.1), q.2) := by
  unfold fn_X10_checksum at h
  refine ax_ldc2 (v := (127)) dX10_checksum_0 wd_1106 ?_
  refine ax_aload_n (i := 0) dX10_checksum_3 rfl rfl ?_
  obtain ⟨r38, gr38, h⟩ := Option.bind_eq_some_iff.mp h
  refine ax_getR (q := (RX10, TX10, 28)) (t := 7) (k := 0) dX10_checksum_4 rfl (by decide) wd_761 rfl gr38 ?_
  refine ax_iconst (v := (0)) dX10_checksum_7 rfl ?_
  obtain ⟨x39, gx39, h⟩ := Option.bind_eq_some_iff.mp h
  refine ax_iald dX10_checksum_8 gx39 ?_
  obtain ⟨q40, gq40, h⟩ := Option.bind_eq_some_iff.mp h
  refine ax_cS (As := [av_l (127), av_i x39]) dX10_checksum_9 (th_X10_more gq40) (And.intro wd_1109 wd_60) wd_1107 wd_1108 cy_X10_more (by omega) (by decide) (Nat.le_of_ble_eq_true rfl) rfl ?_
  refine ax_lstore_n (i := 1) (L2 := [some (av_r a0), some (av_l q40.1), none, none, none]) dX10_checksum_12 rfl (by decide) rfl rfl ?_
  refine ax_iconst (v := (0)) dX10_checksum_13 rfl ?_
  refine ax_istore_n (i := 3) (L2 := [some (av_r a0), some (av_l q40.1), none, some (av_i (0)), none]) dX10_checksum_14 rfl (by decide) rfl rfl ?_
  exact ax_less (L' := [(some (av_r a0)), (some (av_l q40.1)), none, (some (av_i (0))), none]) ⟨rfl, rfl, rfl, trivial⟩ (tb_X10_checksum_15  _ _ _ _ _ h)
set_option maxRecDepth 100000 in
set_option maxHeartbeats 4000000 in
theorem th_X10_checksum {q : Int64 × ax_S} {a0 : Option Nat} {s : ax_S} (h : fn_X10_checksum a0 s = some q) : AC mm_X10_checksum yX10_checksum 4 0 0 [av_r a0] s (some (av_l q.1), q.2) := by
  exact ax_met (L0 := [some (av_r a0), none, none, none, none]) (by decide +kernel) rfl (fun h => absurd h (by decide)) ⟨rfl, trivial⟩ (Nat.le_of_ble_eq_true rfl) trivial (tw_X10_checksum h)
/-! X10_clear -/
abbrev mm_X10_clear : ax_M := (RX10, cX10_clear, (some .int), 2, false)
def fn_X10_clear (a0 : Option Nat) (s : ax_S) : Option (Int32 × ax_S) :=
  (ax_gr s 7 0 a0).bind fun r1 =>
  (ax_al s 9 r1 (0)).bind fun x2 =>
  (ax_gr s 7 0 a0).bind fun r3 =>
  (ax_as s 9 r3 (0) (0)).bind fun s4 =>
  (ax_pi s4 7 4 a0 (0)).bind fun s5 =>
  some (x2, s5)
set_option maxRecDepth 100000 in
set_option maxHeartbeats 4000000 in
theorem tw_X10_clear {q : Int32 × ax_S} {a0 : Option Nat} {s : ax_S} (h : fn_X10_clear a0 s = some q) : AW mm_X10_clear 0 0 0 0 [some (av_r a0), none] [] s (some (av_i q.1), q.2) := by
  unfold fn_X10_clear at h
  refine ax_aload_n (i := 0) dX10_clear_0 rfl rfl ?_
  obtain ⟨r1, gr1, h⟩ := Option.bind_eq_some_iff.mp h
  refine ax_getR (q := (RX10, TX10, 28)) (t := 7) (k := 0) dX10_clear_1 rfl (by decide) wd_761 rfl gr1 ?_
  refine ax_iconst (v := (0)) dX10_clear_4 rfl ?_
  obtain ⟨x2, gx2, h⟩ := Option.bind_eq_some_iff.mp h
  refine ax_iald dX10_clear_5 gx2 ?_
  refine ax_istore_n (i := 1) (L2 := [some (av_r a0), some (av_i x2)]) dX10_clear_6 rfl (by decide) rfl rfl ?_
  refine ax_aload_n (i := 0) dX10_clear_7 rfl rfl ?_
  obtain ⟨r3, gr3, h⟩ := Option.bind_eq_some_iff.mp h
  refine ax_getR (q := (RX10, TX10, 28)) (t := 7) (k := 0) dX10_clear_8 rfl (by decide) wd_761 rfl gr3 ?_
  refine ax_iconst (v := (0)) dX10_clear_11 rfl ?_
  refine ax_iconst (v := (0)) dX10_clear_12 rfl ?_
  obtain ⟨s4, gs4, h⟩ := Option.bind_eq_some_iff.mp h
  refine ax_iast dX10_clear_13 gs4 ?_
  refine ax_aload_n (i := 0) dX10_clear_14 rfl rfl ?_
  refine ax_iconst (v := (0)) dX10_clear_15 rfl ?_
  obtain ⟨s5, gs5, h⟩ := Option.bind_eq_some_iff.mp h
  refine ax_putI (q := (RX10, TX10, 28)) (t := 7) (k := 4) dX10_clear_16 rfl (by decide) wd_765 rfl rfl ⟨rfl, rfl⟩ gs5 ?_
  refine ax_iload_n (i := 1) dX10_clear_19 rfl rfl ?_
  exact ax_reti dX10_clear_20 h
set_option maxRecDepth 100000 in
set_option maxHeartbeats 4000000 in
theorem th_X10_clear {q : Int32 × ax_S} {a0 : Option Nat} {s : ax_S} (h : fn_X10_clear a0 s = some q) : AC mm_X10_clear yX10_clear 0 0 0 [av_r a0] s (some (av_i q.1), q.2) := by
  exact ax_met (L0 := [some (av_r a0), none]) (by decide +kernel) rfl (fun h => absurd h (by decide)) ⟨rfl, trivial⟩ (Nat.le_of_ble_eq_true rfl) trivial (tw_X10_clear h)
/-! X10_clearText -/
abbrev mm_X10_clearText : ax_M := (RX10, cX10_clearText, (some .int), 2, false)
def fn_X10_clearText (a0 : Option Nat) (s : ax_S) : Option (Int32 × ax_S) :=
  (ax_gi s 7 12 a0).bind fun x1 =>
  (ax_pi s 7 12 a0 (0)).bind fun s2 =>
  some (x1, s2)
set_option maxRecDepth 100000 in
set_option maxHeartbeats 4000000 in
theorem tw_X10_clearText {q : Int32 × ax_S} {a0 : Option Nat} {s : ax_S} (h : fn_X10_clearText a0 s = some q) : AW mm_X10_clearText 0 0 0 0 [some (av_r a0), none] [] s (some (av_i q.1), q.2) := by
  unfold fn_X10_clearText at h
  refine ax_aload_n (i := 0) dX10_clearText_0 rfl rfl ?_
  obtain ⟨x1, gx1, h⟩ := Option.bind_eq_some_iff.mp h
  refine ax_getI (q := (RX10, TX10, 28)) (t := 7) (k := 12) dX10_clearText_1 rfl (by decide) wd_773 rfl gx1 ?_
  refine ax_istore_n (i := 1) (L2 := [some (av_r a0), some (av_i x1)]) dX10_clearText_4 rfl (by decide) rfl rfl ?_
  refine ax_aload_n (i := 0) dX10_clearText_5 rfl rfl ?_
  refine ax_iconst (v := (0)) dX10_clearText_6 rfl ?_
  obtain ⟨s2, gs2, h⟩ := Option.bind_eq_some_iff.mp h
  refine ax_putI (q := (RX10, TX10, 28)) (t := 7) (k := 12) dX10_clearText_7 rfl (by decide) wd_773 rfl rfl ⟨rfl, rfl⟩ gs2 ?_
  refine ax_iload_n (i := 1) dX10_clearText_10 rfl rfl ?_
  exact ax_reti dX10_clearText_11 h
set_option maxRecDepth 100000 in
set_option maxHeartbeats 4000000 in
theorem th_X10_clearText {q : Int32 × ax_S} {a0 : Option Nat} {s : ax_S} (h : fn_X10_clearText a0 s = some q) : AC mm_X10_clearText yX10_clearText 0 0 0 [av_r a0] s (some (av_i q.1), q.2) := by
  exact ax_met (L0 := [some (av_r a0), none]) (by decide +kernel) rfl (fun h => absurd h (by decide)) ⟨rfl, trivial⟩ (Nat.le_of_ble_eq_true rfl) trivial (tw_X10_clearText h)
/-! X10_isNode -/
abbrev mm_X10_isNode : ax_M := (RX10, cX10_isNode, (some .boolean), 2, false)
def fi_X10_isNode (a0 : Option Nat) (a1 : Int32) (s : ax_S) : Option (Int32 × ax_S) :=
  (ax_gr s 7 0 a0).bind fun r1 =>
  (ax_al s 9 r1 (0)).bind fun x2 =>
  (fn_X10_in a1 (0) (x2 - (1)) s).bind fun q3 =>
  some (q3.1, q3.2)
set_option maxRecDepth 100000 in
set_option maxHeartbeats 4000000 in
theorem tw_X10_isNode {q : Int32 × ax_S} {a0 : Option Nat} {a1 : Int32} {s : ax_S} (h : fi_X10_isNode a0 a1 s = some q) : AW mm_X10_isNode 1 0 0 0 [some (av_r a0), some (av_i a1)] [] s (some (av_i q.1), q.2) := by
  unfold fi_X10_isNode at h
  refine ax_iload_n (i := 1) dX10_isNode_0 rfl rfl ?_
  refine ax_iconst (v := (0)) dX10_isNode_1 rfl ?_
  refine ax_aload_n (i := 0) dX10_isNode_2 rfl rfl ?_
  obtain ⟨r1, gr1, h⟩ := Option.bind_eq_some_iff.mp h
  refine ax_getR (q := (RX10, TX10, 28)) (t := 7) (k := 0) dX10_isNode_3 rfl (by decide) wd_761 rfl gr1 ?_
  refine ax_iconst (v := (0)) dX10_isNode_6 rfl ?_
  obtain ⟨x2, gx2, h⟩ := Option.bind_eq_some_iff.mp h
  refine ax_iald dX10_isNode_7 gx2 ?_
  refine ax_iconst (v := (1)) dX10_isNode_8 rfl ?_
  refine ax_isub dX10_isNode_9 ?_
  obtain ⟨q3, gq3, h⟩ := Option.bind_eq_some_iff.mp h
  refine ax_cS (As := [av_i a1, av_i (0), av_i (x2 - (1))]) dX10_isNode_10 (th_X10_in gq3) (And.intro wd_856 wd_60) wd_854 wd_855 cy_X10_in (by omega) (by decide) (Nat.le_of_ble_eq_true rfl) rfl ?_
  exact ax_reti dX10_isNode_13 h
def fn_X10_isNode (a0 : Option Nat) (a1 : Int32) (s : ax_S) : Option (Int32 × ax_S) := ax_bz (fi_X10_isNode a0 a1 s)
set_option maxRecDepth 100000 in
set_option maxHeartbeats 4000000 in
theorem th_X10_isNode {q : Int32 × ax_S} {a0 : Option Nat} {a1 : Int32} {s : ax_S} (h : fn_X10_isNode a0 a1 s = some q) : AC mm_X10_isNode yX10_isNode 1 0 0 [av_r a0, av_i a1] s (some (av_i q.1), q.2) := by
  obtain ⟨h, hz⟩ := ax_bz_of h
  exact ax_met (L0 := [some (av_r a0), some (av_i a1)]) (by decide +kernel) rfl (fun h => absurd h (by decide)) ⟨rfl, rfl, trivial⟩ (Nat.le_of_ble_eq_true rfl) hz (tw_X10_isNode h)
