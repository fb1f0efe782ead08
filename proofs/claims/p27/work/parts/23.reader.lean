/-! X6_expect -/
abbrev mm_X6_expect : ax_M := (RX6, cX6_expect, none, 2, false)
def fn_X6_expect (a0 : Option Nat) (a1 : Int32) (s : ax_S) : Option (ax_S) :=
  (ax_gi s 4 6 a0).bind fun x1 =>
  if x1 = 0 then
    (ax_gr s 4 0 a0).bind fun r4 =>
    (ax_gi s 4 5 a0).bind fun x5 =>
    (ax_sh s 5 r4).bind fun w6 =>
    (fn_X8_at r4 x5 s).bind fun q7 =>
    if q7.1 = a1 then
      (ax_gi q7.2 4 5 a0).bind fun x10 =>
      (ax_pi q7.2 4 5 a0 (x10 + (1))).bind fun s11 =>
      some s11
    else
      (ax_pi q7.2 4 6 a0 (1)).bind fun s9 =>
      some s9
  else
    (ax_pi s 4 6 a0 (1)).bind fun s3 =>
    some s3
set_option maxRecDepth 100000 in
set_option maxHeartbeats 4000000 in
theorem tw_X6_expect {q : ax_S} {a0 : Option Nat} {a1 : Int32} {s : ax_S} (h : fn_X6_expect a0 a1 s = some q) : AW mm_X6_expect 2 0 0 0 [some (av_r a0), some (av_i a1)] [] s (none, q) := by
  unfold fn_X6_expect at h
  refine ax_aload_n (i := 0) dX6_expect_0 rfl rfl ?_
  obtain ⟨x1, gx1, h⟩ := Option.bind_eq_some_iff.mp h
  refine ax_getI (q := (RX6, TX6, 7)) (t := 4) (k := 6) dX6_expect_1 rfl (by decide) wd_195 rfl gx1 ?_
  refine ax_if_ne (tgt := 35) dX6_expect_4 (by decide) (fun c2 => ?_) (fun c2 => ?_)
  · rw [if_neg c2] at h
    refine ax_aload_n (i := 0) dX6_expect_35 rfl rfl ?_
    refine ax_iconst (v := (1)) dX6_expect_36 rfl ?_
    obtain ⟨s3, gs3, h⟩ := Option.bind_eq_some_iff.mp h
    refine ax_putI (q := (RX6, TX6, 7)) (t := 4) (k := 6) dX6_expect_37 rfl (by decide) wd_195 rfl rfl ⟨rfl, rfl⟩ gs3 ?_
    exact ax_retv dX6_expect_40 h
  · rw [if_pos c2] at h
    refine ax_aload_n (i := 0) dX6_expect_7 rfl rfl ?_
    obtain ⟨r4, gr4, h⟩ := Option.bind_eq_some_iff.mp h
    refine ax_getR (q := (RX6, TX6, 7)) (t := 4) (k := 0) dX6_expect_8 rfl (by decide) wd_186 rfl gr4 ?_
    refine ax_aload_n (i := 0) dX6_expect_11 rfl rfl ?_
    obtain ⟨x5, gx5, h⟩ := Option.bind_eq_some_iff.mp h
    refine ax_getI (q := (RX6, TX6, 7)) (t := 4) (k := 5) dX6_expect_12 rfl (by decide) wd_194 rfl gx5 ?_
    obtain ⟨w6, gw6, h⟩ := Option.bind_eq_some_iff.mp h
    obtain ⟨q7, gq7, h⟩ := Option.bind_eq_some_iff.mp h
    refine ax_cV (As := [av_i x5]) (t := 5) dX6_expect_15 gw6 (th_X8_at gq7) rfl (And.intro wd_452 wd_24) wd_449 wd_450 wd_451 cy_X8_at (by omega) (by decide) (Nat.le_of_ble_eq_true rfl) rfl ?_
    refine ax_iload_n (i := 1) dX6_expect_18 rfl rfl ?_
    refine ax_icmp_ne (tgt := 35) dX6_expect_19 (by decide) (fun c8 => ?_) (fun c8 => ?_)
    · rw [if_neg c8] at h
      refine ax_aload_n (i := 0) dX6_expect_35 rfl rfl ?_
      refine ax_iconst (v := (1)) dX6_expect_36 rfl ?_
      obtain ⟨s9, gs9, h⟩ := Option.bind_eq_some_iff.mp h
      refine ax_putI (q := (RX6, TX6, 7)) (t := 4) (k := 6) dX6_expect_37 rfl (by decide) wd_195 rfl rfl ⟨rfl, rfl⟩ gs9 ?_
      exact ax_retv dX6_expect_40 h
    · rw [if_pos c8] at h
      refine ax_aload_n (i := 0) dX6_expect_22 rfl rfl ?_
      refine ax_dup dX6_expect_23 trivial ?_
      obtain ⟨x10, gx10, h⟩ := Option.bind_eq_some_iff.mp h
      refine ax_getI (q := (RX6, TX6, 7)) (t := 4) (k := 5) dX6_expect_24 rfl (by decide) wd_194 rfl gx10 ?_
      refine ax_iconst (v := (1)) dX6_expect_27 rfl ?_
      refine ax_iadd dX6_expect_28 ?_
      obtain ⟨s11, gs11, h⟩ := Option.bind_eq_some_iff.mp h
      refine ax_putI (q := (RX6, TX6, 7)) (t := 4) (k := 5) dX6_expect_29 rfl (by decide) wd_194 rfl rfl ⟨rfl, rfl⟩ gs11 ?_
      refine ax_goto (tgt := 40) dX6_expect_32 (by decide) ?_
      exact ax_retv dX6_expect_40 h
set_option maxRecDepth 100000 in
set_option maxHeartbeats 4000000 in
theorem th_X6_expect {q : ax_S} {a0 : Option Nat} {a1 : Int32} {s : ax_S} (h : fn_X6_expect a0 a1 s = some q) : AC mm_X6_expect yX6_expect 2 0 0 [av_r a0, av_i a1] s (none, q) := by
  exact ax_met (L0 := [some (av_r a0), some (av_i a1)]) (by decide +kernel) rfl (fun h => absurd h (by decide)) ⟨rfl, rfl, trivial⟩ (Nat.le_of_ble_eq_true rfl) trivial (tw_X6_expect h)
/-! X6_kindHere -/
abbrev mm_X6_kindHere : ax_M := (RX6, cX6_kindHere, (some .int), 3, false)
def fb_X6_kindHere_27 (b0 : Int32) (s : ax_S) : Option (Int32 × ax_S) :=
  if 0 ≤ b0 then
    some (b0, s)
  else
    some ((-1005), s)
set_option maxRecDepth 100000 in
set_option maxHeartbeats 4000000 in
theorem tb_X6_kindHere_27 {q : Int32 × ax_S} {b0 : Int32} {s : ax_S} (h : fb_X6_kindHere_27 b0 s = some q) : AW mm_X6_kindHere 4 0 0 27 [none, none, none] [av_i b0] s (some (av_i q.1), q.2) := by
  unfold fb_X6_kindHere_27 at h
  refine ax_istore_n (i := 2) (L2 := [none, none, some (av_i b0)]) dX6_kindHere_27 rfl (by decide) rfl rfl ?_
  refine ax_iload_n (i := 2) dX6_kindHere_28 rfl rfl ?_
  refine ax_if_ge (tgt := 38) dX6_kindHere_29 (by decide) (fun c1 => ?_) (fun c1 => ?_)
  · rw [if_pos c1] at h
    refine ax_iload_n (i := 2) dX6_kindHere_38 rfl rfl ?_
    exact ax_reti dX6_kindHere_39 h
  · rw [if_neg c1] at h
    refine ax_sipush (v := (-1005)) dX6_kindHere_32 rfl ?_
    refine ax_goto (tgt := 39) dX6_kindHere_35 (by decide) ?_
    exact ax_reti dX6_kindHere_39 h
def fn_X6_kindHere (a0 : Option Nat) (s : ax_S) : Option (Int32 × ax_S) :=
  (ax_gr s 4 0 a0).bind fun r2 =>
  (ax_gi s 4 5 a0).bind fun x3 =>
  (ax_sh s 5 r2).bind fun w4 =>
  (fn_X8_at r2 x3 s).bind fun q5 =>
  if 0 ≤ q5.1 then
    (fn_J0_indexOf_0f7a4 ((q5.1).toUInt32 % 65536).toInt32 q5.2).bind fun q7 =>
    fb_X6_kindHere_27 q7.1 q7.2
  else
    fb_X6_kindHere_27 (-1) q5.2
set_option maxRecDepth 100000 in
set_option maxHeartbeats 4000000 in
theorem tw_X6_kindHere {q : Int32 × ax_S} {a0 : Option Nat} {s : ax_S} (h : fn_X6_kindHere a0 s = some q) : AW mm_X6_kindHere 4 0 0 0 [some (av_r a0), none, none] [] s (some (av_i q.1), q.2) := by
  unfold fn_X6_kindHere at h
  refine ax_aload_n (i := 0) dX6_kindHere_0 rfl rfl ?_
  obtain ⟨r2, gr2, h⟩ := Option.bind_eq_some_iff.mp h
  refine ax_getR (q := (RX6, TX6, 7)) (t := 4) (k := 0) dX6_kindHere_1 rfl (by decide) wd_186 rfl gr2 ?_
  refine ax_aload_n (i := 0) dX6_kindHere_4 rfl rfl ?_
  obtain ⟨x3, gx3, h⟩ := Option.bind_eq_some_iff.mp h
  refine ax_getI (q := (RX6, TX6, 7)) (t := 4) (k := 5) dX6_kindHere_5 rfl (by decide) wd_194 rfl gx3 ?_
  obtain ⟨w4, gw4, h⟩ := Option.bind_eq_some_iff.mp h
  obtain ⟨q5, gq5, h⟩ := Option.bind_eq_some_iff.mp h
  refine ax_cV (As := [av_i x3]) (t := 5) dX6_kindHere_8 gw4 (th_X8_at gq5) rfl (And.intro wd_452 wd_24) wd_449 wd_450 wd_451 cy_X8_at (by omega) (by decide) (Nat.le_of_ble_eq_true rfl) rfl ?_
  refine ax_istore_n (i := 1) (L2 := [some (av_r a0), some (av_i q5.1), none]) dX6_kindHere_11 rfl (by decide) rfl rfl ?_
  refine ax_iload_n (i := 1) dX6_kindHere_12 rfl rfl ?_
  refine ax_if_ge (tgt := 20) dX6_kindHere_13 (by decide) (fun c6 => ?_) (fun c6 => ?_)
  · rw [if_pos c6] at h
    refine ax_ldcS dX6_kindHere_20 rfl ?_
    refine ax_iload_n (i := 1) dX6_kindHere_22 rfl rfl ?_
    refine ax_i2c dX6_kindHere_23 ?_
    obtain ⟨q7, gq7, h⟩ := Option.bind_eq_some_iff.mp h
    refine ax_cVS (As := [av_i ((q5.1).toUInt32 % 65536).toInt32]) dX6_kindHere_24 (th_J0_indexOf_0f7a4 gq7) rfl (And.intro wd_458 wd_27) wd_455 wd_456 wd_457 cy_J0_indexOf_0f7a4 (by omega) (by decide) (Nat.le_of_ble_eq_true rfl) rfl ?_
    exact ax_less (L' := [none, none, none]) trivial (tb_X6_kindHere_27  h)
  · rw [if_neg c6] at h
    refine ax_iconst (v := (-1)) dX6_kindHere_16 rfl ?_
    refine ax_goto (tgt := 27) dX6_kindHere_17 (by decide) ?_
    exact ax_less (L' := [none, none, none]) trivial (tb_X6_kindHere_27  h)
set_option maxRecDepth 100000 in
set_option maxHeartbeats 4000000 in
theorem th_X6_kindHere {q : Int32 × ax_S} {a0 : Option Nat} {s : ax_S} (h : fn_X6_kindHere a0 s = some q) : AC mm_X6_kindHere yX6_kindHere 4 0 0 [av_r a0] s (some (av_i q.1), q.2) := by
  exact ax_met (L0 := [some (av_r a0), none, none]) (by decide +kernel) rfl (fun h => absurd h (by decide)) ⟨rfl, trivial⟩ (Nat.le_of_ble_eq_true rfl) trivial (tw_X6_kindHere h)
/-! X6_readDigits -/
abbrev mm_X6_readDigits : ax_M := (RX6, cX6_readDigits, (some .int), 5, false)
def fb_X6_readDigits_34 (k4 : Option Nat → Int32 → Int32 → ax_S → Option (Int32 × ax_S)) (a0 : Option Nat) (a1 : Int32) (a2 : Int32) (a3 : Int32) (b0 : Int32) (s : ax_S) : Option (Int32 × ax_S) :=
  (fn_X9_isIn a3 (48) (57) s).bind fun q1 =>
  if q1.1 = 0 then
    some (a1, q1.2)
  else
    if b0 = 0 then
      ax_bd ((((a1 * (10)) + a3) - (48))) fun v4 =>
      (ax_gi q1.2 4 5 a0).bind fun x5 =>
      (ax_pi q1.2 4 5 a0 (x5 + (1))).bind fun s6 =>
      k4 a0 v4 (a2 + (1)) s6
    else
      some (a1, q1.2)
set_option maxRecDepth 100000 in
set_option maxHeartbeats 4000000 in
theorem tb_X6_readDigits_34 {q : Int32 × ax_S} {k4 : Option Nat → Int32 → Int32 → ax_S → Option (Int32 × ax_S)} (hk4 : ∀ (a0 : Option Nat) (a1 : Int32) (a2 : Int32) (s : ax_S), k4 a0 a1 a2 s = some q → AW mm_X6_readDigits 2 0 0 4 [(some (av_r a0)), (some (av_i a1)), (some (av_i a2)), none, none] [] s (some (av_i q.1), q.2)) {a0 : Option Nat} {a1 : Int32} {a2 : Int32} {a3 : Int32} {b0 : Int32} {s : ax_S} (h : fb_X6_readDigits_34 k4 a0 a1 a2 a3 b0 s = some q) : AW mm_X6_readDigits 2 0 0 34 [(some (av_r a0)), (some (av_i a1)), (some (av_i a2)), (some (av_i a3)), none] [av_i b0] s (some (av_i q.1), q.2) := by
  unfold fb_X6_readDigits_34 at h
  refine ax_istore (i := 4) (L2 := [some (av_r a0), some (av_i a1), some (av_i a2), some (av_i a3), some (av_i b0)]) dX6_readDigits_34 (by decide) rfl rfl ?_
  refine ax_iload_n (i := 3) dX6_readDigits_36 rfl rfl ?_
  refine ax_bipush (v := (48)) dX6_readDigits_37 rfl ?_
  refine ax_bipush (v := (57)) dX6_readDigits_39 rfl ?_
  obtain ⟨q1, gq1, h⟩ := Option.bind_eq_some_iff.mp h
  refine ax_cSN (As := [av_i a3, av_i (48), av_i (57)]) dX6_readDigits_41 (th_X9_isIn gq1) (And.intro wd_259 wd_18) wn_549 wd_258 cy_X9_isIn (by omega) (by decide) (Nat.le_of_ble_eq_true rfl) rfl ?_
  refine ax_if_eq (tgt := 81) dX6_readDigits_44 (by decide) (fun c2 => ?_) (fun c2 => ?_)
  · rw [if_pos c2] at h
    refine ax_iload_n (i := 1) dX6_readDigits_81 rfl rfl ?_
    exact ax_reti dX6_readDigits_82 h
  · rw [if_neg c2] at h
    refine ax_iload (i := 4) dX6_readDigits_47 rfl ?_
    refine ax_if_eq (tgt := 55) dX6_readDigits_49 (by decide) (fun c3 => ?_) (fun c3 => ?_)
    · rw [if_pos c3] at h
      refine ax_iload_n (i := 1) dX6_readDigits_55 rfl rfl ?_
      refine ax_bipush (v := (10)) dX6_readDigits_56 rfl ?_
      refine ax_imul dX6_readDigits_58 ?_
      refine ax_iload_n (i := 3) dX6_readDigits_59 rfl rfl ?_
      refine ax_iadd dX6_readDigits_60 ?_
      refine ax_bipush (v := (48)) dX6_readDigits_61 rfl ?_
      refine ax_isub dX6_readDigits_63 ?_
      refine ax_bdI h (fun v4 h => ?_)
      refine ax_istore_n (i := 1) (L2 := [some (av_r a0), some (av_i v4), some (av_i a2), some (av_i a3), some (av_i b0)]) dX6_readDigits_64 rfl (by decide) rfl rfl ?_
      refine ax_aload_n (i := 0) dX6_readDigits_65 rfl rfl ?_
      refine ax_dup dX6_readDigits_66 trivial ?_
      obtain ⟨x5, gx5, h⟩ := Option.bind_eq_some_iff.mp h
      refine ax_getI (q := (RX6, TX6, 7)) (t := 4) (k := 5) dX6_readDigits_67 rfl (by decide) wd_194 rfl gx5 ?_
      refine ax_iconst (v := (1)) dX6_readDigits_70 rfl ?_
      refine ax_iadd dX6_readDigits_71 ?_
      obtain ⟨s6, gs6, h⟩ := Option.bind_eq_some_iff.mp h
      refine ax_putI (q := (RX6, TX6, 7)) (t := 4) (k := 5) dX6_readDigits_72 rfl (by decide) wd_194 rfl rfl ⟨rfl, rfl⟩ gs6 ?_
      refine ax_iinc (i := 2) (v := (a2 + (1))) (L2 := [some (av_r a0), some (av_i v4), some (av_i (a2 + (1))), some (av_i a3), some (av_i b0)]) dX6_readDigits_75 rfl rfl (by decide) rfl rfl ?_
      refine ax_goto (tgt := 4) dX6_readDigits_78 (by decide) ?_
      exact ax_less (L' := [(some (av_r a0)), (some (av_i v4)), (some (av_i (a2 + (1)))), none, none]) ⟨rfl, rfl, rfl, trivial⟩ (hk4 _ _ _ _ h)
    · rw [if_neg c3] at h
      refine ax_goto (tgt := 81) dX6_readDigits_52 (by decide) ?_
      refine ax_iload_n (i := 1) dX6_readDigits_81 rfl rfl ?_
      exact ax_reti dX6_readDigits_82 h
def fb_X6_readDigits_33 (k4 : Option Nat → Int32 → Int32 → ax_S → Option (Int32 × ax_S)) (a0 : Option Nat) (a1 : Int32) (a2 : Int32) (a3 : Int32) (s : ax_S) : Option (Int32 × ax_S) :=
  fb_X6_readDigits_34 k4 a0 a1 a2 a3 (0) s
set_option maxRecDepth 100000 in
set_option maxHeartbeats 4000000 in
theorem tb_X6_readDigits_33 {q : Int32 × ax_S} {k4 : Option Nat → Int32 → Int32 → ax_S → Option (Int32 × ax_S)} (hk4 : ∀ (a0 : Option Nat) (a1 : Int32) (a2 : Int32) (s : ax_S), k4 a0 a1 a2 s = some q → AW mm_X6_readDigits 2 0 0 4 [(some (av_r a0)), (some (av_i a1)), (some (av_i a2)), none, none] [] s (some (av_i q.1), q.2)) {a0 : Option Nat} {a1 : Int32} {a2 : Int32} {a3 : Int32} {s : ax_S} (h : fb_X6_readDigits_33 k4 a0 a1 a2 a3 s = some q) : AW mm_X6_readDigits 2 0 0 33 [(some (av_r a0)), (some (av_i a1)), (some (av_i a2)), (some (av_i a3)), none] [] s (some (av_i q.1), q.2) := by
  unfold fb_X6_readDigits_33 at h
  refine ax_iconst (v := (0)) dX6_readDigits_33 rfl ?_
  exact ax_less (L' := [(some (av_r a0)), (some (av_i a1)), (some (av_i a2)), (some (av_i a3)), none]) ⟨rfl, rfl, rfl, rfl, trivial⟩ (tb_X6_readDigits_34 hk4 h)
def fb_X6_readDigits_4 : Nat → Option Nat → Int32 → Int32 → ax_S → Option (Int32 × ax_S)
  | 0, _, _, _, _ => none
  | n + 1, a0, a1, a2, s =>
    if (3) ≤ a2 then
      some (a1, s)
    else
      (ax_gr s 4 0 a0).bind fun r8 =>
      (ax_gi s 4 5 a0).bind fun x9 =>
      (ax_sh s 5 r8).bind fun w10 =>
      (fn_X8_at r8 x9 s).bind fun q11 =>
      if a2 ≤ 0 then
        fb_X6_readDigits_33 (fb_X6_readDigits_4 n) a0 a1 a2 q11.1 q11.2
      else
        if a1 = 0 then
          fb_X6_readDigits_34 (fb_X6_readDigits_4 n) a0 a1 a2 q11.1 (1) q11.2
        else
          fb_X6_readDigits_33 (fb_X6_readDigits_4 n) a0 a1 a2 q11.1 q11.2
set_option maxRecDepth 100000 in
set_option maxHeartbeats 4000000 in
theorem tb_X6_readDigits_4 {q : Int32 × ax_S} : ∀ (n : Nat) (a0 : Option Nat) (a1 : Int32) (a2 : Int32) (s : ax_S) (h : fb_X6_readDigits_4 n a0 a1 a2 s = some q), AW mm_X6_readDigits 2 0 0 4 [(some (av_r a0)), (some (av_i a1)), (some (av_i a2)), none, none] [] s (some (av_i q.1), q.2) := by
  intro n
  induction n with
  | zero =>
    intro a0 a1 a2 s h
    exact ax_no h
  | succ n ih =>
    intro a0 a1 a2 s h
    unfold fb_X6_readDigits_4 at h
    refine ax_iload_n (i := 2) dX6_readDigits_4 rfl rfl ?_
    refine ax_iconst (v := (3)) dX6_readDigits_5 rfl ?_
    refine ax_icmp_ge (tgt := 81) dX6_readDigits_6 (by decide) (fun c7 => ?_) (fun c7 => ?_)
    · rw [if_pos c7] at h
      refine ax_iload_n (i := 1) dX6_readDigits_81 rfl rfl ?_
      exact ax_reti dX6_readDigits_82 h
    · rw [if_neg c7] at h
      refine ax_aload_n (i := 0) dX6_readDigits_9 rfl rfl ?_
      obtain ⟨r8, gr8, h⟩ := Option.bind_eq_some_iff.mp h
      refine ax_getR (q := (RX6, TX6, 7)) (t := 4) (k := 0) dX6_readDigits_10 rfl (by decide) wd_186 rfl gr8 ?_
      refine ax_aload_n (i := 0) dX6_readDigits_13 rfl rfl ?_
      obtain ⟨x9, gx9, h⟩ := Option.bind_eq_some_iff.mp h
      refine ax_getI (q := (RX6, TX6, 7)) (t := 4) (k := 5) dX6_readDigits_14 rfl (by decide) wd_194 rfl gx9 ?_
      obtain ⟨w10, gw10, h⟩ := Option.bind_eq_some_iff.mp h
      obtain ⟨q11, gq11, h⟩ := Option.bind_eq_some_iff.mp h
      refine ax_cV (As := [av_i x9]) (t := 5) dX6_readDigits_17 gw10 (th_X8_at gq11) rfl (And.intro wd_452 wd_24) wd_449 wd_450 wd_451 cy_X8_at (by omega) (by decide) (Nat.le_of_ble_eq_true rfl) rfl ?_
      refine ax_istore_n (i := 3) (L2 := [some (av_r a0), some (av_i a1), some (av_i a2), some (av_i q11.1), none]) dX6_readDigits_20 rfl (by decide) rfl rfl ?_
      refine ax_iload_n (i := 2) dX6_readDigits_21 rfl rfl ?_
      refine ax_if_le (tgt := 33) dX6_readDigits_22 (by decide) (fun c12 => ?_) (fun c12 => ?_)
      · rw [if_pos c12] at h
        exact ax_less (L' := [(some (av_r a0)), (some (av_i a1)), (some (av_i a2)), (some (av_i q11.1)), none]) ⟨rfl, rfl, rfl, rfl, trivial⟩ (tb_X6_readDigits_33 ih h)
      · rw [if_neg c12] at h
        refine ax_iload_n (i := 1) dX6_readDigits_25 rfl rfl ?_
        refine ax_if_ne (tgt := 33) dX6_readDigits_26 (by decide) (fun c13 => ?_) (fun c13 => ?_)
        · rw [if_neg c13] at h
          exact ax_less (L' := [(some (av_r a0)), (some (av_i a1)), (some (av_i a2)), (some (av_i q11.1)), none]) ⟨rfl, rfl, rfl, rfl, trivial⟩ (tb_X6_readDigits_33 ih h)
        · rw [if_pos c13] at h
          refine ax_iconst (v := (1)) dX6_readDigits_29 rfl ?_
          refine ax_goto (tgt := 34) dX6_readDigits_30 (by decide) ?_
          exact ax_less (L' := [(some (av_r a0)), (some (av_i a1)), (some (av_i a2)), (some (av_i q11.1)), none]) ⟨rfl, rfl, rfl, rfl, trivial⟩ (tb_X6_readDigits_34 ih h)
def fn_X6_readDigits (a0 : Option Nat) (s : ax_S) : Option (Int32 × ax_S) :=
  fb_X6_readDigits_4 10000 a0 (0) (0) s
set_option maxRecDepth 100000 in
set_option maxHeartbeats 4000000 in
theorem tw_X6_readDigits {q : Int32 × ax_S} {a0 : Option Nat} {s : ax_S} (h : fn_X6_readDigits a0 s = some q) : AW mm_X6_readDigits 2 0 0 0 [some (av_r a0), none, none, none, none] [] s (some (av_i q.1), q.2) := by
  unfold fn_X6_readDigits at h
  refine ax_iconst (v := (0)) dX6_readDigits_0 rfl ?_
  refine ax_istore_n (i := 1) (L2 := [some (av_r a0), some (av_i (0)), none, none, none]) dX6_readDigits_1 rfl (by decide) rfl rfl ?_
  refine ax_iconst (v := (0)) dX6_readDigits_2 rfl ?_
  refine ax_istore_n (i := 2) (L2 := [some (av_r a0), some (av_i (0)), some (av_i (0)), none, none]) dX6_readDigits_3 rfl (by decide) rfl rfl ?_
  exact ax_less (L' := [(some (av_r a0)), (some (av_i (0))), (some (av_i (0))), none, none]) ⟨rfl, rfl, rfl, trivial⟩ (tb_X6_readDigits_4  _ _ _ _ _ h)
set_option maxRecDepth 100000 in
set_option maxHeartbeats 4000000 in
theorem th_X6_readDigits {q : Int32 × ax_S} {a0 : Option Nat} {s : ax_S} (h : fn_X6_readDigits a0 s = some q) : AC mm_X6_readDigits yX6_readDigits 2 0 0 [av_r a0] s (some (av_i q.1), q.2) := by
  exact ax_met (L0 := [some (av_r a0), none, none, none, none]) (by decide +kernel) rfl (fun h => absurd h (by decide)) ⟨rfl, trivial⟩ (Nat.le_of_ble_eq_true rfl) trivial (tw_X6_readDigits h)
/-! X6_readNumber -/
abbrev mm_X6_readNumber : ax_M := (RX6, cX6_readNumber, (some .int), 6, false)
def fb_X6_readNumber_104 (a3 : Int32) (a5 : Int32) (s : ax_S) : Option (Int32 × ax_S) :=
  if a3 = 0 then
    some (a5, s)
  else
    some ((-a5), s)
set_option maxRecDepth 100000 in
set_option maxHeartbeats 4000000 in
theorem tb_X6_readNumber_104 {q : Int32 × ax_S} {a3 : Int32} {a5 : Int32} {s : ax_S} (h : fb_X6_readNumber_104 a3 a5 s = some q) : AW mm_X6_readNumber 3 0 0 104 [none, none, none, (some (av_i a3)), none, (some (av_i a5))] [] s (some (av_i q.1), q.2) := by
  unfold fb_X6_readNumber_104 at h
  refine ax_iload_n (i := 3) dX6_readNumber_104 rfl rfl ?_
  refine ax_if_eq (tgt := 114) dX6_readNumber_105 (by decide) (fun c1 => ?_) (fun c1 => ?_)
  · rw [if_pos c1] at h
    refine ax_iload (i := 5) dX6_readNumber_114 rfl ?_
    exact ax_reti dX6_readNumber_116 h
  · rw [if_neg c1] at h
    refine ax_iload (i := 5) dX6_readNumber_108 rfl ?_
    refine ax_ineg dX6_readNumber_110 ?_
    refine ax_goto (tgt := 116) dX6_readNumber_111 (by decide) ?_
    exact ax_reti dX6_readNumber_116 h
def fb_X6_readNumber_93 (a0 : Option Nat) (a3 : Int32) (a4 : Int32) (a5 : Int32) (s : ax_S) : Option (Int32 × ax_S) :=
  (ax_pi s 4 5 a0 a4).bind fun s2 =>
  (ax_pi s2 4 6 a0 (1)).bind fun s3 =>
  fb_X6_readNumber_104 a3 a5 s3
set_option maxRecDepth 100000 in
set_option maxHeartbeats 4000000 in
theorem tb_X6_readNumber_93 {q : Int32 × ax_S} {a0 : Option Nat} {a3 : Int32} {a4 : Int32} {a5 : Int32} {s : ax_S} (h : fb_X6_readNumber_93 a0 a3 a4 a5 s = some q) : AW mm_X6_readNumber 3 0 0 93 [(some (av_r a0)), none, none, (some (av_i a3)), (some (av_i a4)), (some (av_i a5))] [] s (some (av_i q.1), q.2) := by
  unfold fb_X6_readNumber_93 at h
  refine ax_aload_n (i := 0) dX6_readNumber_93 rfl rfl ?_
  refine ax_iload (i := 4) dX6_readNumber_94 rfl ?_
  obtain ⟨s2, gs2, h⟩ := Option.bind_eq_some_iff.mp h
  refine ax_putI (q := (RX6, TX6, 7)) (t := 4) (k := 5) dX6_readNumber_96 rfl (by decide) wd_194 rfl rfl ⟨rfl, rfl⟩ gs2 ?_
  refine ax_aload_n (i := 0) dX6_readNumber_99 rfl rfl ?_
  refine ax_iconst (v := (1)) dX6_readNumber_100 rfl ?_
  obtain ⟨s3, gs3, h⟩ := Option.bind_eq_some_iff.mp h
  refine ax_putI (q := (RX6, TX6, 7)) (t := 4) (k := 6) dX6_readNumber_101 rfl (by decide) wd_195 rfl rfl ⟨rfl, rfl⟩ gs3 ?_
  exact ax_less (L' := [none, none, none, (some (av_i a3)), none, (some (av_i a5))]) ⟨rfl, rfl, trivial⟩ (tb_X6_readNumber_104  h)
def fb_X6_readNumber_49 (a0 : Option Nat) (a2 : Int32) (a3 : Int32) (s : ax_S) : Option (Int32 × ax_S) :=
  (ax_gi s 4 5 a0).bind fun x4 =>
  (ax_sh s 4 a0).bind fun w5 =>
  (fn_X6_readDigits a0 s).bind fun q6 =>
  (ax_gi q6.2 4 5 a0).bind fun x7 =>
  if x7 = x4 then
    (ax_pi q6.2 4 6 a0 (1)).bind fun s12 =>
    fb_X6_readNumber_104 a3 q6.1 s12
  else
    if a2 < q6.1 then
      fb_X6_readNumber_93 a0 a3 x4 q6.1 q6.2
    else
      if a3 = 0 then
        fb_X6_readNumber_104 a3 q6.1 q6.2
      else
        if q6.1 = 0 then
          fb_X6_readNumber_93 a0 a3 x4 q6.1 q6.2
        else
          fb_X6_readNumber_104 a3 q6.1 q6.2
set_option maxRecDepth 100000 in
set_option maxHeartbeats 4000000 in
theorem tb_X6_readNumber_49 {q : Int32 × ax_S} {a0 : Option Nat} {a2 : Int32} {a3 : Int32} {s : ax_S} (h : fb_X6_readNumber_49 a0 a2 a3 s = some q) : AW mm_X6_readNumber 3 0 0 49 [(some (av_r a0)), none, (some (av_i a2)), (some (av_i a3)), none, none] [] s (some (av_i q.1), q.2) := by
  unfold fb_X6_readNumber_49 at h
  refine ax_aload_n (i := 0) dX6_readNumber_49 rfl rfl ?_
  obtain ⟨x4, gx4, h⟩ := Option.bind_eq_some_iff.mp h
  refine ax_getI (q := (RX6, TX6, 7)) (t := 4) (k := 5) dX6_readNumber_50 rfl (by decide) wd_194 rfl gx4 ?_
  refine ax_istore (i := 4) (L2 := [some (av_r a0), none, some (av_i a2), some (av_i a3), some (av_i x4), none]) dX6_readNumber_53 (by decide) rfl rfl ?_
  refine ax_aload_n (i := 0) dX6_readNumber_55 rfl rfl ?_
  obtain ⟨w5, gw5, h⟩ := Option.bind_eq_some_iff.mp h
  obtain ⟨q6, gq6, h⟩ := Option.bind_eq_some_iff.mp h
  refine ax_cV (As := []) (t := 4) dX6_readNumber_56 gw5 (th_X6_readDigits gq6) rfl (And.intro wd_548 wd_23) wd_545 wd_547 wd_12 cy_X6_readDigits (by omega) (by decide) (Nat.le_of_ble_eq_true rfl) rfl ?_
  refine ax_istore (i := 5) (L2 := [some (av_r a0), none, some (av_i a2), some (av_i a3), some (av_i x4), some (av_i q6.1)]) dX6_readNumber_59 (by decide) rfl rfl ?_
  refine ax_aload_n (i := 0) dX6_readNumber_61 rfl rfl ?_
  obtain ⟨x7, gx7, h⟩ := Option.bind_eq_some_iff.mp h
  refine ax_getI (q := (RX6, TX6, 7)) (t := 4) (k := 5) dX6_readNumber_62 rfl (by decide) wd_194 rfl gx7 ?_
  refine ax_iload (i := 4) dX6_readNumber_65 rfl ?_
  refine ax_icmp_ne (tgt := 78) dX6_readNumber_67 (by decide) (fun c8 => ?_) (fun c8 => ?_)
  · rw [if_neg c8] at h
    refine ax_iload (i := 5) dX6_readNumber_78 rfl ?_
    refine ax_iload_n (i := 2) dX6_readNumber_80 rfl rfl ?_
    refine ax_icmp_gt (tgt := 93) dX6_readNumber_81 (by decide) (fun c9 => ?_) (fun c9 => ?_)
    · rw [if_pos c9] at h
      exact ax_less (L' := [(some (av_r a0)), none, none, (some (av_i a3)), (some (av_i x4)), (some (av_i q6.1))]) ⟨rfl, rfl, rfl, rfl, trivial⟩ (tb_X6_readNumber_93  h)
    · rw [if_neg c9] at h
      refine ax_iload_n (i := 3) dX6_readNumber_84 rfl rfl ?_
      refine ax_if_eq (tgt := 104) dX6_readNumber_85 (by decide) (fun c10 => ?_) (fun c10 => ?_)
      · rw [if_pos c10] at h
        exact ax_less (L' := [none, none, none, (some (av_i a3)), none, (some (av_i q6.1))]) ⟨rfl, rfl, trivial⟩ (tb_X6_readNumber_104  h)
      · rw [if_neg c10] at h
        refine ax_iload (i := 5) dX6_readNumber_88 rfl ?_
        refine ax_if_ne (tgt := 104) dX6_readNumber_90 (by decide) (fun c11 => ?_) (fun c11 => ?_)
        · rw [if_neg c11] at h
          exact ax_less (L' := [none, none, none, (some (av_i a3)), none, (some (av_i q6.1))]) ⟨rfl, rfl, trivial⟩ (tb_X6_readNumber_104  h)
        · rw [if_pos c11] at h
          exact ax_less (L' := [(some (av_r a0)), none, none, (some (av_i a3)), (some (av_i x4)), (some (av_i q6.1))]) ⟨rfl, rfl, rfl, rfl, trivial⟩ (tb_X6_readNumber_93  h)
  · rw [if_pos c8] at h
    refine ax_aload_n (i := 0) dX6_readNumber_70 rfl rfl ?_
    refine ax_iconst (v := (1)) dX6_readNumber_71 rfl ?_
    obtain ⟨s12, gs12, h⟩ := Option.bind_eq_some_iff.mp h
    refine ax_putI (q := (RX6, TX6, 7)) (t := 4) (k := 6) dX6_readNumber_72 rfl (by decide) wd_195 rfl rfl ⟨rfl, rfl⟩ gs12 ?_
    refine ax_goto (tgt := 104) dX6_readNumber_75 (by decide) ?_
    exact ax_less (L' := [none, none, none, (some (av_i a3)), none, (some (av_i q6.1))]) ⟨rfl, rfl, trivial⟩ (tb_X6_readNumber_104  h)
def fb_X6_readNumber_34 (a0 : Option Nat) (a2 : Int32) (b0 : Int32) (s : ax_S) : Option (Int32 × ax_S) :=
  if b0 = 0 then
    fb_X6_readNumber_49 a0 a2 b0 s
  else
    (ax_gi s 4 5 a0).bind fun x14 =>
    (ax_pi s 4 5 a0 (x14 + (1))).bind fun s15 =>
    fb_X6_readNumber_49 a0 a2 b0 s15
set_option maxRecDepth 100000 in
set_option maxHeartbeats 4000000 in
theorem tb_X6_readNumber_34 {q : Int32 × ax_S} {a0 : Option Nat} {a2 : Int32} {b0 : Int32} {s : ax_S} (h : fb_X6_readNumber_34 a0 a2 b0 s = some q) : AW mm_X6_readNumber 3 0 0 34 [(some (av_r a0)), none, (some (av_i a2)), none, none, none] [av_i b0] s (some (av_i q.1), q.2) := by
  unfold fb_X6_readNumber_34 at h
  refine ax_istore_n (i := 3) (L2 := [some (av_r a0), none, some (av_i a2), some (av_i b0), none, none]) dX6_readNumber_34 rfl (by decide) rfl rfl ?_
  refine ax_iload_n (i := 3) dX6_readNumber_35 rfl rfl ?_
  refine ax_if_eq (tgt := 49) dX6_readNumber_36 (by decide) (fun c13 => ?_) (fun c13 => ?_)
  · rw [if_pos c13] at h
    exact ax_less (L' := [(some (av_r a0)), none, (some (av_i a2)), (some (av_i b0)), none, none]) ⟨rfl, rfl, rfl, trivial⟩ (tb_X6_readNumber_49  h)
  · rw [if_neg c13] at h
    refine ax_aload_n (i := 0) dX6_readNumber_39 rfl rfl ?_
    refine ax_dup dX6_readNumber_40 trivial ?_
    obtain ⟨x14, gx14, h⟩ := Option.bind_eq_some_iff.mp h
    refine ax_getI (q := (RX6, TX6, 7)) (t := 4) (k := 5) dX6_readNumber_41 rfl (by decide) wd_194 rfl gx14 ?_
    refine ax_iconst (v := (1)) dX6_readNumber_44 rfl ?_
    refine ax_iadd dX6_readNumber_45 ?_
    obtain ⟨s15, gs15, h⟩ := Option.bind_eq_some_iff.mp h
    refine ax_putI (q := (RX6, TX6, 7)) (t := 4) (k := 5) dX6_readNumber_46 rfl (by decide) wd_194 rfl rfl ⟨rfl, rfl⟩ gs15 ?_
    exact ax_less (L' := [(some (av_r a0)), none, (some (av_i a2)), (some (av_i b0)), none, none]) ⟨rfl, rfl, rfl, trivial⟩ (tb_X6_readNumber_49  h)
def fb_X6_readNumber_33 (a0 : Option Nat) (a2 : Int32) (s : ax_S) : Option (Int32 × ax_S) :=
  fb_X6_readNumber_34 a0 a2 (0) s
set_option maxRecDepth 100000 in
set_option maxHeartbeats 4000000 in
theorem tb_X6_readNumber_33 {q : Int32 × ax_S} {a0 : Option Nat} {a2 : Int32} {s : ax_S} (h : fb_X6_readNumber_33 a0 a2 s = some q) : AW mm_X6_readNumber 3 0 0 33 [(some (av_r a0)), none, (some (av_i a2)), none, none, none] [] s (some (av_i q.1), q.2) := by
  unfold fb_X6_readNumber_33 at h
  refine ax_iconst (v := (0)) dX6_readNumber_33 rfl ?_
  exact ax_less (L' := [(some (av_r a0)), none, (some (av_i a2)), none, none, none]) ⟨rfl, rfl, trivial⟩ (tb_X6_readNumber_34  h)
def fn_X6_readNumber (a0 : Option Nat) (a1 : Int32) (a2 : Int32) (s : ax_S) : Option (Int32 × ax_S) :=
  (ax_gi s 4 6 a0).bind fun x16 =>
  if x16 = 0 then
    if 0 ≤ a1 then
      fb_X6_readNumber_33 a0 a2 s
    else
      (ax_gr s 4 0 a0).bind fun r19 =>
      (ax_gi s 4 5 a0).bind fun x20 =>
      (ax_sh s 5 r19).bind fun w21 =>
      (fn_X8_at r19 x20 s).bind fun q22 =>
      if q22.1 = (45) then
        fb_X6_readNumber_34 a0 a2 (1) q22.2
      else
        fb_X6_readNumber_33 a0 a2 q22.2
  else
    some ((0), s)
set_option maxRecDepth 100000 in
set_option maxHeartbeats 4000000 in
theorem tw_X6_readNumber {q : Int32 × ax_S} {a0 : Option Nat} {a1 : Int32} {a2 : Int32} {s : ax_S} (h : fn_X6_readNumber a0 a1 a2 s = some q) : AW mm_X6_readNumber 3 0 0 0 [some (av_r a0), some (av_i a1), some (av_i a2), none, none, none] [] s (some (av_i q.1), q.2) := by
  unfold fn_X6_readNumber at h
  refine ax_aload_n (i := 0) dX6_readNumber_0 rfl rfl ?_
  obtain ⟨x16, gx16, h⟩ := Option.bind_eq_some_iff.mp h
  refine ax_getI (q := (RX6, TX6, 7)) (t := 4) (k := 6) dX6_readNumber_1 rfl (by decide) wd_195 rfl gx16 ?_
  refine ax_if_eq (tgt := 9) dX6_readNumber_4 (by decide) (fun c17 => ?_) (fun c17 => ?_)
  · rw [if_pos c17] at h
    refine ax_iload_n (i := 1) dX6_readNumber_9 rfl rfl ?_
    refine ax_if_ge (tgt := 33) dX6_readNumber_10 (by decide) (fun c18 => ?_) (fun c18 => ?_)
    · rw [if_pos c18] at h
      exact ax_less (L' := [(some (av_r a0)), none, (some (av_i a2)), none, none, none]) ⟨rfl, rfl, trivial⟩ (tb_X6_readNumber_33  h)
    · rw [if_neg c18] at h
      refine ax_aload_n (i := 0) dX6_readNumber_13 rfl rfl ?_
      obtain ⟨r19, gr19, h⟩ := Option.bind_eq_some_iff.mp h
      refine ax_getR (q := (RX6, TX6, 7)) (t := 4) (k := 0) dX6_readNumber_14 rfl (by decide) wd_186 rfl gr19 ?_
      refine ax_aload_n (i := 0) dX6_readNumber_17 rfl rfl ?_
      obtain ⟨x20, gx20, h⟩ := Option.bind_eq_some_iff.mp h
      refine ax_getI (q := (RX6, TX6, 7)) (t := 4) (k := 5) dX6_readNumber_18 rfl (by decide) wd_194 rfl gx20 ?_
      obtain ⟨w21, gw21, h⟩ := Option.bind_eq_some_iff.mp h
      obtain ⟨q22, gq22, h⟩ := Option.bind_eq_some_iff.mp h
      refine ax_cV (As := [av_i x20]) (t := 5) dX6_readNumber_21 gw21 (th_X8_at gq22) rfl (And.intro wd_452 wd_24) wd_449 wd_450 wd_451 cy_X8_at (by omega) (by decide) (Nat.le_of_ble_eq_true rfl) rfl ?_
      refine ax_bipush (v := (45)) dX6_readNumber_24 rfl ?_
      refine ax_icmp_ne (tgt := 33) dX6_readNumber_26 (by decide) (fun c23 => ?_) (fun c23 => ?_)
      · rw [if_neg c23] at h
        exact ax_less (L' := [(some (av_r a0)), none, (some (av_i a2)), none, none, none]) ⟨rfl, rfl, trivial⟩ (tb_X6_readNumber_33  h)
      · rw [if_pos c23] at h
        refine ax_iconst (v := (1)) dX6_readNumber_29 rfl ?_
        refine ax_goto (tgt := 34) dX6_readNumber_30 (by decide) ?_
        exact ax_less (L' := [(some (av_r a0)), none, (some (av_i a2)), none, none, none]) ⟨rfl, rfl, trivial⟩ (tb_X6_readNumber_34  h)
  · rw [if_neg c17] at h
    refine ax_iconst (v := (0)) dX6_readNumber_7 rfl ?_
    exact ax_reti dX6_readNumber_8 h
set_option maxRecDepth 100000 in
set_option maxHeartbeats 4000000 in
theorem th_X6_readNumber {q : Int32 × ax_S} {a0 : Option Nat} {a1 : Int32} {a2 : Int32} {s : ax_S} (h : fn_X6_readNumber a0 a1 a2 s = some q) : AC mm_X6_readNumber yX6_readNumber 3 0 0 [av_r a0, av_i a1, av_i a2] s (some (av_i q.1), q.2) := by
  exact ax_met (L0 := [some (av_r a0), some (av_i a1), some (av_i a2), none, none, none]) (by decide +kernel) rfl (fun h => absurd h (by decide)) ⟨rfl, rfl, rfl, trivial⟩ (Nat.le_of_ble_eq_true rfl) trivial (tw_X6_readNumber h)
/-! X6_nextExpression -/
abbrev mm_X6_expression : ax_M := (RX6, cX6_expression, (some .int), 4, false)
abbrev mm_X6_nextExpression : ax_M := (RX6, cX6_nextExpression, (some .int), 2, false)
def fo_X6_nextExpression (se : Option Nat → Int32 → ax_S → Option (Int32 × ax_S)) (a0 : Option Nat) (a1 : Int32) (s : ax_S) : Option (Int32 × ax_S) :=
  (ax_sh s 4 a0).bind fun w1 =>
  (fn_X6_expect a0 (44) s).bind fun q2 =>
  (ax_sh q2 4 a0).bind fun w3 =>
  (se a0 a1 q2).bind fun q4 =>
  some (q4.1, q4.2)
set_option maxRecDepth 100000 in
set_option maxHeartbeats 4000000 in
theorem tw_X6_nextExpression (se : Option Nat → Int32 → ax_S → Option (Int32 × ax_S)) {dr : Nat} {q : Int32 × ax_S} (hse : ∀ {a0 : Option Nat} {a1 : Int32} {s : ax_S} {q : Int32 × ax_S}, se a0 a1 s = some q → AC mm_X6_expression yX6_expression dr 0 0 [av_r a0, av_i a1] s (some (av_i q.1), q.2)) {a0 : Option Nat} {a1 : Int32} {s : ax_S} (h : fo_X6_nextExpression se a0 a1 s = some q) : AW mm_X6_nextExpression (dr + 3) 0 0 0 [some (av_r a0), some (av_i a1)] [] s (some (av_i q.1), q.2) := by
  unfold fo_X6_nextExpression at h
  refine ax_aload_n (i := 0) dX6_nextExpression_0 rfl rfl ?_
  refine ax_bipush (v := (44)) dX6_nextExpression_1 rfl ?_
  obtain ⟨w1, gw1, h⟩ := Option.bind_eq_some_iff.mp h
  obtain ⟨q2, gq2, h⟩ := Option.bind_eq_some_iff.mp h
  refine ax_cV (As := [av_i (44)]) (t := 4) dX6_nextExpression_3 gw1 (th_X6_expect gq2) rfl (And.intro wd_540 wd_23) wd_537 wd_539 wd_10 cy_X6_expect (by omega) (by decide) (Nat.le_of_ble_eq_true rfl) rfl ?_
  refine ax_aload_n (i := 0) dX6_nextExpression_6 rfl rfl ?_
  refine ax_iload_n (i := 1) dX6_nextExpression_7 rfl rfl ?_
  obtain ⟨w3, gw3, h⟩ := Option.bind_eq_some_iff.mp h
  obtain ⟨q4, gq4, h⟩ := Option.bind_eq_some_iff.mp h
  refine ax_cV (As := [av_i a1]) (t := 4) dX6_nextExpression_8 gw3 (hse gq4) rfl (And.intro wd_444 wd_23) wd_441 wd_443 wd_8 cy_X6_expression (by omega) (by decide) (Nat.le_of_ble_eq_true rfl) rfl ?_
  exact ax_reti dX6_nextExpression_11 h
set_option maxRecDepth 100000 in
set_option maxHeartbeats 4000000 in
theorem to_X6_nextExpression (se : Option Nat → Int32 → ax_S → Option (Int32 × ax_S)) {dr : Nat} {q : Int32 × ax_S} (hse : ∀ {a0 : Option Nat} {a1 : Int32} {s : ax_S} {q : Int32 × ax_S}, se a0 a1 s = some q → AC mm_X6_expression yX6_expression dr 0 0 [av_r a0, av_i a1] s (some (av_i q.1), q.2)) {a0 : Option Nat} {a1 : Int32} {s : ax_S} (h : fo_X6_nextExpression se a0 a1 s = some q) : AC mm_X6_nextExpression yX6_nextExpression (dr + 3) 0 0 [av_r a0, av_i a1] s (some (av_i q.1), q.2) := by
  exact ax_met (L0 := [some (av_r a0), some (av_i a1)]) (by decide +kernel) rfl (fun h => absurd h (by decide)) ⟨rfl, rfl, trivial⟩ (Nat.le_of_ble_eq_true rfl) trivial (tw_X6_nextExpression se hse h)
/-! X6_fill -/
abbrev mm_X6_fill : ax_M := (RX6, cX6_fill, none, 8, false)
def fb_X6_fill_55 (k31 : Option Nat → Option Nat → Int32 → Int32 → ax_S → Option (ax_S)) (a0 : Option Nat) (a1 : Option Nat) (a2 : Int32) (a6 : Int32) (b0 : Int32) (s : ax_S) : Option (ax_S) :=
  (ax_gr s 2 4 a1).bind fun r1 =>
  (ax_gr s 4 1 a0).bind fun r2 =>
  (ax_al s 9 r2 b0).bind fun x3 =>
  (ax_as s 9 r1 a6 x3).bind fun s4 =>
  k31 a0 a1 a2 (a6 + (1)) s4
set_option maxRecDepth 100000 in
set_option maxHeartbeats 4000000 in
theorem tb_X6_fill_55 {q : ax_S} {k31 : Option Nat → Option Nat → Int32 → Int32 → ax_S → Option (ax_S)} (hk31 : ∀ (a0 : Option Nat) (a1 : Option Nat) (a2 : Int32) (a6 : Int32) (s : ax_S), k31 a0 a1 a2 a6 s = some q → AW mm_X6_fill 3 0 0 31 [(some (av_r a0)), (some (av_r a1)), (some (av_i a2)), none, none, none, (some (av_i a6)), none] [] s (none, q)) {a0 : Option Nat} {a1 : Option Nat} {a2 : Int32} {a6 : Int32} {b0 : Int32} {s : ax_S} (h : fb_X6_fill_55 k31 a0 a1 a2 a6 b0 s = some q) : AW mm_X6_fill 3 0 0 55 [(some (av_r a0)), (some (av_r a1)), (some (av_i a2)), none, none, none, (some (av_i a6)), none] [av_i b0] s (none, q) := by
  unfold fb_X6_fill_55 at h
  refine ax_istore (i := 7) (L2 := [some (av_r a0), some (av_r a1), some (av_i a2), none, none, none, some (av_i a6), some (av_i b0)]) dX6_fill_55 (by decide) rfl rfl ?_
  refine ax_aload_n (i := 1) dX6_fill_57 rfl rfl ?_
  obtain ⟨r1, gr1, h⟩ := Option.bind_eq_some_iff.mp h
  refine ax_getR (q := (RX3, TX3, 5)) (t := 2) (k := 4) dX6_fill_58 rfl (by decide) wd_72 rfl gr1 ?_
  refine ax_iload (i := 6) dX6_fill_61 rfl ?_
  refine ax_aload_n (i := 0) dX6_fill_63 rfl rfl ?_
  obtain ⟨r2, gr2, h⟩ := Option.bind_eq_some_iff.mp h
  refine ax_getR (q := (RX6, TX6, 7)) (t := 4) (k := 1) dX6_fill_64 rfl (by decide) wd_188 rfl gr2 ?_
  refine ax_iload (i := 7) dX6_fill_67 rfl ?_
  obtain ⟨x3, gx3, h⟩ := Option.bind_eq_some_iff.mp h
  refine ax_iald dX6_fill_69 gx3 ?_
  obtain ⟨s4, gs4, h⟩ := Option.bind_eq_some_iff.mp h
  refine ax_iast dX6_fill_70 gs4 ?_
  refine ax_iinc (i := 6) (v := (a6 + (1))) (L2 := [some (av_r a0), some (av_r a1), some (av_i a2), none, none, none, some (av_i (a6 + (1))), some (av_i b0)]) dX6_fill_71 rfl rfl (by decide) rfl rfl ?_
  refine ax_goto (tgt := 31) dX6_fill_74 (by decide) ?_
  exact ax_less (L' := [(some (av_r a0)), (some (av_r a1)), (some (av_i a2)), none, none, none, (some (av_i (a6 + (1)))), none]) ⟨rfl, rfl, rfl, rfl, trivial⟩ (hk31 _ _ _ _ _ h)
def fb_X6_fill_31 : Nat → Option Nat → Option Nat → Int32 → Int32 → ax_S → Option (ax_S)
  | 0, _, _, _, _, _ => none
  | n + 1, a0, a1, a2, a6, s =>
    (fn_X2_parameters a2 s).bind fun q5 =>
    if q5.1 ≤ a6 then
      some q5.2
    else
      (fn_X2_numbers a2 q5.2).bind fun q7 =>
      if q7.1 ≤ a6 then
        fb_X6_fill_55 (fb_X6_fill_31 n) a0 a1 a2 a6 (0) q7.2
      else
        fb_X6_fill_55 (fb_X6_fill_31 n) a0 a1 a2 a6 a6 q7.2
set_option maxRecDepth 100000 in
set_option maxHeartbeats 4000000 in
theorem tb_X6_fill_31 {q : ax_S} : ∀ (n : Nat) (a0 : Option Nat) (a1 : Option Nat) (a2 : Int32) (a6 : Int32) (s : ax_S) (h : fb_X6_fill_31 n a0 a1 a2 a6 s = some q), AW mm_X6_fill 3 0 0 31 [(some (av_r a0)), (some (av_r a1)), (some (av_i a2)), none, none, none, (some (av_i a6)), none] [] s (none, q) := by
  intro n
  induction n with
  | zero =>
    intro a0 a1 a2 a6 s h
    exact ax_no h
  | succ n ih =>
    intro a0 a1 a2 a6 s h
    unfold fb_X6_fill_31 at h
    refine ax_iload (i := 6) dX6_fill_31 rfl ?_
    refine ax_iload_n (i := 2) dX6_fill_33 rfl rfl ?_
    obtain ⟨q5, gq5, h⟩ := Option.bind_eq_some_iff.mp h
    refine ax_cS (As := [av_i a2]) dX6_fill_34 (th_X2_parameters gq5) (And.intro wd_326 wd_32) wd_579 wd_325 cy_X2_parameters (by omega) (by decide) (Nat.le_of_ble_eq_true rfl) rfl ?_
    refine ax_icmp_ge (tgt := 77) dX6_fill_37 (by decide) (fun c6 => ?_) (fun c6 => ?_)
    · rw [if_pos c6] at h
      exact ax_retv dX6_fill_77 h
    · rw [if_neg c6] at h
      refine ax_iload (i := 6) dX6_fill_40 rfl ?_
      refine ax_iload_n (i := 2) dX6_fill_42 rfl rfl ?_
      obtain ⟨q7, gq7, h⟩ := Option.bind_eq_some_iff.mp h
      refine ax_cS (As := [av_i a2]) dX6_fill_43 (th_X2_numbers gq7) (And.intro wd_561 wd_32) wd_559 wd_560 cy_X2_numbers (by omega) (by decide) (Nat.le_of_ble_eq_true rfl) rfl ?_
      refine ax_icmp_ge (tgt := 54) dX6_fill_46 (by decide) (fun c8 => ?_) (fun c8 => ?_)
      · rw [if_pos c8] at h
        refine ax_iconst (v := (0)) dX6_fill_54 rfl ?_
        exact ax_less (L' := [(some (av_r a0)), (some (av_r a1)), (some (av_i a2)), none, none, none, (some (av_i a6)), none]) ⟨rfl, rfl, rfl, rfl, trivial⟩ (tb_X6_fill_55 ih h)
      · rw [if_neg c8] at h
        refine ax_iload (i := 6) dX6_fill_49 rfl ?_
        refine ax_goto (tgt := 55) dX6_fill_51 (by decide) ?_
        exact ax_less (L' := [(some (av_r a0)), (some (av_r a1)), (some (av_i a2)), none, none, none, (some (av_i a6)), none]) ⟨rfl, rfl, rfl, rfl, trivial⟩ (tb_X6_fill_55 ih h)
def fn_X6_fill (a0 : Option Nat) (a1 : Option Nat) (a2 : Int32) (a3 : Int32) (a4 : Int32) (a5 : Int32) (s : ax_S) : Option (ax_S) :=
  (ax_sh s 2 a1).bind fun w9 =>
  (fn_X3_reset a1 a2 s).bind fun q10 =>
  (ax_gr q10 2 3 a1).bind fun r11 =>
  (ax_as q10 9 r11 (0) a3).bind fun s12 =>
  (ax_gr s12 2 3 a1).bind fun r13 =>
  (ax_as s12 9 r13 (1) a4).bind fun s14 =>
  (ax_gr s14 2 3 a1).bind fun r15 =>
  (ax_as s14 9 r15 (2) a5).bind fun s16 =>
  fb_X6_fill_31 10000 a0 a1 a2 (0) s16
set_option maxRecDepth 100000 in
set_option maxHeartbeats 4000000 in
theorem tw_X6_fill {q : ax_S} {a0 : Option Nat} {a1 : Option Nat} {a2 : Int32} {a3 : Int32} {a4 : Int32} {a5 : Int32} {s : ax_S} (h : fn_X6_fill a0 a1 a2 a3 a4 a5 s = some q) : AW mm_X6_fill 3 0 0 0 [some (av_r a0), some (av_r a1), some (av_i a2), some (av_i a3), some (av_i a4), some (av_i a5), none, none] [] s (none, q) := by
  unfold fn_X6_fill at h
  refine ax_aload_n (i := 1) dX6_fill_0 rfl rfl ?_
  refine ax_iload_n (i := 2) dX6_fill_1 rfl rfl ?_
  obtain ⟨w9, gw9, h⟩ := Option.bind_eq_some_iff.mp h
  obtain ⟨q10, gq10, h⟩ := Option.bind_eq_some_iff.mp h
  refine ax_cV (As := [av_i a2]) (t := 2) dX6_fill_2 gw9 (th_X3_reset gq10) rfl (And.intro wd_573 wd_20) wd_570 wd_571 wd_572 cy_X3_reset (by omega) (by decide) (Nat.le_of_ble_eq_true rfl) rfl ?_
  refine ax_aload_n (i := 1) dX6_fill_5 rfl rfl ?_
  obtain ⟨r11, gr11, h⟩ := Option.bind_eq_some_iff.mp h
  refine ax_getR (q := (RX3, TX3, 5)) (t := 2) (k := 3) dX6_fill_6 rfl (by decide) wd_66 rfl gr11 ?_
  refine ax_iconst (v := (0)) dX6_fill_9 rfl ?_
  refine ax_iload_n (i := 3) dX6_fill_10 rfl rfl ?_
  obtain ⟨s12, gs12, h⟩ := Option.bind_eq_some_iff.mp h
  refine ax_iast dX6_fill_11 gs12 ?_
  refine ax_aload_n (i := 1) dX6_fill_12 rfl rfl ?_
  obtain ⟨r13, gr13, h⟩ := Option.bind_eq_some_iff.mp h
  refine ax_getR (q := (RX3, TX3, 5)) (t := 2) (k := 3) dX6_fill_13 rfl (by decide) wd_66 rfl gr13 ?_
  refine ax_iconst (v := (1)) dX6_fill_16 rfl ?_
  refine ax_iload (i := 4) dX6_fill_17 rfl ?_
  obtain ⟨s14, gs14, h⟩ := Option.bind_eq_some_iff.mp h
  refine ax_iast dX6_fill_19 gs14 ?_
  refine ax_aload_n (i := 1) dX6_fill_20 rfl rfl ?_
  obtain ⟨r15, gr15, h⟩ := Option.bind_eq_some_iff.mp h
  refine ax_getR (q := (RX3, TX3, 5)) (t := 2) (k := 3) dX6_fill_21 rfl (by decide) wd_66 rfl gr15 ?_
  refine ax_iconst (v := (2)) dX6_fill_24 rfl ?_
  refine ax_iload (i := 5) dX6_fill_25 rfl ?_
  obtain ⟨s16, gs16, h⟩ := Option.bind_eq_some_iff.mp h
  refine ax_iast dX6_fill_27 gs16 ?_
  refine ax_iconst (v := (0)) dX6_fill_28 rfl ?_
  refine ax_istore (i := 6) (L2 := [some (av_r a0), some (av_r a1), some (av_i a2), some (av_i a3), some (av_i a4), some (av_i a5), some (av_i (0)), none]) dX6_fill_29 (by decide) rfl rfl ?_
  exact ax_less (L' := [(some (av_r a0)), (some (av_r a1)), (some (av_i a2)), none, none, none, (some (av_i (0))), none]) ⟨rfl, rfl, rfl, rfl, trivial⟩ (tb_X6_fill_31  _ _ _ _ _ _ h)
set_option maxRecDepth 100000 in
set_option maxHeartbeats 4000000 in
theorem th_X6_fill {q : ax_S} {a0 : Option Nat} {a1 : Option Nat} {a2 : Int32} {a3 : Int32} {a4 : Int32} {a5 : Int32} {s : ax_S} (h : fn_X6_fill a0 a1 a2 a3 a4 a5 s = some q) : AC mm_X6_fill yX6_fill 3 0 0 [av_r a0, av_r a1, av_i a2, av_i a3, av_i a4, av_i a5] s (none, q) := by
  exact ax_met (L0 := [some (av_r a0), some (av_r a1), some (av_i a2), some (av_i a3), some (av_i a4), some (av_i a5), none, none]) (by decide +kernel) rfl (fun h => absurd h (by decide)) ⟨rfl, rfl, rfl, rfl, rfl, rfl, trivial⟩ (Nat.le_of_ble_eq_true rfl) trivial (tw_X6_fill h)
/-! X6_newNode -/
abbrev mm_X6_newNode : ax_M := (RX6, cX6_newNode, (some .int), 8, false)
def fb_X6_newNode_152 (se : Option Nat → Int32 → ax_S → Option (Int32 × ax_S)) (a0 : Option Nat) (a7 : Int32) (s : ax_S) : Option (Int32 × ax_S) :=
  (ax_gi s 4 3 a0).bind fun x1 =>
  (ax_pi s 4 3 a0 (x1 + (1))).bind fun s2 =>
  some (a7, s2)
set_option maxRecDepth 100000 in
set_option maxHeartbeats 4000000 in
theorem tb_X6_newNode_152 (se : Option Nat → Int32 → ax_S → Option (Int32 × ax_S)) {dr : Nat} {q : Int32 × ax_S} (hse : ∀ {a0 : Option Nat} {a1 : Int32} {s : ax_S} {q : Int32 × ax_S}, se a0 a1 s = some q → AC mm_X6_expression yX6_expression dr 0 0 [av_r a0, av_i a1] s (some (av_i q.1), q.2)) {a0 : Option Nat} {a7 : Int32} {s : ax_S} (h : fb_X6_newNode_152 se a0 a7 s = some q) : AW mm_X6_newNode (dr + 4) 0 0 152 [(some (av_r a0)), none, none, none, none, none, none, (some (av_i a7))] [] s (some (av_i q.1), q.2) := by
  unfold fb_X6_newNode_152 at h
  refine ax_aload_n (i := 0) dX6_newNode_152 rfl rfl ?_
  refine ax_dup dX6_newNode_153 trivial ?_
  obtain ⟨x1, gx1, h⟩ := Option.bind_eq_some_iff.mp h
  refine ax_getI (q := (RX6, TX6, 7)) (t := 4) (k := 3) dX6_newNode_154 rfl (by decide) wd_191 rfl gx1 ?_
  refine ax_iconst (v := (1)) dX6_newNode_157 rfl ?_
  refine ax_iadd dX6_newNode_158 ?_
  obtain ⟨s2, gs2, h⟩ := Option.bind_eq_some_iff.mp h
  refine ax_putI (q := (RX6, TX6, 7)) (t := 4) (k := 3) dX6_newNode_159 rfl (by decide) wd_191 rfl rfl ⟨rfl, rfl⟩ gs2 ?_
  refine ax_iload (i := 7) dX6_newNode_162 rfl ?_
  exact ax_reti dX6_newNode_164 h
def fb_X6_newNode_83 (se : Option Nat → Int32 → ax_S → Option (Int32 × ax_S)) (k61 : Option Nat → Int32 → Int32 → Int32 → Int32 → Int32 → Int32 → ax_S → Option (Int32 × ax_S)) (a0 : Option Nat) (a1 : Int32) (a3 : Int32) (a4 : Int32) (a5 : Int32) (a6 : Int32) (a7 : Int32) (s : ax_S) : Option (Int32 × ax_S) :=
  (ax_gr s 4 1 a0).bind fun r3 =>
  (fn_X2_lowest a1 a7 s).bind fun q4 =>
  (fn_X2_highest a1 a7 q4.2).bind fun q5 =>
  (ax_sh q5.2 4 a0).bind fun w6 =>
  (fn_X6_readNumber a0 q4.1 q5.1 q5.2).bind fun q7 =>
  (ax_as q7.2 9 r3 a7 q7.1).bind fun s8 =>
  k61 a0 a1 a3 a4 a5 a6 (a7 + (1)) s8
set_option maxRecDepth 100000 in
set_option maxHeartbeats 4000000 in
theorem tb_X6_newNode_83 (se : Option Nat → Int32 → ax_S → Option (Int32 × ax_S)) {dr : Nat} {q : Int32 × ax_S} (hse : ∀ {a0 : Option Nat} {a1 : Int32} {s : ax_S} {q : Int32 × ax_S}, se a0 a1 s = some q → AC mm_X6_expression yX6_expression dr 0 0 [av_r a0, av_i a1] s (some (av_i q.1), q.2)) {k61 : Option Nat → Int32 → Int32 → Int32 → Int32 → Int32 → Int32 → ax_S → Option (Int32 × ax_S)} (hk61 : ∀ (a0 : Option Nat) (a1 : Int32) (a3 : Int32) (a4 : Int32) (a5 : Int32) (a6 : Int32) (a7 : Int32) (s : ax_S), k61 a0 a1 a3 a4 a5 a6 a7 s = some q → AW mm_X6_newNode (dr + 4) 0 0 61 [(some (av_r a0)), (some (av_i a1)), none, (some (av_i a3)), (some (av_i a4)), (some (av_i a5)), (some (av_i a6)), (some (av_i a7))] [] s (some (av_i q.1), q.2)) {a0 : Option Nat} {a1 : Int32} {a3 : Int32} {a4 : Int32} {a5 : Int32} {a6 : Int32} {a7 : Int32} {s : ax_S} (h : fb_X6_newNode_83 se k61 a0 a1 a3 a4 a5 a6 a7 s = some q) : AW mm_X6_newNode (dr + 4) 0 0 83 [(some (av_r a0)), (some (av_i a1)), none, (some (av_i a3)), (some (av_i a4)), (some (av_i a5)), (some (av_i a6)), (some (av_i a7))] [] s (some (av_i q.1), q.2) := by
  unfold fb_X6_newNode_83 at h
  refine ax_aload_n (i := 0) dX6_newNode_83 rfl rfl ?_
  obtain ⟨r3, gr3, h⟩ := Option.bind_eq_some_iff.mp h
  refine ax_getR (q := (RX6, TX6, 7)) (t := 4) (k := 1) dX6_newNode_84 rfl (by decide) wd_188 rfl gr3 ?_
  refine ax_iload (i := 7) dX6_newNode_87 rfl ?_
  refine ax_aload_n (i := 0) dX6_newNode_89 rfl rfl ?_
  refine ax_iload_n (i := 1) dX6_newNode_90 rfl rfl ?_
  refine ax_iload (i := 7) dX6_newNode_91 rfl ?_
  obtain ⟨q4, gq4, h⟩ := Option.bind_eq_some_iff.mp h
  refine ax_cS (As := [av_i a1, av_i a7]) dX6_newNode_93 (th_X2_lowest gq4) (And.intro wd_331 wd_32) wd_564 wd_330 cy_X2_lowest (by omega) (by decide) (Nat.le_of_ble_eq_true rfl) rfl ?_
  refine ax_iload_n (i := 1) dX6_newNode_96 rfl rfl ?_
  refine ax_iload (i := 7) dX6_newNode_97 rfl ?_
  obtain ⟨q5, gq5, h⟩ := Option.bind_eq_some_iff.mp h
  refine ax_cS (As := [av_i a1, av_i a7]) dX6_newNode_99 (th_X2_highest gq5) (And.intro wd_336 wd_32) wd_565 wd_335 cy_X2_highest (by omega) (by decide) (Nat.le_of_ble_eq_true rfl) rfl ?_
  obtain ⟨w6, gw6, h⟩ := Option.bind_eq_some_iff.mp h
  obtain ⟨q7, gq7, h⟩ := Option.bind_eq_some_iff.mp h
  refine ax_cV (As := [av_i q4.1, av_i q5.1]) (t := 4) dX6_newNode_102 gw6 (th_X6_readNumber gq7) rfl (And.intro wd_544 wd_23) wd_541 wd_543 wd_11 cy_X6_readNumber (by omega) (by decide) (Nat.le_of_ble_eq_true rfl) rfl ?_
  obtain ⟨s8, gs8, h⟩ := Option.bind_eq_some_iff.mp h
  refine ax_iast dX6_newNode_105 gs8 ?_
  refine ax_iinc (i := 7) (v := (a7 + (1))) (L2 := [some (av_r a0), some (av_i a1), none, some (av_i a3), some (av_i a4), some (av_i a5), some (av_i a6), some (av_i (a7 + (1)))]) dX6_newNode_106 rfl rfl (by decide) rfl rfl ?_
  refine ax_goto (tgt := 61) dX6_newNode_109 (by decide) ?_
  exact ax_less (L' := [(some (av_r a0)), (some (av_i a1)), none, (some (av_i a3)), (some (av_i a4)), (some (av_i a5)), (some (av_i a6)), (some (av_i (a7 + (1))))]) ⟨rfl, rfl, rfl, rfl, rfl, rfl, rfl, trivial⟩ (hk61 _ _ _ _ _ _ _ _ h)
def fb_X6_newNode_61 (se : Option Nat → Int32 → ax_S → Option (Int32 × ax_S)) : Nat → Option Nat → Int32 → Int32 → Int32 → Int32 → Int32 → Int32 → ax_S → Option (Int32 × ax_S)
  | 0, _, _, _, _, _, _, _, _ => none
  | n + 1, a0, a1, a3, a4, a5, a6, a7, s =>
    (fn_X2_numbers a1 s).bind fun q9 =>
    if q9.1 ≤ a7 then
      (ax_gi q9.2 4 4 a0).bind fun x11 =>
      (ax_gi q9.2 4 3 a0).bind fun x12 =>
      ax_bd ((x11 + x12)) fun v13 =>
      (ax_gi q9.2 4 3 a0).bind fun x14 =>
      if (12) ≤ x14 then
        fb_X6_newNode_152 se a0 v13 q9.2
      else
        (ax_gr q9.2 4 2 a0).bind fun r16 =>
        (ax_gi q9.2 4 3 a0).bind fun x17 =>
        (ax_ar q9.2 12 r16 x17).bind fun r18 =>
        (ax_sh q9.2 4 a0).bind fun w19 =>
        (fn_X6_fill a0 r18 a1 a4 a5 a6 q9.2).bind fun q20 =>
        fb_X6_newNode_152 se a0 v13 q20
    else
      if (a3 + a7) ≤ 0 then
        fb_X6_newNode_83 se (fb_X6_newNode_61 se n) a0 a1 a3 a4 a5 a6 a7 q9.2
      else
        (ax_sh q9.2 4 a0).bind fun w22 =>
        (fn_X6_expect a0 (44) q9.2).bind fun q23 =>
        fb_X6_newNode_83 se (fb_X6_newNode_61 se n) a0 a1 a3 a4 a5 a6 a7 q23
set_option maxRecDepth 100000 in
set_option maxHeartbeats 4000000 in
theorem tb_X6_newNode_61 (se : Option Nat → Int32 → ax_S → Option (Int32 × ax_S)) {dr : Nat} {q : Int32 × ax_S} (hse : ∀ {a0 : Option Nat} {a1 : Int32} {s : ax_S} {q : Int32 × ax_S}, se a0 a1 s = some q → AC mm_X6_expression yX6_expression dr 0 0 [av_r a0, av_i a1] s (some (av_i q.1), q.2)) : ∀ (n : Nat) (a0 : Option Nat) (a1 : Int32) (a3 : Int32) (a4 : Int32) (a5 : Int32) (a6 : Int32) (a7 : Int32) (s : ax_S) (h : fb_X6_newNode_61 se n a0 a1 a3 a4 a5 a6 a7 s = some q), AW mm_X6_newNode (dr + 4) 0 0 61 [(some (av_r a0)), (some (av_i a1)), none, (some (av_i a3)), (some (av_i a4)), (some (av_i a5)), (some (av_i a6)), (some (av_i a7))] [] s (some (av_i q.1), q.2) := by
  intro n
  induction n with
  | zero =>
    intro a0 a1 a3 a4 a5 a6 a7 s h
    exact ax_no h
  | succ n ih =>
    intro a0 a1 a3 a4 a5 a6 a7 s h
    unfold fb_X6_newNode_61 at h
    refine ax_iload (i := 7) dX6_newNode_61 rfl ?_
    refine ax_iload_n (i := 1) dX6_newNode_63 rfl rfl ?_
    obtain ⟨q9, gq9, h⟩ := Option.bind_eq_some_iff.mp h
    refine ax_cS (As := [av_i a1]) dX6_newNode_64 (th_X2_numbers gq9) (And.intro wd_561 wd_32) wd_559 wd_560 cy_X2_numbers (by omega) (by decide) (Nat.le_of_ble_eq_true rfl) rfl ?_
    refine ax_icmp_ge (tgt := 112) dX6_newNode_67 (by decide) (fun c10 => ?_) (fun c10 => ?_)
    · rw [if_pos c10] at h
      refine ax_aload_n (i := 0) dX6_newNode_112 rfl rfl ?_
      obtain ⟨x11, gx11, h⟩ := Option.bind_eq_some_iff.mp h
      refine ax_getI (q := (RX6, TX6, 7)) (t := 4) (k := 4) dX6_newNode_113 rfl (by decide) wd_193 rfl gx11 ?_
      refine ax_aload_n (i := 0) dX6_newNode_116 rfl rfl ?_
      obtain ⟨x12, gx12, h⟩ := Option.bind_eq_some_iff.mp h
      refine ax_getI (q := (RX6, TX6, 7)) (t := 4) (k := 3) dX6_newNode_117 rfl (by decide) wd_191 rfl gx12 ?_
      refine ax_iadd dX6_newNode_120 ?_
      refine ax_bdI h (fun v13 h => ?_)
      refine ax_istore (i := 7) (L2 := [some (av_r a0), some (av_i a1), none, some (av_i a3), some (av_i a4), some (av_i a5), some (av_i a6), some (av_i v13)]) dX6_newNode_121 (by decide) rfl rfl ?_
      refine ax_aload_n (i := 0) dX6_newNode_123 rfl rfl ?_
      obtain ⟨x14, gx14, h⟩ := Option.bind_eq_some_iff.mp h
      refine ax_getI (q := (RX6, TX6, 7)) (t := 4) (k := 3) dX6_newNode_124 rfl (by decide) wd_191 rfl gx14 ?_
      refine ax_bipush (v := (12)) dX6_newNode_127 rfl ?_
      refine ax_icmp_ge (tgt := 152) dX6_newNode_129 (by decide) (fun c15 => ?_) (fun c15 => ?_)
      · rw [if_pos c15] at h
        exact ax_less (L' := [(some (av_r a0)), none, none, none, none, none, none, (some (av_i v13))]) ⟨rfl, rfl, trivial⟩ (tb_X6_newNode_152 se hse h)
      · rw [if_neg c15] at h
        refine ax_aload_n (i := 0) dX6_newNode_132 rfl rfl ?_
        refine ax_aload_n (i := 0) dX6_newNode_133 rfl rfl ?_
        obtain ⟨r16, gr16, h⟩ := Option.bind_eq_some_iff.mp h
        refine ax_getR (q := (RX6, TX6, 7)) (t := 4) (k := 2) dX6_newNode_134 rfl (by decide) wd_189 rfl gr16 ?_
        refine ax_aload_n (i := 0) dX6_newNode_137 rfl rfl ?_
        obtain ⟨x17, gx17, h⟩ := Option.bind_eq_some_iff.mp h
        refine ax_getI (q := (RX6, TX6, 7)) (t := 4) (k := 3) dX6_newNode_138 rfl (by decide) wd_191 rfl gx17 ?_
        obtain ⟨r18, gr18, h⟩ := Option.bind_eq_some_iff.mp h
        refine ax_aald (t := 12) (by decide) dX6_newNode_141 gr18 ?_
        refine ax_iload_n (i := 1) dX6_newNode_142 rfl rfl ?_
        refine ax_iload (i := 4) dX6_newNode_143 rfl ?_
        refine ax_iload (i := 5) dX6_newNode_145 rfl ?_
        refine ax_iload (i := 6) dX6_newNode_147 rfl ?_
        obtain ⟨w19, gw19, h⟩ := Option.bind_eq_some_iff.mp h
        obtain ⟨q20, gq20, h⟩ := Option.bind_eq_some_iff.mp h
        refine ax_cV (As := [av_r r18, av_i a1, av_i a4, av_i a5, av_i a6]) (t := 4) dX6_newNode_149 gw19 (th_X6_fill gq20) rfl (And.intro wd_569 wd_23) wd_566 wd_568 wd_15 cy_X6_fill (by omega) (by decide) (Nat.le_of_ble_eq_true rfl) rfl ?_
        exact ax_less (L' := [(some (av_r a0)), none, none, none, none, none, none, (some (av_i v13))]) ⟨rfl, rfl, trivial⟩ (tb_X6_newNode_152 se hse h)
    · rw [if_neg c10] at h
      refine ax_iload_n (i := 3) dX6_newNode_70 rfl rfl ?_
      refine ax_iload (i := 7) dX6_newNode_71 rfl ?_
      refine ax_iadd dX6_newNode_73 ?_
      refine ax_if_le (tgt := 83) dX6_newNode_74 (by decide) (fun c21 => ?_) (fun c21 => ?_)
      · rw [if_pos c21] at h
        exact ax_less (L' := [(some (av_r a0)), (some (av_i a1)), none, (some (av_i a3)), (some (av_i a4)), (some (av_i a5)), (some (av_i a6)), (some (av_i a7))]) ⟨rfl, rfl, rfl, rfl, rfl, rfl, rfl, trivial⟩ (tb_X6_newNode_83 se hse ih h)
      · rw [if_neg c21] at h
        refine ax_aload_n (i := 0) dX6_newNode_77 rfl rfl ?_
        refine ax_bipush (v := (44)) dX6_newNode_78 rfl ?_
        obtain ⟨w22, gw22, h⟩ := Option.bind_eq_some_iff.mp h
        obtain ⟨q23, gq23, h⟩ := Option.bind_eq_some_iff.mp h
        refine ax_cV (As := [av_i (44)]) (t := 4) dX6_newNode_80 gw22 (th_X6_expect gq23) rfl (And.intro wd_540 wd_23) wd_537 wd_539 wd_10 cy_X6_expect (by omega) (by decide) (Nat.le_of_ble_eq_true rfl) rfl ?_
        exact ax_less (L' := [(some (av_r a0)), (some (av_i a1)), none, (some (av_i a3)), (some (av_i a4)), (some (av_i a5)), (some (av_i a6)), (some (av_i a7))]) ⟨rfl, rfl, rfl, rfl, rfl, rfl, rfl, trivial⟩ (tb_X6_newNode_83 se hse ih h)
def fb_X6_newNode_38 (se : Option Nat → Int32 → ax_S → Option (Int32 × ax_S)) (a0 : Option Nat) (a1 : Int32) (a2 : Int32) (a3 : Int32) (a4 : Int32) (b0 : Int32) (s : ax_S) : Option (Int32 × ax_S) :=
  if a3 ≤ (2) then
    fb_X6_newNode_61 se 10000 a0 a1 a3 a4 b0 (-1005) (0) s
  else
    (ax_sh s 4 a0).bind fun w25 =>
    (fo_X6_nextExpression se a0 a2 s).bind fun q26 =>
    fb_X6_newNode_61 se 10000 a0 a1 a3 a4 b0 q26.1 (0) q26.2
set_option maxRecDepth 100000 in
set_option maxHeartbeats 4000000 in
theorem tb_X6_newNode_38 (se : Option Nat → Int32 → ax_S → Option (Int32 × ax_S)) {dr : Nat} {q : Int32 × ax_S} (hse : ∀ {a0 : Option Nat} {a1 : Int32} {s : ax_S} {q : Int32 × ax_S}, se a0 a1 s = some q → AC mm_X6_expression yX6_expression dr 0 0 [av_r a0, av_i a1] s (some (av_i q.1), q.2)) {a0 : Option Nat} {a1 : Int32} {a2 : Int32} {a3 : Int32} {a4 : Int32} {b0 : Int32} {s : ax_S} (h : fb_X6_newNode_38 se a0 a1 a2 a3 a4 b0 s = some q) : AW mm_X6_newNode (dr + 4) 0 0 38 [(some (av_r a0)), (some (av_i a1)), (some (av_i a2)), (some (av_i a3)), (some (av_i a4)), none, none, none] [av_i b0] s (some (av_i q.1), q.2) := by
  unfold fb_X6_newNode_38 at h
  refine ax_istore (i := 5) (L2 := [some (av_r a0), some (av_i a1), some (av_i a2), some (av_i a3), some (av_i a4), some (av_i b0), none, none]) dX6_newNode_38 (by decide) rfl rfl ?_
  refine ax_iload_n (i := 3) dX6_newNode_40 rfl rfl ?_
  refine ax_iconst (v := (2)) dX6_newNode_41 rfl ?_
  refine ax_icmp_le (tgt := 53) dX6_newNode_42 (by decide) (fun c24 => ?_) (fun c24 => ?_)
  · rw [if_pos c24] at h
    refine ax_sipush (v := (-1005)) dX6_newNode_53 rfl ?_
    refine ax_istore (i := 6) (L2 := [some (av_r a0), some (av_i a1), some (av_i a2), some (av_i a3), some (av_i a4), some (av_i b0), some (av_i (-1005)), none]) dX6_newNode_56 (by decide) rfl rfl ?_
    refine ax_iconst (v := (0)) dX6_newNode_58 rfl ?_
    refine ax_istore (i := 7) (L2 := [some (av_r a0), some (av_i a1), some (av_i a2), some (av_i a3), some (av_i a4), some (av_i b0), some (av_i (-1005)), some (av_i (0))]) dX6_newNode_59 (by decide) rfl rfl ?_
    exact ax_less (L' := [(some (av_r a0)), (some (av_i a1)), none, (some (av_i a3)), (some (av_i a4)), (some (av_i b0)), (some (av_i (-1005))), (some (av_i (0)))]) ⟨rfl, rfl, rfl, rfl, rfl, rfl, rfl, trivial⟩ (tb_X6_newNode_61 se hse _ _ _ _ _ _ _ _ _ h)
  · rw [if_neg c24] at h
    refine ax_aload_n (i := 0) dX6_newNode_45 rfl rfl ?_
    refine ax_iload_n (i := 2) dX6_newNode_46 rfl rfl ?_
    obtain ⟨w25, gw25, h⟩ := Option.bind_eq_some_iff.mp h
    obtain ⟨q26, gq26, h⟩ := Option.bind_eq_some_iff.mp h
    refine ax_cV (As := [av_i a2]) (t := 4) dX6_newNode_47 gw25 (to_X6_nextExpression se hse gq26) rfl (And.intro wd_558 wd_23) wd_555 wd_557 wd_14 cy_X6_nextExpression (by omega) (by decide) (Nat.le_of_ble_eq_true rfl) rfl ?_
    refine ax_goto (tgt := 56) dX6_newNode_50 (by decide) ?_
    refine ax_istore (i := 6) (L2 := [some (av_r a0), some (av_i a1), some (av_i a2), some (av_i a3), some (av_i a4), some (av_i b0), some (av_i q26.1), none]) dX6_newNode_56 (by decide) rfl rfl ?_
    refine ax_iconst (v := (0)) dX6_newNode_58 rfl ?_
    refine ax_istore (i := 7) (L2 := [some (av_r a0), some (av_i a1), some (av_i a2), some (av_i a3), some (av_i a4), some (av_i b0), some (av_i q26.1), some (av_i (0))]) dX6_newNode_59 (by decide) rfl rfl ?_
    exact ax_less (L' := [(some (av_r a0)), (some (av_i a1)), none, (some (av_i a3)), (some (av_i a4)), (some (av_i b0)), (some (av_i q26.1)), (some (av_i (0)))]) ⟨rfl, rfl, rfl, rfl, rfl, rfl, rfl, trivial⟩ (tb_X6_newNode_61 se hse _ _ _ _ _ _ _ _ _ h)
def fb_X6_newNode_20 (se : Option Nat → Int32 → ax_S → Option (Int32 × ax_S)) (a0 : Option Nat) (a1 : Int32) (a2 : Int32) (a3 : Int32) (b0 : Int32) (s : ax_S) : Option (Int32 × ax_S) :=
  if a3 ≤ (1) then
    fb_X6_newNode_38 se a0 a1 a2 a3 b0 (-1005) s
  else
    (ax_sh s 4 a0).bind fun w28 =>
    (fo_X6_nextExpression se a0 a2 s).bind fun q29 =>
    fb_X6_newNode_38 se a0 a1 a2 a3 b0 q29.1 q29.2
set_option maxRecDepth 100000 in
set_option maxHeartbeats 4000000 in
theorem tb_X6_newNode_20 (se : Option Nat → Int32 → ax_S → Option (Int32 × ax_S)) {dr : Nat} {q : Int32 × ax_S} (hse : ∀ {a0 : Option Nat} {a1 : Int32} {s : ax_S} {q : Int32 × ax_S}, se a0 a1 s = some q → AC mm_X6_expression yX6_expression dr 0 0 [av_r a0, av_i a1] s (some (av_i q.1), q.2)) {a0 : Option Nat} {a1 : Int32} {a2 : Int32} {a3 : Int32} {b0 : Int32} {s : ax_S} (h : fb_X6_newNode_20 se a0 a1 a2 a3 b0 s = some q) : AW mm_X6_newNode (dr + 4) 0 0 20 [(some (av_r a0)), (some (av_i a1)), (some (av_i a2)), (some (av_i a3)), none, none, none, none] [av_i b0] s (some (av_i q.1), q.2) := by
  unfold fb_X6_newNode_20 at h
  refine ax_istore (i := 4) (L2 := [some (av_r a0), some (av_i a1), some (av_i a2), some (av_i a3), some (av_i b0), none, none, none]) dX6_newNode_20 (by decide) rfl rfl ?_
  refine ax_iload_n (i := 3) dX6_newNode_22 rfl rfl ?_
  refine ax_iconst (v := (1)) dX6_newNode_23 rfl ?_
  refine ax_icmp_le (tgt := 35) dX6_newNode_24 (by decide) (fun c27 => ?_) (fun c27 => ?_)
  · rw [if_pos c27] at h
    refine ax_sipush (v := (-1005)) dX6_newNode_35 rfl ?_
    exact ax_less (L' := [(some (av_r a0)), (some (av_i a1)), (some (av_i a2)), (some (av_i a3)), (some (av_i b0)), none, none, none]) ⟨rfl, rfl, rfl, rfl, rfl, trivial⟩ (tb_X6_newNode_38 se hse h)
  · rw [if_neg c27] at h
    refine ax_aload_n (i := 0) dX6_newNode_27 rfl rfl ?_
    refine ax_iload_n (i := 2) dX6_newNode_28 rfl rfl ?_
    obtain ⟨w28, gw28, h⟩ := Option.bind_eq_some_iff.mp h
    obtain ⟨q29, gq29, h⟩ := Option.bind_eq_some_iff.mp h
    refine ax_cV (As := [av_i a2]) (t := 4) dX6_newNode_29 gw28 (to_X6_nextExpression se hse gq29) rfl (And.intro wd_558 wd_23) wd_555 wd_557 wd_14 cy_X6_nextExpression (by omega) (by decide) (Nat.le_of_ble_eq_true rfl) rfl ?_
    refine ax_goto (tgt := 38) dX6_newNode_32 (by decide) ?_
    exact ax_less (L' := [(some (av_r a0)), (some (av_i a1)), (some (av_i a2)), (some (av_i a3)), (some (av_i b0)), none, none, none]) ⟨rfl, rfl, rfl, rfl, rfl, trivial⟩ (tb_X6_newNode_38 se hse h)
def fo_X6_newNode (se : Option Nat → Int32 → ax_S → Option (Int32 × ax_S)) (a0 : Option Nat) (a1 : Int32) (a2 : Int32) (s : ax_S) : Option (Int32 × ax_S) :=
  (fn_X2_inputs a1 s).bind fun q30 =>
  if q30.1 ≤ 0 then
    fb_X6_newNode_20 se a0 a1 a2 q30.1 (-1005) q30.2
  else
    (ax_sh q30.2 4 a0).bind fun w32 =>
    (se a0 a2 q30.2).bind fun q33 =>
    fb_X6_newNode_20 se a0 a1 a2 q30.1 q33.1 q33.2
set_option maxRecDepth 100000 in
set_option maxHeartbeats 4000000 in
theorem tw_X6_newNode (se : Option Nat → Int32 → ax_S → Option (Int32 × ax_S)) {dr : Nat} {q : Int32 × ax_S} (hse : ∀ {a0 : Option Nat} {a1 : Int32} {s : ax_S} {q : Int32 × ax_S}, se a0 a1 s = some q → AC mm_X6_expression yX6_expression dr 0 0 [av_r a0, av_i a1] s (some (av_i q.1), q.2)) {a0 : Option Nat} {a1 : Int32} {a2 : Int32} {s : ax_S} (h : fo_X6_newNode se a0 a1 a2 s = some q) : AW mm_X6_newNode (dr + 4) 0 0 0 [some (av_r a0), some (av_i a1), some (av_i a2), none, none, none, none, none] [] s (some (av_i q.1), q.2) := by
  unfold fo_X6_newNode at h
  refine ax_iload_n (i := 1) dX6_newNode_0 rfl rfl ?_
  obtain ⟨q30, gq30, h⟩ := Option.bind_eq_some_iff.mp h
  refine ax_cS (As := [av_i a1]) dX6_newNode_1 (th_X2_inputs gq30) (And.intro wd_262 wd_32) wd_554 wd_261 cy_X2_inputs (by omega) (by decide) (Nat.le_of_ble_eq_true rfl) rfl ?_
  refine ax_istore_n (i := 3) (L2 := [some (av_r a0), some (av_i a1), some (av_i a2), some (av_i q30.1), none, none, none, none]) dX6_newNode_4 rfl (by decide) rfl rfl ?_
  refine ax_iload_n (i := 3) dX6_newNode_5 rfl rfl ?_
  refine ax_if_le (tgt := 17) dX6_newNode_6 (by decide) (fun c31 => ?_) (fun c31 => ?_)
  · rw [if_pos c31] at h
    refine ax_sipush (v := (-1005)) dX6_newNode_17 rfl ?_
    exact ax_less (L' := [(some (av_r a0)), (some (av_i a1)), (some (av_i a2)), (some (av_i q30.1)), none, none, none, none]) ⟨rfl, rfl, rfl, rfl, trivial⟩ (tb_X6_newNode_20 se hse h)
  · rw [if_neg c31] at h
    refine ax_aload_n (i := 0) dX6_newNode_9 rfl rfl ?_
    refine ax_iload_n (i := 2) dX6_newNode_10 rfl rfl ?_
    obtain ⟨w32, gw32, h⟩ := Option.bind_eq_some_iff.mp h
    obtain ⟨q33, gq33, h⟩ := Option.bind_eq_some_iff.mp h
    refine ax_cV (As := [av_i a2]) (t := 4) dX6_newNode_11 gw32 (hse gq33) rfl (And.intro wd_444 wd_23) wd_441 wd_443 wd_8 cy_X6_expression (by omega) (by decide) (Nat.le_of_ble_eq_true rfl) rfl ?_
    refine ax_goto (tgt := 20) dX6_newNode_14 (by decide) ?_
    exact ax_less (L' := [(some (av_r a0)), (some (av_i a1)), (some (av_i a2)), (some (av_i q30.1)), none, none, none, none]) ⟨rfl, rfl, rfl, rfl, trivial⟩ (tb_X6_newNode_20 se hse h)
set_option maxRecDepth 100000 in
set_option maxHeartbeats 4000000 in
theorem to_X6_newNode (se : Option Nat → Int32 → ax_S → Option (Int32 × ax_S)) {dr : Nat} {q : Int32 × ax_S} (hse : ∀ {a0 : Option Nat} {a1 : Int32} {s : ax_S} {q : Int32 × ax_S}, se a0 a1 s = some q → AC mm_X6_expression yX6_expression dr 0 0 [av_r a0, av_i a1] s (some (av_i q.1), q.2)) {a0 : Option Nat} {a1 : Int32} {a2 : Int32} {s : ax_S} (h : fo_X6_newNode se a0 a1 a2 s = some q) : AC mm_X6_newNode yX6_newNode (dr + 4) 0 0 [av_r a0, av_i a1, av_i a2] s (some (av_i q.1), q.2) := by
  exact ax_met (L0 := [some (av_r a0), some (av_i a1), some (av_i a2), none, none, none, none, none]) (by decide +kernel) rfl (fun h => absurd h (by decide)) ⟨rfl, rfl, rfl, trivial⟩ (Nat.le_of_ble_eq_true rfl) trivial (tw_X6_newNode se hse h)
/-! X6_expression -/
def fb_X6_expression_25 (se : Option Nat → Int32 → ax_S → Option (Int32 × ax_S)) (a0 : Option Nat) (s : ax_S) : Option (Int32 × ax_S) :=
  (ax_pi s 4 6 a0 (1)).bind fun s1 =>
  some ((-1005), s1)
set_option maxRecDepth 100000 in
set_option maxHeartbeats 4000000 in
theorem tb_X6_expression_25 (se : Option Nat → Int32 → ax_S → Option (Int32 × ax_S)) {dr : Nat} {q : Int32 × ax_S} (hse : ∀ {a0 : Option Nat} {a1 : Int32} {s : ax_S} {q : Int32 × ax_S}, se a0 a1 s = some q → AC mm_X6_expression yX6_expression dr 0 0 [av_r a0, av_i a1] s (some (av_i q.1), q.2)) {a0 : Option Nat} {s : ax_S} (h : fb_X6_expression_25 se a0 s = some q) : AW mm_X6_expression (dr + 5) 0 0 25 [(some (av_r a0)), none, none, none] [] s (some (av_i q.1), q.2) := by
  unfold fb_X6_expression_25 at h
  refine ax_aload_n (i := 0) dX6_expression_25 rfl rfl ?_
  refine ax_iconst (v := (1)) dX6_expression_26 rfl ?_
  obtain ⟨s1, gs1, h⟩ := Option.bind_eq_some_iff.mp h
  refine ax_putI (q := (RX6, TX6, 7)) (t := 4) (k := 6) dX6_expression_27 rfl (by decide) wd_195 rfl rfl ⟨rfl, rfl⟩ gs1 ?_
  refine ax_sipush (v := (-1005)) dX6_expression_30 rfl ?_
  exact ax_reti dX6_expression_33 h
def fb_X6_expression_78 (se : Option Nat → Int32 → ax_S → Option (Int32 × ax_S)) (a0 : Option Nat) (b0 : Int32) (s : ax_S) : Option (Int32 × ax_S) :=
  (ax_sh s 4 a0).bind fun w2 =>
  (fn_X6_expect a0 (41) s).bind fun q3 =>
  some (b0, q3)
set_option maxRecDepth 100000 in
set_option maxHeartbeats 4000000 in
theorem tb_X6_expression_78 (se : Option Nat → Int32 → ax_S → Option (Int32 × ax_S)) {dr : Nat} {q : Int32 × ax_S} (hse : ∀ {a0 : Option Nat} {a1 : Int32} {s : ax_S} {q : Int32 × ax_S}, se a0 a1 s = some q → AC mm_X6_expression yX6_expression dr 0 0 [av_r a0, av_i a1] s (some (av_i q.1), q.2)) {a0 : Option Nat} {b0 : Int32} {s : ax_S} (h : fb_X6_expression_78 se a0 b0 s = some q) : AW mm_X6_expression (dr + 5) 0 0 78 [(some (av_r a0)), none, none, none] [av_i b0] s (some (av_i q.1), q.2) := by
  unfold fb_X6_expression_78 at h
  refine ax_istore_n (i := 3) (L2 := [some (av_r a0), none, none, some (av_i b0)]) dX6_expression_78 rfl (by decide) rfl rfl ?_
  refine ax_aload_n (i := 0) dX6_expression_79 rfl rfl ?_
  refine ax_bipush (v := (41)) dX6_expression_80 rfl ?_
  obtain ⟨w2, gw2, h⟩ := Option.bind_eq_some_iff.mp h
  obtain ⟨q3, gq3, h⟩ := Option.bind_eq_some_iff.mp h
  refine ax_cV (As := [av_i (41)]) (t := 4) dX6_expression_82 gw2 (th_X6_expect gq3) rfl (And.intro wd_540 wd_23) wd_537 wd_539 wd_10 cy_X6_expect (by omega) (by decide) (Nat.le_of_ble_eq_true rfl) rfl ?_
  refine ax_iload_n (i := 3) dX6_expression_85 rfl rfl ?_
  exact ax_reti dX6_expression_86 h
def fo_X6_expression (se : Option Nat → Int32 → ax_S → Option (Int32 × ax_S)) (a0 : Option Nat) (a1 : Int32) (s : ax_S) : Option (Int32 × ax_S) :=
  (ax_sh s 4 a0).bind fun w4 =>
  (fn_X6_kindHere a0 s).bind fun q5 =>
  (ax_gi q5.2 4 6 a0).bind fun x6 =>
  if x6 = 0 then
    if q5.1 = (-1005) then
      fb_X6_expression_25 se a0 q5.2
    else
      if a1 < (6) then
        (ax_gi q5.2 4 5 a0).bind fun x10 =>
        (ax_pi q5.2 4 5 a0 (x10 + (1))).bind fun s11 =>
        (ax_sh s11 4 a0).bind fun w12 =>
        (fn_X6_expect a0 (40) s11).bind fun q13 =>
        if q5.1 = (7) then
          (ax_gi q13 4 4 a0).bind fun x17 =>
          (ax_sh q13 4 a0).bind fun w18 =>
          (fn_X6_readNumber a0 (0) (x17 - (1)) q13).bind fun q19 =>
          fb_X6_expression_78 se a0 q19.1 q19.2
        else
          (ax_sh q13 4 a0).bind fun w15 =>
          (fo_X6_newNode se a0 q5.1 (a1 + (1)) q13).bind fun q16 =>
          fb_X6_expression_78 se a0 q16.1 q16.2
      else
        fb_X6_expression_25 se a0 q5.2
  else
    fb_X6_expression_25 se a0 q5.2
set_option maxRecDepth 100000 in
set_option maxHeartbeats 4000000 in
theorem tw_X6_expression (se : Option Nat → Int32 → ax_S → Option (Int32 × ax_S)) {dr : Nat} {q : Int32 × ax_S} (hse : ∀ {a0 : Option Nat} {a1 : Int32} {s : ax_S} {q : Int32 × ax_S}, se a0 a1 s = some q → AC mm_X6_expression yX6_expression dr 0 0 [av_r a0, av_i a1] s (some (av_i q.1), q.2)) {a0 : Option Nat} {a1 : Int32} {s : ax_S} (h : fo_X6_expression se a0 a1 s = some q) : AW mm_X6_expression (dr + 5) 0 0 0 [some (av_r a0), some (av_i a1), none, none] [] s (some (av_i q.1), q.2) := by
  unfold fo_X6_expression at h
  refine ax_aload_n (i := 0) dX6_expression_0 rfl rfl ?_
  obtain ⟨w4, gw4, h⟩ := Option.bind_eq_some_iff.mp h
  obtain ⟨q5, gq5, h⟩ := Option.bind_eq_some_iff.mp h
  refine ax_cV (As := []) (t := 4) dX6_expression_1 gw4 (th_X6_kindHere gq5) rfl (And.intro wd_448 wd_23) wd_445 wd_447 wd_9 cy_X6_kindHere (by omega) (by decide) (Nat.le_of_ble_eq_true rfl) rfl ?_
  refine ax_istore_n (i := 2) (L2 := [some (av_r a0), some (av_i a1), some (av_i q5.1), none]) dX6_expression_4 rfl (by decide) rfl rfl ?_
  refine ax_aload_n (i := 0) dX6_expression_5 rfl rfl ?_
  obtain ⟨x6, gx6, h⟩ := Option.bind_eq_some_iff.mp h
  refine ax_getI (q := (RX6, TX6, 7)) (t := 4) (k := 6) dX6_expression_6 rfl (by decide) wd_195 rfl gx6 ?_
  refine ax_if_ne (tgt := 25) dX6_expression_9 (by decide) (fun c7 => ?_) (fun c7 => ?_)
  · rw [if_neg c7] at h
    exact ax_less (L' := [(some (av_r a0)), none, none, none]) ⟨rfl, trivial⟩ (tb_X6_expression_25 se hse h)
  · rw [if_pos c7] at h
    refine ax_iload_n (i := 2) dX6_expression_12 rfl rfl ?_
    refine ax_sipush (v := (-1005)) dX6_expression_13 rfl ?_
    refine ax_icmp_eq (tgt := 25) dX6_expression_16 (by decide) (fun c8 => ?_) (fun c8 => ?_)
    · rw [if_pos c8] at h
      exact ax_less (L' := [(some (av_r a0)), none, none, none]) ⟨rfl, trivial⟩ (tb_X6_expression_25 se hse h)
    · rw [if_neg c8] at h
      refine ax_iload_n (i := 1) dX6_expression_19 rfl rfl ?_
      refine ax_bipush (v := (6)) dX6_expression_20 rfl ?_
      refine ax_icmp_lt (tgt := 34) dX6_expression_22 (by decide) (fun c9 => ?_) (fun c9 => ?_)
      · rw [if_pos c9] at h
        refine ax_aload_n (i := 0) dX6_expression_34 rfl rfl ?_
        refine ax_dup dX6_expression_35 trivial ?_
        obtain ⟨x10, gx10, h⟩ := Option.bind_eq_some_iff.mp h
        refine ax_getI (q := (RX6, TX6, 7)) (t := 4) (k := 5) dX6_expression_36 rfl (by decide) wd_194 rfl gx10 ?_
        refine ax_iconst (v := (1)) dX6_expression_39 rfl ?_
        refine ax_iadd dX6_expression_40 ?_
        obtain ⟨s11, gs11, h⟩ := Option.bind_eq_some_iff.mp h
        refine ax_putI (q := (RX6, TX6, 7)) (t := 4) (k := 5) dX6_expression_41 rfl (by decide) wd_194 rfl rfl ⟨rfl, rfl⟩ gs11 ?_
        refine ax_aload_n (i := 0) dX6_expression_44 rfl rfl ?_
        refine ax_bipush (v := (40)) dX6_expression_45 rfl ?_
        obtain ⟨w12, gw12, h⟩ := Option.bind_eq_some_iff.mp h
        obtain ⟨q13, gq13, h⟩ := Option.bind_eq_some_iff.mp h
        refine ax_cV (As := [av_i (40)]) (t := 4) dX6_expression_47 gw12 (th_X6_expect gq13) rfl (And.intro wd_540 wd_23) wd_537 wd_539 wd_10 cy_X6_expect (by omega) (by decide) (Nat.le_of_ble_eq_true rfl) rfl ?_
        refine ax_iload_n (i := 2) dX6_expression_50 rfl rfl ?_
        refine ax_bipush (v := (7)) dX6_expression_51 rfl ?_
        refine ax_icmp_ne (tgt := 70) dX6_expression_53 (by decide) (fun c14 => ?_) (fun c14 => ?_)
        · rw [if_neg c14] at h
          refine ax_aload_n (i := 0) dX6_expression_70 rfl rfl ?_
          refine ax_iload_n (i := 2) dX6_expression_71 rfl rfl ?_
          refine ax_iload_n (i := 1) dX6_expression_72 rfl rfl ?_
          refine ax_iconst (v := (1)) dX6_expression_73 rfl ?_
          refine ax_iadd dX6_expression_74 ?_
          obtain ⟨w15, gw15, h⟩ := Option.bind_eq_some_iff.mp h
          obtain ⟨q16, gq16, h⟩ := Option.bind_eq_some_iff.mp h
          refine ax_cV (As := [av_i q5.1, av_i (a1 + (1))]) (t := 4) dX6_expression_75 gw15 (to_X6_newNode se hse gq16) rfl (And.intro wd_553 wd_23) wd_550 wd_552 wd_13 cy_X6_newNode (by omega) (by decide) (Nat.le_of_ble_eq_true rfl) rfl ?_
          exact ax_less (L' := [(some (av_r a0)), none, none, none]) ⟨rfl, trivial⟩ (tb_X6_expression_78 se hse h)
        · rw [if_pos c14] at h
          refine ax_aload_n (i := 0) dX6_expression_56 rfl rfl ?_
          refine ax_iconst (v := (0)) dX6_expression_57 rfl ?_
          refine ax_aload_n (i := 0) dX6_expression_58 rfl rfl ?_
          obtain ⟨x17, gx17, h⟩ := Option.bind_eq_some_iff.mp h
          refine ax_getI (q := (RX6, TX6, 7)) (t := 4) (k := 4) dX6_expression_59 rfl (by decide) wd_193 rfl gx17 ?_
          refine ax_iconst (v := (1)) dX6_expression_62 rfl ?_
          refine ax_isub dX6_expression_63 ?_
          obtain ⟨w18, gw18, h⟩ := Option.bind_eq_some_iff.mp h
          obtain ⟨q19, gq19, h⟩ := Option.bind_eq_some_iff.mp h
          refine ax_cV (As := [av_i (0), av_i (x17 - (1))]) (t := 4) dX6_expression_64 gw18 (th_X6_readNumber gq19) rfl (And.intro wd_544 wd_23) wd_541 wd_543 wd_11 cy_X6_readNumber (by omega) (by decide) (Nat.le_of_ble_eq_true rfl) rfl ?_
          refine ax_goto (tgt := 78) dX6_expression_67 (by decide) ?_
          exact ax_less (L' := [(some (av_r a0)), none, none, none]) ⟨rfl, trivial⟩ (tb_X6_expression_78 se hse h)
      · rw [if_neg c9] at h
        exact ax_less (L' := [(some (av_r a0)), none, none, none]) ⟨rfl, trivial⟩ (tb_X6_expression_25 se hse h)
set_option maxRecDepth 100000 in
set_option maxHeartbeats 4000000 in
theorem to_X6_expression (se : Option Nat → Int32 → ax_S → Option (Int32 × ax_S)) {dr : Nat} {q : Int32 × ax_S} (hse : ∀ {a0 : Option Nat} {a1 : Int32} {s : ax_S} {q : Int32 × ax_S}, se a0 a1 s = some q → AC mm_X6_expression yX6_expression dr 0 0 [av_r a0, av_i a1] s (some (av_i q.1), q.2)) {a0 : Option Nat} {a1 : Int32} {s : ax_S} (h : fo_X6_expression se a0 a1 s = some q) : AC mm_X6_expression yX6_expression (dr + 5) 0 0 [av_r a0, av_i a1] s (some (av_i q.1), q.2) := by
  exact ax_met (L0 := [some (av_r a0), some (av_i a1), none, none]) (by decide +kernel) rfl (fun h => absurd h (by decide)) ⟨rfl, rfl, trivial⟩ (Nat.le_of_ble_eq_true rfl) trivial (tw_X6_expression se hse h)
def fr_X6_expression : Nat → Option Nat → Int32 → ax_S → Option (Int32 × ax_S)
  | 0, _, _, _ => none
  | n + 1, a0, a1, s => fo_X6_expression (fr_X6_expression n) a0 a1 s
theorem tr_X6_expression : ∀ (n : Nat) {a0 : Option Nat} {a1 : Int32} {s : ax_S} {q : Int32 × ax_S} (h : fr_X6_expression n a0 a1 s = some q), AC mm_X6_expression yX6_expression (n * 5) 0 0 [av_r a0, av_i a1] s (some (av_i q.1), q.2) := by
  intro n
  induction n with
  | zero =>
    intro a0 a1 s q h
    exact ax_no h
  | succ n ih =>
    intro a0 a1 s q h
    rw [Nat.succ_mul]
    exact to_X6_expression (fr_X6_expression n) ih h
def fn_X6_expression (a0 : Option Nat) (a1 : Int32) (s : ax_S) : Option (Int32 × ax_S) := fr_X6_expression 10 a0 a1 s
theorem th_X6_expression {a0 : Option Nat} {a1 : Int32} {s : ax_S} {q : Int32 × ax_S} (h : fn_X6_expression a0 a1 s = some q) : AC mm_X6_expression yX6_expression 50 0 0 [av_r a0, av_i a1] s (some (av_i q.1), q.2) := tr_X6_expression 10 h

/-! X6_read -/
abbrev mm_X6_read : ax_M := (RX6, cX6_read, (some .int), 3, false)
def fn_X6_read (a0 : Option Nat) (a1 : Int32) (s : ax_S) : Option (Int32 × ax_S) :=
  (ax_pi s 4 4 a0 a1).bind fun s1 =>
  (ax_pi s1 4 3 a0 (0)).bind fun s2 =>
  (ax_pi s2 4 5 a0 (0)).bind fun s3 =>
  (ax_pi s3 4 6 a0 (0)).bind fun s4 =>
  (ax_sh s4 4 a0).bind fun w5 =>
  (fn_X6_expression a0 (0) s4).bind fun q6 =>
  (ax_gi q6.2 4 5 a0).bind fun x7 =>
  (ax_gr q6.2 4 0 a0).bind fun r8 =>
  (ax_gi q6.2 5 1 r8).bind fun x9 =>
  if x9 ≤ x7 then
    some (q6.1, q6.2)
  else
    (ax_pi q6.2 4 6 a0 (1)).bind fun s11 =>
    some (q6.1, s11)
set_option maxRecDepth 100000 in
set_option maxHeartbeats 4000000 in
theorem tw_X6_read {q : Int32 × ax_S} {a0 : Option Nat} {a1 : Int32} {s : ax_S} (h : fn_X6_read a0 a1 s = some q) : AW mm_X6_read 51 0 0 0 [some (av_r a0), some (av_i a1), none] [] s (some (av_i q.1), q.2) := by
  unfold fn_X6_read at h
  refine ax_aload_n (i := 0) dX6_read_0 rfl rfl ?_
  refine ax_iload_n (i := 1) dX6_read_1 rfl rfl ?_
  obtain ⟨s1, gs1, h⟩ := Option.bind_eq_some_iff.mp h
  refine ax_putI (q := (RX6, TX6, 7)) (t := 4) (k := 4) dX6_read_2 rfl (by decide) wd_193 rfl rfl ⟨rfl, rfl⟩ gs1 ?_
  refine ax_aload_n (i := 0) dX6_read_5 rfl rfl ?_
  refine ax_iconst (v := (0)) dX6_read_6 rfl ?_
  obtain ⟨s2, gs2, h⟩ := Option.bind_eq_some_iff.mp h
  refine ax_putI (q := (RX6, TX6, 7)) (t := 4) (k := 3) dX6_read_7 rfl (by decide) wd_191 rfl rfl ⟨rfl, rfl⟩ gs2 ?_
  refine ax_aload_n (i := 0) dX6_read_10 rfl rfl ?_
  refine ax_iconst (v := (0)) dX6_read_11 rfl ?_
  obtain ⟨s3, gs3, h⟩ := Option.bind_eq_some_iff.mp h
  refine ax_putI (q := (RX6, TX6, 7)) (t := 4) (k := 5) dX6_read_12 rfl (by decide) wd_194 rfl rfl ⟨rfl, rfl⟩ gs3 ?_
  refine ax_aload_n (i := 0) dX6_read_15 rfl rfl ?_
  refine ax_iconst (v := (0)) dX6_read_16 rfl ?_
  obtain ⟨s4, gs4, h⟩ := Option.bind_eq_some_iff.mp h
  refine ax_putI (q := (RX6, TX6, 7)) (t := 4) (k := 6) dX6_read_17 rfl (by decide) wd_195 rfl rfl ⟨rfl, rfl⟩ gs4 ?_
  refine ax_aload_n (i := 0) dX6_read_20 rfl rfl ?_
  refine ax_iconst (v := (0)) dX6_read_21 rfl ?_
  obtain ⟨w5, gw5, h⟩ := Option.bind_eq_some_iff.mp h
  obtain ⟨q6, gq6, h⟩ := Option.bind_eq_some_iff.mp h
  refine ax_cV (As := [av_i (0)]) (t := 4) dX6_read_22 gw5 (th_X6_expression gq6) rfl (And.intro wd_444 wd_23) wd_441 wd_443 wd_8 cy_X6_expression (by omega) (by decide) (Nat.le_of_ble_eq_true rfl) rfl ?_
  refine ax_istore_n (i := 2) (L2 := [some (av_r a0), some (av_i a1), some (av_i q6.1)]) dX6_read_25 rfl (by decide) rfl rfl ?_
  refine ax_aload_n (i := 0) dX6_read_26 rfl rfl ?_
  obtain ⟨x7, gx7, h⟩ := Option.bind_eq_some_iff.mp h
  refine ax_getI (q := (RX6, TX6, 7)) (t := 4) (k := 5) dX6_read_27 rfl (by decide) wd_194 rfl gx7 ?_
  refine ax_aload_n (i := 0) dX6_read_30 rfl rfl ?_
  obtain ⟨r8, gr8, h⟩ := Option.bind_eq_some_iff.mp h
  refine ax_getR (q := (RX6, TX6, 7)) (t := 4) (k := 0) dX6_read_31 rfl (by decide) wd_186 rfl gr8 ?_
  obtain ⟨x9, gx9, h⟩ := Option.bind_eq_some_iff.mp h
  refine ax_getI (q := (RX8, TX8, 2)) (t := 5) (k := 1) dX6_read_34 rfl (by decide) wd_177 rfl gx9 ?_
  refine ax_icmp_ge (tgt := 45) dX6_read_37 (by decide) (fun c10 => ?_) (fun c10 => ?_)
  · rw [if_pos c10] at h
    refine ax_iload_n (i := 2) dX6_read_45 rfl rfl ?_
    exact ax_reti dX6_read_46 h
  · rw [if_neg c10] at h
    refine ax_aload_n (i := 0) dX6_read_40 rfl rfl ?_
    refine ax_iconst (v := (1)) dX6_read_41 rfl ?_
    obtain ⟨s11, gs11, h⟩ := Option.bind_eq_some_iff.mp h
    refine ax_putI (q := (RX6, TX6, 7)) (t := 4) (k := 6) dX6_read_42 rfl (by decide) wd_195 rfl rfl ⟨rfl, rfl⟩ gs11 ?_
    refine ax_iload_n (i := 2) dX6_read_45 rfl rfl ?_
    exact ax_reti dX6_read_46 h
set_option maxRecDepth 100000 in
set_option maxHeartbeats 4000000 in
theorem th_X6_read {q : Int32 × ax_S} {a0 : Option Nat} {a1 : Int32} {s : ax_S} (h : fn_X6_read a0 a1 s = some q) : AC mm_X6_read yX6_read 51 0 0 [av_r a0, av_i a1] s (some (av_i q.1), q.2) := by
  exact ax_met (L0 := [some (av_r a0), some (av_i a1), none]) (by decide +kernel) rfl (fun h => absurd h (by decide)) ⟨rfl, rfl, trivial⟩ (Nat.le_of_ble_eq_true rfl) trivial (tw_X6_read h)
/-! X6_init -/
abbrev mm_X6_init : ax_M := (RX6, cX6_init, none, 2, true)
def fb_X6_init_33 : Nat → Option Nat → Int32 → ax_S → Option (ax_S)
  | 0, _, _, _ => none
  | n + 1, a0, a1, s =>
    if (12) ≤ a1 then
      some s
    else
      (ax_gr s 4 2 a0).bind fun r2 =>
      ax_bd (ax_nw s 2 5) fun s3 =>
      ax_bd (some s.1.length) fun r4 =>
      (ax_sh s3 2 r4).bind fun w5 =>
      (fn_X3_init r4 s3).bind fun q6 =>
      (ax_aw q6 12 r2 a1 r4).bind fun s7 =>
      (fb_X6_init_33 n) a0 (a1 + (1)) s7
set_option maxRecDepth 100000 in
set_option maxHeartbeats 4000000 in
theorem tb_X6_init_33 {q : ax_S} : ∀ (n : Nat) (a0 : Option Nat) (a1 : Int32) (s : ax_S) (h : fb_X6_init_33 n a0 a1 s = some q), AW mm_X6_init 2 (n * 3) (n * 12) 33 [(some (av_r a0)), (some (av_i a1))] [] s (none, q) := by
  intro n
  induction n with
  | zero =>
    intro a0 a1 s h
    exact ax_no h
  | succ n ih =>
    intro a0 a1 s h
    unfold fb_X6_init_33 at h
    refine ax_wide (bc2 := n * 3 + 3) (bs2 := n * 12 + 12) (by rw [Nat.succ_mul]; exact Nat.le_refl _) (by rw [Nat.succ_mul]; exact Nat.le_refl _) ?_
    refine ax_iload_n (i := 1) dX6_init_33 rfl rfl ?_
    refine ax_bipush (v := (12)) dX6_init_34 rfl ?_
    refine ax_icmp_ge (tgt := 58) dX6_init_36 (by decide) (fun c1 => ?_) (fun c1 => ?_)
    · rw [if_pos c1] at h
      exact ax_retv dX6_init_58 h
    · rw [if_neg c1] at h
      refine ax_aload_n (i := 0) dX6_init_39 rfl rfl ?_
      obtain ⟨r2, gr2, h⟩ := Option.bind_eq_some_iff.mp h
      refine ax_getR (q := (RX6, TX6, 7)) (t := 4) (k := 2) dX6_init_40 rfl (by decide) wd_189 rfl gr2 ?_
      refine ax_iload_n (i := 1) dX6_init_43 rfl rfl ?_
      refine ax_newO (t := 2) (q := (RX3, TX3, 5)) (bc := n * 3 + 2) (bs := n * 12 + 7) dX6_init_44 rfl wd_184 wd_52 wd_20 (by decide +kernel) ?_
      refine ax_bdS h (fun s3 h => ?_)
      refine ax_bdR h (fun r4 h => ?_)
      refine ax_dup dX6_init_47 trivial ?_
      obtain ⟨w5, gw5, h⟩ := Option.bind_eq_some_iff.mp h
      obtain ⟨q6, gq6, h⟩ := Option.bind_eq_some_iff.mp h
      refine ax_cIN (As := []) (t := 2) (bc := n * 3 + 0) (bs := n * 12 + 0) (kc := 2) (ks := 7) dX6_init_48 gw5 (th_X3_init gq6) rfl rfl (And.intro wd_55 wd_20) wn_185 wd_54 cy_X3_init (by omega) (by decide) (Nat.le_of_ble_eq_true rfl) rfl ?_
      obtain ⟨s7, gs7, h⟩ := Option.bind_eq_some_iff.mp h
      refine ax_aast (t := 12) (by decide) rfl dX6_init_51 gs7 ?_
      refine ax_iinc (i := 1) (v := (a1 + (1))) (L2 := [some (av_r a0), some (av_i (a1 + (1)))]) dX6_init_52 rfl rfl (by decide) rfl rfl ?_
      refine ax_goto (tgt := 33) dX6_init_55 (by decide) ?_
      refine ax_wide (bc2 := n * 3) (bs2 := n * 12) (by omega) (by omega) ?_
      exact ax_less (L' := [(some (av_r a0)), (some (av_i (a1 + (1))))]) ⟨rfl, rfl, trivial⟩ (ih _ _ _ h)
def fn_X6_init (a0 : Option Nat) (s : ax_S) : Option (ax_S) :=
  (ax_sh s 4 a0).bind fun w8 =>
  ax_bd (ax_nw s 5 2) fun s9 =>
  ax_bd (some s.1.length) fun r10 =>
  (ax_sh s9 5 r10).bind fun w11 =>
  (fn_X8_init r10 s9).bind fun q12 =>
  (ax_pr q12 4 0 a0 r10).bind fun s13 =>
  ax_bd (ax_nw s13 9 4) fun s14 =>
  ax_bd (some s13.1.length) fun r15 =>
  (ax_pr s14 4 1 a0 r15).bind fun s16 =>
  ax_bd (ax_nw s16 12 12) fun s17 =>
  ax_bd (some s16.1.length) fun r18 =>
  (ax_pr s17 4 2 a0 r18).bind fun s19 =>
  fb_X6_init_33 60 a0 (0) s19
set_option maxRecDepth 100000 in
set_option maxHeartbeats 4000000 in
theorem tw_X6_init {q : ax_S} {a0 : Option Nat} {s : ax_S} (h : fn_X6_init a0 s = some q) : AW mm_X6_init 2 184 818 0 [some (av_r a0), none] [] s (none, q) := by
  unfold fn_X6_init at h
  refine ax_aload_n (i := 0) dX6_init_0 rfl rfl ?_
  obtain ⟨w8, gw8, h⟩ := Option.bind_eq_some_iff.mp h
  refine ax_cO dX6_init_1 gw8 wd_168 wd_42 wd_43 (by omega) (Nat.le_of_ble_eq_true rfl) ?_
  refine ax_aload_n (i := 0) dX6_init_4 rfl rfl ?_
  refine ax_newO (t := 5) (q := (RX8, TX8, 2)) (bc := 183) (bs := 816) dX6_init_5 rfl wd_169 wd_170 wd_24 (by decide +kernel) ?_
  refine ax_bdS h (fun s9 h => ?_)
  refine ax_bdR h (fun r10 h => ?_)
  refine ax_dup dX6_init_8 trivial ?_
  obtain ⟨w11, gw11, h⟩ := Option.bind_eq_some_iff.mp h
  obtain ⟨q12, gq12, h⟩ := Option.bind_eq_some_iff.mp h
  refine ax_cIN (As := []) (t := 5) (bc := 182) (bs := 736) (kc := 1) (ks := 80) dX6_init_9 gw11 (th_X8_init gq12) rfl rfl (And.intro wd_173 wd_24) wn_171 wd_172 cy_X8_init (by omega) (by decide) (Nat.le_of_ble_eq_true rfl) rfl ?_
  obtain ⟨s13, gs13, h⟩ := Option.bind_eq_some_iff.mp h
  refine ax_putRF (q := (RX6, TX6, 7)) (t := 4) (k := 0) dX6_init_12 rfl (by decide) wd_186 rfl rfl rfl rfl (fun w => by cases w <;> exact ⟨rfl, rfl⟩) gs13 ?_
  refine ax_aload_n (i := 0) dX6_init_15 rfl rfl ?_
  refine ax_iconst (v := (4)) dX6_init_16 rfl ?_
  refine ax_newA (t := 9) (n := 4) (bc := 181) (bs := 732) dX6_init_17 (by decide) rfl wd_84 (by decide) (by decide) (by decide) ?_
  refine ax_bdS h (fun s14 h => ?_)
  refine ax_bdR h (fun r15 h => ?_)
  obtain ⟨s16, gs16, h⟩ := Option.bind_eq_some_iff.mp h
  refine ax_putRF (q := (RX6, TX6, 7)) (t := 4) (k := 1) dX6_init_19 rfl (by decide) wd_188 rfl rfl rfl rfl (fun w => by cases w <;> exact ⟨rfl, rfl⟩) gs16 ?_
  refine ax_aload_n (i := 0) dX6_init_22 rfl rfl ?_
  refine ax_bipush (v := (12)) dX6_init_23 rfl ?_
  refine ax_newR (t := 12) (n := 12) (bc := 180) (bs := 720) dX6_init_25 (by decide) rfl wd_184 (by decide) (by decide) (by decide) (by decide) ?_
  refine ax_bdS h (fun s17 h => ?_)
  refine ax_bdR h (fun r18 h => ?_)
  obtain ⟨s19, gs19, h⟩ := Option.bind_eq_some_iff.mp h
  refine ax_putRF (q := (RX6, TX6, 7)) (t := 4) (k := 2) dX6_init_28 rfl (by decide) wd_189 rfl rfl rfl rfl (fun w => by cases w <;> exact ⟨rfl, rfl⟩) gs19 ?_
  refine ax_iconst (v := (0)) dX6_init_31 rfl ?_
  refine ax_istore_n (i := 1) (L2 := [some (av_r a0), some (av_i (0))]) dX6_init_32 rfl (by decide) rfl rfl ?_
  refine ax_wide (bc2 := 180) (bs2 := 720) (by omega) (by omega) ?_
  exact ax_less (L' := [(some (av_r a0)), (some (av_i (0)))]) ⟨rfl, rfl, trivial⟩ (tb_X6_init_33  _ _ _ _ h)
set_option maxRecDepth 100000 in
set_option maxHeartbeats 4000000 in
theorem th_X6_init {q : ax_S} {a0 : Option Nat} {s : ax_S} (h : fn_X6_init a0 s = some q) : AC mm_X6_init yX6_init 2 184 818 [av_r a0] s (none, q) := by
  exact ax_met (L0 := [some (av_r a0), none]) (by decide +kernel) rfl (fun _ => rfl) ⟨rfl, trivial⟩ (Nat.le_of_ble_eq_true rfl) trivial (tw_X6_init h)
