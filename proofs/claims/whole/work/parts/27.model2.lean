/-! X10_isPicture -/
abbrev mm_X10_isPicture : ax_M := (RX10, cX10_isPicture, (some .boolean), 3, false)
def fi_X10_isPicture (a0 : Option Nat) (a1 : Int32) (a2 : Int32) (s : ax_S) : Option (Int32 × ax_S) :=
  (ax_sh s 7 a0).bind fun w1 =>
  (fn_X10_isNode a0 a1 s).bind fun q2 =>
  if q2.1 = 0 then
    some ((0), q2.2)
  else
    (fn_X10_in a2 (0) (99) q2.2).bind fun q4 =>
    if q4.1 = 0 then
      some ((0), q4.2)
    else
      some ((1), q4.2)
set_option maxRecDepth 100000 in
set_option maxHeartbeats 4000000 in
theorem tw_X10_isPicture {q : Int32 × ax_S} {a0 : Option Nat} {a1 : Int32} {a2 : Int32} {s : ax_S} (h : fi_X10_isPicture a0 a1 a2 s = some q) : AW mm_X10_isPicture 2 0 0 0 [some (av_r a0), some (av_i a1), some (av_i a2)] [] s (some (av_i q.1), q.2) := by
  unfold fi_X10_isPicture at h
  refine ax_aload_n (i := 0) dX10_isPicture_0 rfl rfl ?_
  refine ax_iload_n (i := 1) dX10_isPicture_1 rfl rfl ?_
  obtain ⟨w1, gw1, h⟩ := Option.bind_eq_some_iff.mp h
  obtain ⟨q2, gq2, h⟩ := Option.bind_eq_some_iff.mp h
  refine ax_cV (As := [av_i a1]) (t := 7) dX10_isPicture_2 gw1 (th_X10_isNode gq2) rfl (And.intro wd_878 wd_60) wd_875 wd_877 wd_19 cy_X10_isNode (by omega) (by decide) (Nat.le_of_ble_eq_true rfl) rfl ?_
  refine ax_if_eq (tgt := 22) dX10_isPicture_5 (by decide) (fun c3 => ?_) (fun c3 => ?_)
  · rw [if_pos c3] at h
    refine ax_iconst (v := (0)) dX10_isPicture_22 rfl ?_
    exact ax_reti dX10_isPicture_23 h
  · rw [if_neg c3] at h
    refine ax_iload_n (i := 2) dX10_isPicture_8 rfl rfl ?_
    refine ax_iconst (v := (0)) dX10_isPicture_9 rfl ?_
    refine ax_bipush (v := (99)) dX10_isPicture_10 rfl ?_
    obtain ⟨q4, gq4, h⟩ := Option.bind_eq_some_iff.mp h
    refine ax_cS (As := [av_i a2, av_i (0), av_i (99)]) dX10_isPicture_12 (th_X10_in gq4) (And.intro wd_856 wd_60) wd_854 wd_855 cy_X10_in (by omega) (by decide) (Nat.le_of_ble_eq_true rfl) rfl ?_
    refine ax_if_eq (tgt := 22) dX10_isPicture_15 (by decide) (fun c5 => ?_) (fun c5 => ?_)
    · rw [if_pos c5] at h
      refine ax_iconst (v := (0)) dX10_isPicture_22 rfl ?_
      exact ax_reti dX10_isPicture_23 h
    · rw [if_neg c5] at h
      refine ax_iconst (v := (1)) dX10_isPicture_18 rfl ?_
      refine ax_goto (tgt := 23) dX10_isPicture_19 (by decide) ?_
      exact ax_reti dX10_isPicture_23 h
def fn_X10_isPicture (a0 : Option Nat) (a1 : Int32) (a2 : Int32) (s : ax_S) : Option (Int32 × ax_S) := ax_bz (fi_X10_isPicture a0 a1 a2 s)
set_option maxRecDepth 100000 in
set_option maxHeartbeats 4000000 in
theorem th_X10_isPicture {q : Int32 × ax_S} {a0 : Option Nat} {a1 : Int32} {a2 : Int32} {s : ax_S} (h : fn_X10_isPicture a0 a1 a2 s = some q) : AC mm_X10_isPicture yX10_isPicture 2 0 0 [av_r a0, av_i a1, av_i a2] s (some (av_i q.1), q.2) := by
  obtain ⟨h, hz⟩ := ax_bz_of h
  exact ax_met (L0 := [some (av_r a0), some (av_i a1), some (av_i a2)]) (by decide +kernel) rfl (fun h => absurd h (by decide)) ⟨rfl, rfl, rfl, trivial⟩ (Nat.le_of_ble_eq_true rfl) hz (tw_X10_isPicture h)
/-! X10_uses -/
abbrev mm_X10_uses : ax_M := (RX10, cX10_uses, none, 2, false)
def fn_X10_uses (a0 : Option Nat) (a1 : Int32) (s : ax_S) : Option (ax_S) :=
  (ax_gi s 7 9 a0).bind fun x1 =>
  (ax_pi s 7 9 a0 (x1 + (1))).bind fun s2 =>
  (ax_gr s2 7 7 a0).bind fun r3 =>
  (ax_gi s2 7 9 a0).bind fun x4 =>
  (ax_as s2 9 r3 a1 x4).bind fun s5 =>
  some s5
set_option maxRecDepth 100000 in
set_option maxHeartbeats 4000000 in
theorem tw_X10_uses {q : ax_S} {a0 : Option Nat} {a1 : Int32} {s : ax_S} (h : fn_X10_uses a0 a1 s = some q) : AW mm_X10_uses 0 0 0 0 [some (av_r a0), some (av_i a1)] [] s (none, q) := by
  unfold fn_X10_uses at h
  refine ax_aload_n (i := 0) dX10_uses_0 rfl rfl ?_
  refine ax_dup dX10_uses_1 trivial ?_
  obtain ⟨x1, gx1, h⟩ := Option.bind_eq_some_iff.mp h
  refine ax_getI (q := (RX10, TX10, 28)) (t := 7) (k := 9) dX10_uses_2 rfl (by decide) wd_770 rfl gx1 ?_
  refine ax_iconst (v := (1)) dX10_uses_5 rfl ?_
  refine ax_iadd dX10_uses_6 ?_
  obtain ⟨s2, gs2, h⟩ := Option.bind_eq_some_iff.mp h
  refine ax_putI (q := (RX10, TX10, 28)) (t := 7) (k := 9) dX10_uses_7 rfl (by decide) wd_770 rfl rfl ⟨rfl, rfl⟩ gs2 ?_
  refine ax_aload_n (i := 0) dX10_uses_10 rfl rfl ?_
  obtain ⟨r3, gr3, h⟩ := Option.bind_eq_some_iff.mp h
  refine ax_getR (q := (RX10, TX10, 28)) (t := 7) (k := 7) dX10_uses_11 rfl (by decide) wd_768 rfl gr3 ?_
  refine ax_iload_n (i := 1) dX10_uses_14 rfl rfl ?_
  refine ax_aload_n (i := 0) dX10_uses_15 rfl rfl ?_
  obtain ⟨x4, gx4, h⟩ := Option.bind_eq_some_iff.mp h
  refine ax_getI (q := (RX10, TX10, 28)) (t := 7) (k := 9) dX10_uses_16 rfl (by decide) wd_770 rfl gx4 ?_
  obtain ⟨s5, gs5, h⟩ := Option.bind_eq_some_iff.mp h
  refine ax_iast dX10_uses_19 gs5 ?_
  exact ax_retv dX10_uses_20 h
set_option maxRecDepth 100000 in
set_option maxHeartbeats 4000000 in
theorem th_X10_uses {q : ax_S} {a0 : Option Nat} {a1 : Int32} {s : ax_S} (h : fn_X10_uses a0 a1 s = some q) : AC mm_X10_uses yX10_uses 0 0 0 [av_r a0, av_i a1] s (none, q) := by
  exact ax_met (L0 := [some (av_r a0), some (av_i a1)]) (by decide +kernel) rfl (fun h => absurd h (by decide)) ⟨rfl, rfl, trivial⟩ (Nat.le_of_ble_eq_true rfl) trivial (tw_X10_uses h)
/-! X10_asks -/
abbrev mm_X10_asks : ax_M := (RX10, cX10_asks, none, 4, false)
def fn_X10_asks (a0 : Option Nat) (a1 : Int32) (a2 : Int32) (s : ax_S) : Option (ax_S) :=
  (ax_sh s 7 a0).bind fun w1 =>
  (fn_X10_find a0 a1 a2 s).bind fun q2 =>
  if q2.1 < 0 then
    (ax_gr q2.2 7 10 a0).bind fun r4 =>
    (ax_al q2.2 9 r4 (2)).bind fun x5 =>
    (ax_as q2.2 9 r4 (2) (x5 + (1))).bind fun s6 =>
    (ax_gr s6 7 16 a0).bind fun r7 =>
    (ax_gi s6 7 18 a0).bind fun x8 =>
    (ax_as s6 9 r7 x8 a1).bind fun s9 =>
    (ax_gr s9 7 17 a0).bind fun r10 =>
    (ax_gi s9 7 18 a0).bind fun x11 =>
    (ax_as s9 9 r10 x11 (0)).bind fun s12 =>
    (ax_gi s12 7 18 a0).bind fun x13 =>
    (ax_pi s12 7 18 a0 (x13 + (1))).bind fun s14 =>
    some s14
  else
    (ax_gr q2.2 7 10 a0).bind fun r15 =>
    (ax_al q2.2 9 r15 (1)).bind fun x16 =>
    (ax_as q2.2 9 r15 (1) (x16 + (1))).bind fun s17 =>
    (ax_sh s17 7 a0).bind fun w18 =>
    (fn_X10_uses a0 q2.1 s17).bind fun q19 =>
    some q19
set_option maxRecDepth 100000 in
set_option maxHeartbeats 4000000 in
theorem tw_X10_asks {q : ax_S} {a0 : Option Nat} {a1 : Int32} {a2 : Int32} {s : ax_S} (h : fn_X10_asks a0 a1 a2 s = some q) : AW mm_X10_asks 1 0 0 0 [some (av_r a0), some (av_i a1), some (av_i a2), none] [] s (none, q) := by
  unfold fn_X10_asks at h
  refine ax_aload_n (i := 0) dX10_asks_0 rfl rfl ?_
  refine ax_iload_n (i := 1) dX10_asks_1 rfl rfl ?_
  refine ax_iload_n (i := 2) dX10_asks_2 rfl rfl ?_
  obtain ⟨w1, gw1, h⟩ := Option.bind_eq_some_iff.mp h
  obtain ⟨q2, gq2, h⟩ := Option.bind_eq_some_iff.mp h
  refine ax_cV (As := [av_i a1, av_i a2]) (t := 7) dX10_asks_3 gw1 (th_X10_find gq2) rfl (And.intro wd_967 wd_60) wd_964 wd_966 wd_32 cy_X10_find (by omega) (by decide) (Nat.le_of_ble_eq_true rfl) rfl ?_
  refine ax_istore_n (i := 3) (L2 := [some (av_r a0), some (av_i a1), some (av_i a2), some (av_i q2.1)]) dX10_asks_6 rfl (by decide) rfl rfl ?_
  refine ax_iload_n (i := 3) dX10_asks_7 rfl rfl ?_
  refine ax_if_lt (tgt := 29) dX10_asks_8 (by decide) (fun c3 => ?_) (fun c3 => ?_)
  · rw [if_pos c3] at h
    refine ax_aload_n (i := 0) dX10_asks_29 rfl rfl ?_
    obtain ⟨r4, gr4, h⟩ := Option.bind_eq_some_iff.mp h
    refine ax_getR (q := (RX10, TX10, 28)) (t := 7) (k := 10) dX10_asks_30 rfl (by decide) wd_771 rfl gr4 ?_
    refine ax_iconst (v := (2)) dX10_asks_33 rfl ?_
    refine ax_dup2 dX10_asks_34 trivial trivial ?_
    obtain ⟨x5, gx5, h⟩ := Option.bind_eq_some_iff.mp h
    refine ax_iald dX10_asks_35 gx5 ?_
    refine ax_iconst (v := (1)) dX10_asks_36 rfl ?_
    refine ax_iadd dX10_asks_37 ?_
    obtain ⟨s6, gs6, h⟩ := Option.bind_eq_some_iff.mp h
    refine ax_iast dX10_asks_38 gs6 ?_
    refine ax_aload_n (i := 0) dX10_asks_39 rfl rfl ?_
    obtain ⟨r7, gr7, h⟩ := Option.bind_eq_some_iff.mp h
    refine ax_getR (q := (RX10, TX10, 28)) (t := 7) (k := 16) dX10_asks_40 rfl (by decide) wd_777 rfl gr7 ?_
    refine ax_aload_n (i := 0) dX10_asks_43 rfl rfl ?_
    obtain ⟨x8, gx8, h⟩ := Option.bind_eq_some_iff.mp h
    refine ax_getI (q := (RX10, TX10, 28)) (t := 7) (k := 18) dX10_asks_44 rfl (by decide) wd_779 rfl gx8 ?_
    refine ax_iload_n (i := 1) dX10_asks_47 rfl rfl ?_
    obtain ⟨s9, gs9, h⟩ := Option.bind_eq_some_iff.mp h
    refine ax_iast dX10_asks_48 gs9 ?_
    refine ax_aload_n (i := 0) dX10_asks_49 rfl rfl ?_
    obtain ⟨r10, gr10, h⟩ := Option.bind_eq_some_iff.mp h
    refine ax_getR (q := (RX10, TX10, 28)) (t := 7) (k := 17) dX10_asks_50 rfl (by decide) wd_778 rfl gr10 ?_
    refine ax_aload_n (i := 0) dX10_asks_53 rfl rfl ?_
    obtain ⟨x11, gx11, h⟩ := Option.bind_eq_some_iff.mp h
    refine ax_getI (q := (RX10, TX10, 28)) (t := 7) (k := 18) dX10_asks_54 rfl (by decide) wd_779 rfl gx11 ?_
    refine ax_iconst (v := (0)) dX10_asks_57 rfl ?_
    obtain ⟨s12, gs12, h⟩ := Option.bind_eq_some_iff.mp h
    refine ax_iast dX10_asks_58 gs12 ?_
    refine ax_aload_n (i := 0) dX10_asks_59 rfl rfl ?_
    refine ax_dup dX10_asks_60 trivial ?_
    obtain ⟨x13, gx13, h⟩ := Option.bind_eq_some_iff.mp h
    refine ax_getI (q := (RX10, TX10, 28)) (t := 7) (k := 18) dX10_asks_61 rfl (by decide) wd_779 rfl gx13 ?_
    refine ax_iconst (v := (1)) dX10_asks_64 rfl ?_
    refine ax_iadd dX10_asks_65 ?_
    obtain ⟨s14, gs14, h⟩ := Option.bind_eq_some_iff.mp h
    refine ax_putI (q := (RX10, TX10, 28)) (t := 7) (k := 18) dX10_asks_66 rfl (by decide) wd_779 rfl rfl ⟨rfl, rfl⟩ gs14 ?_
    exact ax_retv dX10_asks_69 h
  · rw [if_neg c3] at h
    refine ax_aload_n (i := 0) dX10_asks_11 rfl rfl ?_
    obtain ⟨r15, gr15, h⟩ := Option.bind_eq_some_iff.mp h
    refine ax_getR (q := (RX10, TX10, 28)) (t := 7) (k := 10) dX10_asks_12 rfl (by decide) wd_771 rfl gr15 ?_
    refine ax_iconst (v := (1)) dX10_asks_15 rfl ?_
    refine ax_dup2 dX10_asks_16 trivial trivial ?_
    obtain ⟨x16, gx16, h⟩ := Option.bind_eq_some_iff.mp h
    refine ax_iald dX10_asks_17 gx16 ?_
    refine ax_iconst (v := (1)) dX10_asks_18 rfl ?_
    refine ax_iadd dX10_asks_19 ?_
    obtain ⟨s17, gs17, h⟩ := Option.bind_eq_some_iff.mp h
    refine ax_iast dX10_asks_20 gs17 ?_
    refine ax_aload_n (i := 0) dX10_asks_21 rfl rfl ?_
    refine ax_iload_n (i := 3) dX10_asks_22 rfl rfl ?_
    obtain ⟨w18, gw18, h⟩ := Option.bind_eq_some_iff.mp h
    obtain ⟨q19, gq19, h⟩ := Option.bind_eq_some_iff.mp h
    refine ax_cV (As := [av_i q2.1]) (t := 7) dX10_asks_23 gw18 (th_X10_uses gq19) rfl (And.intro wd_971 wd_60) wd_968 wd_970 wd_33 cy_X10_uses (by omega) (by decide) (Nat.le_of_ble_eq_true rfl) rfl ?_
    refine ax_goto (tgt := 69) dX10_asks_26 (by decide) ?_
    exact ax_retv dX10_asks_69 h
set_option maxRecDepth 100000 in
set_option maxHeartbeats 4000000 in
theorem th_X10_asks {q : ax_S} {a0 : Option Nat} {a1 : Int32} {a2 : Int32} {s : ax_S} (h : fn_X10_asks a0 a1 a2 s = some q) : AC mm_X10_asks yX10_asks 1 0 0 [av_r a0, av_i a1, av_i a2] s (none, q) := by
  exact ax_met (L0 := [some (av_r a0), some (av_i a1), some (av_i a2), none]) (by decide +kernel) rfl (fun h => absurd h (by decide)) ⟨rfl, rfl, rfl, trivial⟩ (Nat.le_of_ble_eq_true rfl) trivial (tw_X10_asks h)
/-! X10_isInRange -/
abbrev mm_X10_isInRange : ax_M := (RX10, cX10_isInRange, (some .boolean), 3, false)
def fi_X10_isInRange (a0 : Option Nat) (a1 : Int32) (a2 : Int32) (s : ax_S) : Option (Int32 × ax_S) :=
  (ax_gr s 7 0 a0).bind fun r1 =>
  (fn_X10_at a1 (1) s).bind fun q2 =>
  (ax_al q2.2 9 r1 q2.1).bind fun x3 =>
  (ax_gr q2.2 7 0 a0).bind fun r4 =>
  (fn_X10_at a1 (2) q2.2).bind fun q5 =>
  (ax_al q5.2 9 r4 q5.1).bind fun x6 =>
  (fn_X10_in a2 x3 x6 q5.2).bind fun q7 =>
  some (q7.1, q7.2)
set_option maxRecDepth 100000 in
set_option maxHeartbeats 4000000 in
theorem tw_X10_isInRange {q : Int32 × ax_S} {a0 : Option Nat} {a1 : Int32} {a2 : Int32} {s : ax_S} (h : fi_X10_isInRange a0 a1 a2 s = some q) : AW mm_X10_isInRange 1 0 0 0 [some (av_r a0), some (av_i a1), some (av_i a2)] [] s (some (av_i q.1), q.2) := by
  unfold fi_X10_isInRange at h
  refine ax_iload_n (i := 2) dX10_isInRange_0 rfl rfl ?_
  refine ax_aload_n (i := 0) dX10_isInRange_1 rfl rfl ?_
  obtain ⟨r1, gr1, h⟩ := Option.bind_eq_some_iff.mp h
  refine ax_getR (q := (RX10, TX10, 28)) (t := 7) (k := 0) dX10_isInRange_2 rfl (by decide) wd_761 rfl gr1 ?_
  refine ax_iload_n (i := 1) dX10_isInRange_5 rfl rfl ?_
  refine ax_iconst (v := (1)) dX10_isInRange_6 rfl ?_
  obtain ⟨q2, gq2, h⟩ := Option.bind_eq_some_iff.mp h
  refine ax_cS (As := [av_i a1, av_i (1)]) dX10_isInRange_7 (th_X10_at gq2) (And.intro wd_863 wd_60) wd_861 wd_862 cy_X10_at (by omega) (by decide) (Nat.le_of_ble_eq_true rfl) rfl ?_
  obtain ⟨x3, gx3, h⟩ := Option.bind_eq_some_iff.mp h
  refine ax_iald dX10_isInRange_10 gx3 ?_
  refine ax_aload_n (i := 0) dX10_isInRange_11 rfl rfl ?_
  obtain ⟨r4, gr4, h⟩ := Option.bind_eq_some_iff.mp h
  refine ax_getR (q := (RX10, TX10, 28)) (t := 7) (k := 0) dX10_isInRange_12 rfl (by decide) wd_761 rfl gr4 ?_
  refine ax_iload_n (i := 1) dX10_isInRange_15 rfl rfl ?_
  refine ax_iconst (v := (2)) dX10_isInRange_16 rfl ?_
  obtain ⟨q5, gq5, h⟩ := Option.bind_eq_some_iff.mp h
  refine ax_cS (As := [av_i a1, av_i (2)]) dX10_isInRange_17 (th_X10_at gq5) (And.intro wd_863 wd_60) wd_861 wd_862 cy_X10_at (by omega) (by decide) (Nat.le_of_ble_eq_true rfl) rfl ?_
  obtain ⟨x6, gx6, h⟩ := Option.bind_eq_some_iff.mp h
  refine ax_iald dX10_isInRange_20 gx6 ?_
  obtain ⟨q7, gq7, h⟩ := Option.bind_eq_some_iff.mp h
  refine ax_cS (As := [av_i a2, av_i x3, av_i x6]) dX10_isInRange_21 (th_X10_in gq7) (And.intro wd_856 wd_60) wd_854 wd_855 cy_X10_in (by omega) (by decide) (Nat.le_of_ble_eq_true rfl) rfl ?_
  exact ax_reti dX10_isInRange_24 h
def fn_X10_isInRange (a0 : Option Nat) (a1 : Int32) (a2 : Int32) (s : ax_S) : Option (Int32 × ax_S) := ax_bz (fi_X10_isInRange a0 a1 a2 s)
set_option maxRecDepth 100000 in
set_option maxHeartbeats 4000000 in
theorem th_X10_isInRange {q : Int32 × ax_S} {a0 : Option Nat} {a1 : Int32} {a2 : Int32} {s : ax_S} (h : fn_X10_isInRange a0 a1 a2 s = some q) : AC mm_X10_isInRange yX10_isInRange 1 0 0 [av_r a0, av_i a1, av_i a2] s (some (av_i q.1), q.2) := by
  obtain ⟨h, hz⟩ := ax_bz_of h
  exact ax_met (L0 := [some (av_r a0), some (av_i a1), some (av_i a2)]) (by decide +kernel) rfl (fun h => absurd h (by decide)) ⟨rfl, rfl, rfl, trivial⟩ (Nat.le_of_ble_eq_true rfl) hz (tw_X10_isInRange h)
/-! X10_seen -/
abbrev mm_X10_seen : ax_M := (RX10, cX10_seen, (some .int), 6, false)
def fn_X10_seen (a0 : Option Nat) (a1 : Int32) (a2 : Int32) (a3 : Int32) (a4 : Int32) (s : ax_S) : Option (Int32 × ax_S) :=
  (ax_gr s 7 0 a0).bind fun r1 =>
  (fn_X10_at a1 ((3) + a2) s).bind fun q2 =>
  (ax_al q2.2 9 r1 q2.1).bind fun x3 =>
  if 0 ≤ x3 then
    (ax_gr q2.2 7 8 a0).bind fun r5 =>
    (ax_sh q2.2 7 a0).bind fun w6 =>
    (fn_X10_find a0 x3 a3 q2.2).bind fun q7 =>
    (ax_al q7.2 9 r5 (((96) * q7.1) + a4)).bind fun x8 =>
    some (x8, q7.2)
  else
    some ((0), q2.2)
set_option maxRecDepth 100000 in
set_option maxHeartbeats 4000000 in
theorem tw_X10_seen {q : Int32 × ax_S} {a0 : Option Nat} {a1 : Int32} {a2 : Int32} {a3 : Int32} {a4 : Int32} {s : ax_S} (h : fn_X10_seen a0 a1 a2 a3 a4 s = some q) : AW mm_X10_seen 1 0 0 0 [some (av_r a0), some (av_i a1), some (av_i a2), some (av_i a3), some (av_i a4), none] [] s (some (av_i q.1), q.2) := by
  unfold fn_X10_seen at h
  refine ax_aload_n (i := 0) dX10_seen_0 rfl rfl ?_
  obtain ⟨r1, gr1, h⟩ := Option.bind_eq_some_iff.mp h
  refine ax_getR (q := (RX10, TX10, 28)) (t := 7) (k := 0) dX10_seen_1 rfl (by decide) wd_761 rfl gr1 ?_
  refine ax_iload_n (i := 1) dX10_seen_4 rfl rfl ?_
  refine ax_iconst (v := (3)) dX10_seen_5 rfl ?_
  refine ax_iload_n (i := 2) dX10_seen_6 rfl rfl ?_
  refine ax_iadd dX10_seen_7 ?_
  obtain ⟨q2, gq2, h⟩ := Option.bind_eq_some_iff.mp h
  refine ax_cS (As := [av_i a1, av_i ((3) + a2)]) dX10_seen_8 (th_X10_at gq2) (And.intro wd_863 wd_60) wd_861 wd_862 cy_X10_at (by omega) (by decide) (Nat.le_of_ble_eq_true rfl) rfl ?_
  obtain ⟨x3, gx3, h⟩ := Option.bind_eq_some_iff.mp h
  refine ax_iald dX10_seen_11 gx3 ?_
  refine ax_istore (i := 5) (L2 := [some (av_r a0), some (av_i a1), some (av_i a2), some (av_i a3), some (av_i a4), some (av_i x3)]) dX10_seen_12 (by decide) rfl rfl ?_
  refine ax_iload (i := 5) dX10_seen_14 rfl ?_
  refine ax_if_ge (tgt := 23) dX10_seen_16 (by decide) (fun c4 => ?_) (fun c4 => ?_)
  · rw [if_pos c4] at h
    refine ax_aload_n (i := 0) dX10_seen_23 rfl rfl ?_
    obtain ⟨r5, gr5, h⟩ := Option.bind_eq_some_iff.mp h
    refine ax_getR (q := (RX10, TX10, 28)) (t := 7) (k := 8) dX10_seen_24 rfl (by decide) wd_769 rfl gr5 ?_
    refine ax_bipush (v := (96)) dX10_seen_27 rfl ?_
    refine ax_aload_n (i := 0) dX10_seen_29 rfl rfl ?_
    refine ax_iload (i := 5) dX10_seen_30 rfl ?_
    refine ax_iload_n (i := 3) dX10_seen_32 rfl rfl ?_
    obtain ⟨w6, gw6, h⟩ := Option.bind_eq_some_iff.mp h
    obtain ⟨q7, gq7, h⟩ := Option.bind_eq_some_iff.mp h
    refine ax_cV (As := [av_i x3, av_i a3]) (t := 7) dX10_seen_33 gw6 (th_X10_find gq7) rfl (And.intro wd_967 wd_60) wd_964 wd_966 wd_32 cy_X10_find (by omega) (by decide) (Nat.le_of_ble_eq_true rfl) rfl ?_
    refine ax_imul dX10_seen_36 ?_
    refine ax_iload (i := 4) dX10_seen_37 rfl ?_
    refine ax_iadd dX10_seen_39 ?_
    obtain ⟨x8, gx8, h⟩ := Option.bind_eq_some_iff.mp h
    refine ax_iald dX10_seen_40 gx8 ?_
    exact ax_reti dX10_seen_41 h
  · rw [if_neg c4] at h
    refine ax_iconst (v := (0)) dX10_seen_19 rfl ?_
    refine ax_goto (tgt := 41) dX10_seen_20 (by decide) ?_
    exact ax_reti dX10_seen_41 h
set_option maxRecDepth 100000 in
set_option maxHeartbeats 4000000 in
theorem th_X10_seen {q : Int32 × ax_S} {a0 : Option Nat} {a1 : Int32} {a2 : Int32} {a3 : Int32} {a4 : Int32} {s : ax_S} (h : fn_X10_seen a0 a1 a2 a3 a4 s = some q) : AC mm_X10_seen yX10_seen 1 0 0 [av_r a0, av_i a1, av_i a2, av_i a3, av_i a4] s (some (av_i q.1), q.2) := by
  exact ax_met (L0 := [some (av_r a0), some (av_i a1), some (av_i a2), some (av_i a3), some (av_i a4), none]) (by decide +kernel) rfl (fun h => absurd h (by decide)) ⟨rfl, rfl, rfl, rfl, rfl, trivial⟩ (Nat.le_of_ble_eq_true rfl) trivial (tw_X10_seen h)
/-! X10_blurred -/
abbrev mm_X10_blurred : ax_M := (RX10, cX10_blurred, (some .int), 8, false)
def fb_X10_blurred_15 : Nat → Option Nat → Int32 → Int32 → Int32 → Int32 → Int32 → Int32 → Int32 → ax_S → Option (Int32 × ax_S)
  | 0, _, _, _, _, _, _, _, _, _ => none
  | n + 1, a0, a1, a2, a3, a4, a5, a6, a7, s =>
    if ((a3 - a3 / (8) * (8)) + a4) < a7 then
      (if a6 = 0 then none else some ()).bind fun u2 =>
      some ((a5 / a6), s)
    else
      (fn_X10_in a7 (0) (7) s).bind fun q3 =>
      if q3.1 = 0 then
        (fb_X10_blurred_15 n) a0 a1 a2 a3 a4 a5 a6 (a7 + (1)) q3.2
      else
        (ax_sh q3.2 7 a0).bind fun w5 =>
        (fn_X10_seen a0 a1 (0) a2 ((a3 - (a3 - a3 / (8) * (8))) + a7) q3.2).bind fun q6 =>
        ax_bd ((a5 + q6.1)) fun v7 =>
        (fb_X10_blurred_15 n) a0 a1 a2 a3 a4 v7 (a6 + (1)) (a7 + (1)) q6.2
set_option maxRecDepth 100000 in
set_option maxHeartbeats 4000000 in
theorem tb_X10_blurred_15 {q : Int32 × ax_S} : ∀ (n : Nat) (a0 : Option Nat) (a1 : Int32) (a2 : Int32) (a3 : Int32) (a4 : Int32) (a5 : Int32) (a6 : Int32) (a7 : Int32) (s : ax_S) (h : fb_X10_blurred_15 n a0 a1 a2 a3 a4 a5 a6 a7 s = some q), AW mm_X10_blurred 2 0 0 15 [(some (av_r a0)), (some (av_i a1)), (some (av_i a2)), (some (av_i a3)), (some (av_i a4)), (some (av_i a5)), (some (av_i a6)), (some (av_i a7))] [] s (some (av_i q.1), q.2) := by
  intro n
  induction n with
  | zero =>
    intro a0 a1 a2 a3 a4 a5 a6 a7 s h
    exact ax_no h
  | succ n ih =>
    intro a0 a1 a2 a3 a4 a5 a6 a7 s h
    unfold fb_X10_blurred_15 at h
    refine ax_iload (i := 7) dX10_blurred_15 rfl ?_
    refine ax_iload_n (i := 3) dX10_blurred_17 rfl rfl ?_
    refine ax_bipush (v := (8)) dX10_blurred_18 rfl ?_
    refine ax_irem dX10_blurred_20 (by decide) ?_
    refine ax_iload (i := 4) dX10_blurred_21 rfl ?_
    refine ax_iadd dX10_blurred_23 ?_
    refine ax_icmp_gt (tgt := 68) dX10_blurred_24 (by decide) (fun c1 => ?_) (fun c1 => ?_)
    · rw [if_pos c1] at h
      refine ax_iload (i := 5) dX10_blurred_68 rfl ?_
      refine ax_iload (i := 6) dX10_blurred_70 rfl ?_
      obtain ⟨u2, gu2, h⟩ := Option.bind_eq_some_iff.mp h
      refine ax_idiv dX10_blurred_72 (ax_ne_of gu2) ?_
      exact ax_reti dX10_blurred_73 h
    · rw [if_neg c1] at h
      refine ax_iload (i := 7) dX10_blurred_27 rfl ?_
      refine ax_iconst (v := (0)) dX10_blurred_29 rfl ?_
      refine ax_bipush (v := (7)) dX10_blurred_30 rfl ?_
      obtain ⟨q3, gq3, h⟩ := Option.bind_eq_some_iff.mp h
      refine ax_cS (As := [av_i a7, av_i (0), av_i (7)]) dX10_blurred_32 (th_X10_in gq3) (And.intro wd_856 wd_60) wd_854 wd_855 cy_X10_in (by omega) (by decide) (Nat.le_of_ble_eq_true rfl) rfl ?_
      refine ax_if_eq (tgt := 62) dX10_blurred_35 (by decide) (fun c4 => ?_) (fun c4 => ?_)
      · rw [if_pos c4] at h
        refine ax_iinc (i := 7) (v := (a7 + (1))) (L2 := [some (av_r a0), some (av_i a1), some (av_i a2), some (av_i a3), some (av_i a4), some (av_i a5), some (av_i a6), some (av_i (a7 + (1)))]) dX10_blurred_62 rfl rfl (by decide) rfl rfl ?_
        refine ax_goto (tgt := 15) dX10_blurred_65 (by decide) ?_
        exact ax_less (L' := [(some (av_r a0)), (some (av_i a1)), (some (av_i a2)), (some (av_i a3)), (some (av_i a4)), (some (av_i a5)), (some (av_i a6)), (some (av_i (a7 + (1))))]) ⟨rfl, rfl, rfl, rfl, rfl, rfl, rfl, rfl, trivial⟩ (ih _ _ _ _ _ _ _ _ _ h)
      · rw [if_neg c4] at h
        refine ax_iload (i := 5) dX10_blurred_38 rfl ?_
        refine ax_aload_n (i := 0) dX10_blurred_40 rfl rfl ?_
        refine ax_iload_n (i := 1) dX10_blurred_41 rfl rfl ?_
        refine ax_iconst (v := (0)) dX10_blurred_42 rfl ?_
        refine ax_iload_n (i := 2) dX10_blurred_43 rfl rfl ?_
        refine ax_iload_n (i := 3) dX10_blurred_44 rfl rfl ?_
        refine ax_iload_n (i := 3) dX10_blurred_45 rfl rfl ?_
        refine ax_bipush (v := (8)) dX10_blurred_46 rfl ?_
        refine ax_irem dX10_blurred_48 (by decide) ?_
        refine ax_isub dX10_blurred_49 ?_
        refine ax_iload (i := 7) dX10_blurred_50 rfl ?_
        refine ax_iadd dX10_blurred_52 ?_
        obtain ⟨w5, gw5, h⟩ := Option.bind_eq_some_iff.mp h
        obtain ⟨q6, gq6, h⟩ := Option.bind_eq_some_iff.mp h
        refine ax_cV (As := [av_i a1, av_i (0), av_i a2, av_i ((a3 - (a3 - a3 / (8) * (8))) + a7)]) (t := 7) dX10_blurred_53 gw5 (th_X10_seen gq6) rfl (And.intro wd_995 wd_60) wd_992 wd_994 wd_39 cy_X10_seen (by omega) (by decide) (Nat.le_of_ble_eq_true rfl) rfl ?_
        refine ax_iadd dX10_blurred_56 ?_
        refine ax_bdI h (fun v7 h => ?_)
        refine ax_istore (i := 5) (L2 := [some (av_r a0), some (av_i a1), some (av_i a2), some (av_i a3), some (av_i a4), some (av_i v7), some (av_i a6), some (av_i a7)]) dX10_blurred_57 (by decide) rfl rfl ?_
        refine ax_iinc (i := 6) (v := (a6 + (1))) (L2 := [some (av_r a0), some (av_i a1), some (av_i a2), some (av_i a3), some (av_i a4), some (av_i v7), some (av_i (a6 + (1))), some (av_i a7)]) dX10_blurred_59 rfl rfl (by decide) rfl rfl ?_
        refine ax_iinc (i := 7) (v := (a7 + (1))) (L2 := [some (av_r a0), some (av_i a1), some (av_i a2), some (av_i a3), some (av_i a4), some (av_i v7), some (av_i (a6 + (1))), some (av_i (a7 + (1)))]) dX10_blurred_62 rfl rfl (by decide) rfl rfl ?_
        refine ax_goto (tgt := 15) dX10_blurred_65 (by decide) ?_
        exact ax_less (L' := [(some (av_r a0)), (some (av_i a1)), (some (av_i a2)), (some (av_i a3)), (some (av_i a4)), (some (av_i v7)), (some (av_i (a6 + (1)))), (some (av_i (a7 + (1))))]) ⟨rfl, rfl, rfl, rfl, rfl, rfl, rfl, rfl, trivial⟩ (ih _ _ _ _ _ _ _ _ _ h)
def fn_X10_blurred (a0 : Option Nat) (a1 : Int32) (a2 : Int32) (a3 : Int32) (a4 : Int32) (s : ax_S) : Option (Int32 × ax_S) :=
  ax_bd (((a3 - a3 / (8) * (8)) - a4)) fun v8 =>
  fb_X10_blurred_15 10000 a0 a1 a2 a3 a4 (0) (0) v8 s
set_option maxRecDepth 100000 in
set_option maxHeartbeats 4000000 in
theorem tw_X10_blurred {q : Int32 × ax_S} {a0 : Option Nat} {a1 : Int32} {a2 : Int32} {a3 : Int32} {a4 : Int32} {s : ax_S} (h : fn_X10_blurred a0 a1 a2 a3 a4 s = some q) : AW mm_X10_blurred 2 0 0 0 [some (av_r a0), some (av_i a1), some (av_i a2), some (av_i a3), some (av_i a4), none, none, none] [] s (some (av_i q.1), q.2) := by
  unfold fn_X10_blurred at h
  refine ax_iconst (v := (0)) dX10_blurred_0 rfl ?_
  refine ax_istore (i := 5) (L2 := [some (av_r a0), some (av_i a1), some (av_i a2), some (av_i a3), some (av_i a4), some (av_i (0)), none, none]) dX10_blurred_1 (by decide) rfl rfl ?_
  refine ax_iconst (v := (0)) dX10_blurred_3 rfl ?_
  refine ax_istore (i := 6) (L2 := [some (av_r a0), some (av_i a1), some (av_i a2), some (av_i a3), some (av_i a4), some (av_i (0)), some (av_i (0)), none]) dX10_blurred_4 (by decide) rfl rfl ?_
  refine ax_iload_n (i := 3) dX10_blurred_6 rfl rfl ?_
  refine ax_bipush (v := (8)) dX10_blurred_7 rfl ?_
  refine ax_irem dX10_blurred_9 (by decide) ?_
  refine ax_iload (i := 4) dX10_blurred_10 rfl ?_
  refine ax_isub dX10_blurred_12 ?_
  refine ax_bdI h (fun v8 h => ?_)
  refine ax_istore (i := 7) (L2 := [some (av_r a0), some (av_i a1), some (av_i a2), some (av_i a3), some (av_i a4), some (av_i (0)), some (av_i (0)), some (av_i v8)]) dX10_blurred_13 (by decide) rfl rfl ?_
  exact ax_less (L' := [(some (av_r a0)), (some (av_i a1)), (some (av_i a2)), (some (av_i a3)), (some (av_i a4)), (some (av_i (0))), (some (av_i (0))), (some (av_i v8))]) ⟨rfl, rfl, rfl, rfl, rfl, rfl, rfl, rfl, trivial⟩ (tb_X10_blurred_15  _ _ _ _ _ _ _ _ _ _ h)
set_option maxRecDepth 100000 in
set_option maxHeartbeats 4000000 in
theorem th_X10_blurred {q : Int32 × ax_S} {a0 : Option Nat} {a1 : Int32} {a2 : Int32} {a3 : Int32} {a4 : Int32} {s : ax_S} (h : fn_X10_blurred a0 a1 a2 a3 a4 s = some q) : AC mm_X10_blurred yX10_blurred 2 0 0 [av_r a0, av_i a1, av_i a2, av_i a3, av_i a4] s (some (av_i q.1), q.2) := by
  exact ax_met (L0 := [some (av_r a0), some (av_i a1), some (av_i a2), some (av_i a3), some (av_i a4), none, none, none]) (by decide +kernel) rfl (fun h => absurd h (by decide)) ⟨rfl, rfl, rfl, rfl, rfl, trivial⟩ (Nat.le_of_ble_eq_true rfl) trivial (tw_X10_blurred h)
/-! X10_keyed -/
abbrev mm_X10_keyed : ax_M := (RX10, cX10_keyed, (some .int), 5, false)
def fb_X10_keyed_30 (a3 : Int32) (b0 : Int32) (s : ax_S) : Option (Int32 × ax_S) :=
  if b0 = 0 then
    some ((255), s)
  else
    if b0 ≤ a3 then
      (if (a3 + (1)) = 0 then none else some ()).bind fun u3 =>
      some (((255) - (((255) * b0) / (a3 + (1)))), s)
    else
      some ((0), s)
set_option maxRecDepth 100000 in
set_option maxHeartbeats 4000000 in
theorem tb_X10_keyed_30 {q : Int32 × ax_S} {a3 : Int32} {b0 : Int32} {s : ax_S} (h : fb_X10_keyed_30 a3 b0 s = some q) : AW mm_X10_keyed 0 0 0 30 [none, none, none, (some (av_i a3)), none] [av_i b0] s (some (av_i q.1), q.2) := by
  unfold fb_X10_keyed_30 at h
  refine ax_istore (i := 4) (L2 := [none, none, none, some (av_i a3), some (av_i b0)]) dX10_keyed_30 (by decide) rfl rfl ?_
  refine ax_iload (i := 4) dX10_keyed_32 rfl ?_
  refine ax_if_ne (tgt := 43) dX10_keyed_34 (by decide) (fun c1 => ?_) (fun c1 => ?_)
  · rw [if_neg c1] at h
    refine ax_iload (i := 4) dX10_keyed_43 rfl ?_
    refine ax_iload_n (i := 3) dX10_keyed_45 rfl rfl ?_
    refine ax_icmp_le (tgt := 53) dX10_keyed_46 (by decide) (fun c2 => ?_) (fun c2 => ?_)
    · rw [if_pos c2] at h
      refine ax_sipush (v := (255)) dX10_keyed_53 rfl ?_
      refine ax_sipush (v := (255)) dX10_keyed_56 rfl ?_
      refine ax_iload (i := 4) dX10_keyed_59 rfl ?_
      refine ax_imul dX10_keyed_61 ?_
      refine ax_iload_n (i := 3) dX10_keyed_62 rfl rfl ?_
      refine ax_iconst (v := (1)) dX10_keyed_63 rfl ?_
      refine ax_iadd dX10_keyed_64 ?_
      obtain ⟨u3, gu3, h⟩ := Option.bind_eq_some_iff.mp h
      refine ax_idiv dX10_keyed_65 (ax_ne_of gu3) ?_
      refine ax_isub dX10_keyed_66 ?_
      exact ax_reti dX10_keyed_67 h
    · rw [if_neg c2] at h
      refine ax_iconst (v := (0)) dX10_keyed_49 rfl ?_
      refine ax_goto (tgt := 67) dX10_keyed_50 (by decide) ?_
      exact ax_reti dX10_keyed_67 h
  · rw [if_pos c1] at h
    refine ax_sipush (v := (255)) dX10_keyed_37 rfl ?_
    refine ax_goto (tgt := 67) dX10_keyed_40 (by decide) ?_
    exact ax_reti dX10_keyed_67 h
def fn_X10_keyed (a0 : Int32) (a1 : Int32) (a2 : Int32) (a3 : Int32) (s : ax_S) : Option (Int32 × ax_S) :=
  if a1 ≤ a2 then
    if a1 ≤ a0 then
      if a0 ≤ a2 then
        fb_X10_keyed_30 a3 (0) s
      else
        fb_X10_keyed_30 a3 (a0 - a2) s
    else
      fb_X10_keyed_30 a3 (a1 - a0) s
  else
    some ((0), s)
set_option maxRecDepth 100000 in
set_option maxHeartbeats 4000000 in
theorem tw_X10_keyed {q : Int32 × ax_S} {a0 : Int32} {a1 : Int32} {a2 : Int32} {a3 : Int32} {s : ax_S} (h : fn_X10_keyed a0 a1 a2 a3 s = some q) : AW mm_X10_keyed 0 0 0 0 [some (av_i a0), some (av_i a1), some (av_i a2), some (av_i a3), none] [] s (some (av_i q.1), q.2) := by
  unfold fn_X10_keyed at h
  refine ax_iload_n (i := 1) dX10_keyed_0 rfl rfl ?_
  refine ax_iload_n (i := 2) dX10_keyed_1 rfl rfl ?_
  refine ax_icmp_le (tgt := 7) dX10_keyed_2 (by decide) (fun c4 => ?_) (fun c4 => ?_)
  · rw [if_pos c4] at h
    refine ax_iload_n (i := 0) dX10_keyed_7 rfl rfl ?_
    refine ax_iload_n (i := 1) dX10_keyed_8 rfl rfl ?_
    refine ax_icmp_ge (tgt := 18) dX10_keyed_9 (by decide) (fun c5 => ?_) (fun c5 => ?_)
    · rw [if_pos c5] at h
      refine ax_iload_n (i := 0) dX10_keyed_18 rfl rfl ?_
      refine ax_iload_n (i := 2) dX10_keyed_19 rfl rfl ?_
      refine ax_icmp_le (tgt := 29) dX10_keyed_20 (by decide) (fun c6 => ?_) (fun c6 => ?_)
      · rw [if_pos c6] at h
        refine ax_iconst (v := (0)) dX10_keyed_29 rfl ?_
        exact ax_less (L' := [none, none, none, (some (av_i a3)), none]) ⟨rfl, trivial⟩ (tb_X10_keyed_30  h)
      · rw [if_neg c6] at h
        refine ax_iload_n (i := 0) dX10_keyed_23 rfl rfl ?_
        refine ax_iload_n (i := 2) dX10_keyed_24 rfl rfl ?_
        refine ax_isub dX10_keyed_25 ?_
        refine ax_goto (tgt := 30) dX10_keyed_26 (by decide) ?_
        exact ax_less (L' := [none, none, none, (some (av_i a3)), none]) ⟨rfl, trivial⟩ (tb_X10_keyed_30  h)
    · rw [if_neg c5] at h
      refine ax_iload_n (i := 1) dX10_keyed_12 rfl rfl ?_
      refine ax_iload_n (i := 0) dX10_keyed_13 rfl rfl ?_
      refine ax_isub dX10_keyed_14 ?_
      refine ax_goto (tgt := 30) dX10_keyed_15 (by decide) ?_
      exact ax_less (L' := [none, none, none, (some (av_i a3)), none]) ⟨rfl, trivial⟩ (tb_X10_keyed_30  h)
  · rw [if_neg c4] at h
    refine ax_iconst (v := (0)) dX10_keyed_5 rfl ?_
    exact ax_reti dX10_keyed_6 h
set_option maxRecDepth 100000 in
set_option maxHeartbeats 4000000 in
theorem th_X10_keyed {q : Int32 × ax_S} {a0 : Int32} {a1 : Int32} {a2 : Int32} {a3 : Int32} {s : ax_S} (h : fn_X10_keyed a0 a1 a2 a3 s = some q) : AC mm_X10_keyed yX10_keyed 0 0 0 [av_i a0, av_i a1, av_i a2, av_i a3] s (some (av_i q.1), q.2) := by
  exact ax_met (L0 := [some (av_i a0), some (av_i a1), some (av_i a2), some (av_i a3), none]) (by decide +kernel) rfl (fun h => absurd h (by decide)) ⟨rfl, rfl, rfl, rfl, trivial⟩ (Nat.le_of_ble_eq_true rfl) trivial (tw_X10_keyed h)
/-! X10_limit -/
abbrev mm_X10_limit : ax_M := (RX10, cX10_limit, (some .int), 1, false)
def fn_X10_limit (a0 : Int32) (s : ax_S) : Option (Int32 × ax_S) :=
  if 0 ≤ a0 then
    if a0 ≤ (255) then
      some (a0, s)
    else
      some ((255), s)
  else
    some ((0), s)
set_option maxRecDepth 100000 in
set_option maxHeartbeats 4000000 in
theorem tw_X10_limit {q : Int32 × ax_S} {a0 : Int32} {s : ax_S} (h : fn_X10_limit a0 s = some q) : AW mm_X10_limit 0 0 0 0 [some (av_i a0)] [] s (some (av_i q.1), q.2) := by
  unfold fn_X10_limit at h
  refine ax_iload_n (i := 0) dX10_limit_0 rfl rfl ?_
  refine ax_if_ge (tgt := 8) dX10_limit_1 (by decide) (fun c1 => ?_) (fun c1 => ?_)
  · rw [if_pos c1] at h
    refine ax_iload_n (i := 0) dX10_limit_8 rfl rfl ?_
    refine ax_sipush (v := (255)) dX10_limit_9 rfl ?_
    refine ax_icmp_le (tgt := 21) dX10_limit_12 (by decide) (fun c2 => ?_) (fun c2 => ?_)
    · rw [if_pos c2] at h
      refine ax_iload_n (i := 0) dX10_limit_21 rfl rfl ?_
      exact ax_reti dX10_limit_22 h
    · rw [if_neg c2] at h
      refine ax_sipush (v := (255)) dX10_limit_15 rfl ?_
      refine ax_goto (tgt := 22) dX10_limit_18 (by decide) ?_
      exact ax_reti dX10_limit_22 h
  · rw [if_neg c1] at h
    refine ax_iconst (v := (0)) dX10_limit_4 rfl ?_
    refine ax_goto (tgt := 22) dX10_limit_5 (by decide) ?_
    exact ax_reti dX10_limit_22 h
set_option maxRecDepth 100000 in
set_option maxHeartbeats 4000000 in
theorem th_X10_limit {q : Int32 × ax_S} {a0 : Int32} {s : ax_S} (h : fn_X10_limit a0 s = some q) : AC mm_X10_limit yX10_limit 0 0 0 [av_i a0] s (some (av_i q.1), q.2) := by
  exact ax_met (L0 := [some (av_i a0)]) (by decide +kernel) rfl (fun h => absurd h (by decide)) ⟨rfl, trivial⟩ (Nat.le_of_ble_eq_true rfl) trivial (tw_X10_limit h)
/-! X10_made -/
abbrev mm_X10_made : ax_M := (RX10, cX10_made, (some .int), 7, false)
def fn_X10_made (a0 : Option Nat) (a1 : Int32) (a2 : Int32) (a3 : Int32) (s : ax_S) : Option (Int32 × ax_S) :=
  (ax_sh s 7 a0).bind fun w1 =>
  (fn_X10_kind a0 a1 s).bind fun q2 =>
  (ax_sh q2.2 7 a0).bind fun w3 =>
  (fn_X10_isInRange a0 a1 a2 q2.2).bind fun q4 =>
  if q4.1 = 0 then
    if q2.1 = 0 then
      some ((0), q4.2)
    else
      (ax_sh q4.2 7 a0).bind fun w52 =>
      (fn_X10_seen a0 a1 (0) a2 a3 q4.2).bind fun q53 =>
      some (q53.1, q53.2)
  else
    ax_bd ((a3 / (32))) fun v6 =>
    (fn_X10_at a1 (6) q4.2).bind fun q7 =>
    if q2.1 = 0 then
      (ax_gr q7.2 7 0 a0).bind fun r9 =>
      (ax_al q7.2 9 r9 q7.1).bind fun x10 =>
      some (((((((((7) * x10) + ((31) * (a3 - a3 / (8) * (8)))) + ((17) * ((a3 / (8)) - (a3 / (8)) / (4) * (4)))) + ((11) * a2)) + ((53) * v6)) + (((a3 - a3 / (8) * (8)) * ((a3 / (8)) - (a3 / (8)) / (4) * (4))) * a2)) - (((((((7) * x10) + ((31) * (a3 - a3 / (8) * (8)))) + ((17) * ((a3 / (8)) - (a3 / (8)) / (4) * (4)))) + ((11) * a2)) + ((53) * v6)) + (((a3 - a3 / (8) * (8)) * ((a3 / (8)) - (a3 / (8)) / (4) * (4))) * a2)) / (256) * (256)), q7.2)
    else
    if q2.1 = 1 then
      (ax_sh q7.2 7 a0).bind fun w12 =>
      (fn_X10_seen a0 a1 (0) a2 a3 q7.2).bind fun q13 =>
      (ax_gr q13.2 7 0 a0).bind fun r14 =>
      (ax_al q13.2 9 r14 (q7.1 + v6)).bind fun x15 =>
      (fn_X10_limit ((q13.1 * x15) / (16)) q13.2).bind fun q16 =>
      some (q16.1, q16.2)
    else
    if q2.1 = 2 then
      (ax_sh q7.2 7 a0).bind fun w18 =>
      (fn_X10_seen a0 a1 (0) a2 a3 q7.2).bind fun q19 =>
      (ax_gr q19.2 7 0 a0).bind fun r20 =>
      (ax_al q19.2 9 r20 (q7.1 + v6)).bind fun x21 =>
      (fn_X10_limit (q19.1 + x21) q19.2).bind fun q22 =>
      some (q22.1, q22.2)
    else
    if q2.1 = 3 then
      (ax_sh q7.2 7 a0).bind fun w24 =>
      (fn_X10_seen a0 a1 (0) a2 a3 q7.2).bind fun q25 =>
      some (((255) - q25.1), q25.2)
    else
    if q2.1 = 4 then
      (ax_gr q7.2 7 0 a0).bind fun r27 =>
      (ax_al q7.2 9 r27 q7.1).bind fun x28 =>
      (ax_sh q7.2 7 a0).bind fun w29 =>
      (fn_X10_blurred a0 a1 a2 a3 x28 q7.2).bind fun q30 =>
      some (q30.1, q30.2)
    else
    if q2.1 = 5 then
      (ax_gr q7.2 7 0 a0).bind fun r32 =>
      (ax_al q7.2 9 r32 q7.1).bind fun x33 =>
      (ax_sh q7.2 7 a0).bind fun w34 =>
      (fn_X10_seen a0 a1 (0) a2 (((32) * x33) + (a3 - a3 / (32) * (32))) q7.2).bind fun q35 =>
      (ax_gr q35.2 7 0 a0).bind fun r36 =>
      (ax_al q35.2 9 r36 (q7.1 + (1))).bind fun x37 =>
      (ax_gr q35.2 7 0 a0).bind fun r38 =>
      (ax_al q35.2 9 r38 (q7.1 + (2))).bind fun x39 =>
      (ax_gr q35.2 7 0 a0).bind fun r40 =>
      (ax_al q35.2 9 r40 (q7.1 + (3))).bind fun x41 =>
      (fn_X10_keyed q35.1 x37 x39 x41 q35.2).bind fun q42 =>
      some (q42.1, q42.2)
    else
    (ax_sh q7.2 7 a0).bind fun w43 =>
    (fn_X10_seen a0 a1 (0) a2 a3 q7.2).bind fun q44 =>
    (ax_sh q44.2 7 a0).bind fun w45 =>
    (fn_X10_seen a0 a1 (2) a2 a3 q44.2).bind fun q46 =>
    (ax_sh q46.2 7 a0).bind fun w47 =>
    (fn_X10_seen a0 a1 (1) a2 a3 q46.2).bind fun q48 =>
    (ax_sh q48.2 7 a0).bind fun w49 =>
    (fn_X10_seen a0 a1 (2) a2 a3 q48.2).bind fun q50 =>
    some ((((q44.1 * ((255) - q46.1)) + (q48.1 * q50.1)) / (255)), q50.2)
set_option maxRecDepth 100000 in
set_option maxHeartbeats 4000000 in
theorem tw_X10_made {q : Int32 × ax_S} {a0 : Option Nat} {a1 : Int32} {a2 : Int32} {a3 : Int32} {s : ax_S} (h : fn_X10_made a0 a1 a2 a3 s = some q) : AW mm_X10_made 3 0 0 0 [some (av_r a0), some (av_i a1), some (av_i a2), some (av_i a3), none, none, none] [] s (some (av_i q.1), q.2) := by
  unfold fn_X10_made at h
  refine ax_aload_n (i := 0) dX10_made_0 rfl rfl ?_
  refine ax_iload_n (i := 1) dX10_made_1 rfl rfl ?_
  obtain ⟨w1, gw1, h⟩ := Option.bind_eq_some_iff.mp h
  obtain ⟨q2, gq2, h⟩ := Option.bind_eq_some_iff.mp h
  refine ax_cV (As := [av_i a1]) (t := 7) dX10_made_2 gw1 (th_X10_kind gq2) rfl (And.intro wd_882 wd_60) wd_879 wd_881 wd_20 cy_X10_kind (by omega) (by decide) (Nat.le_of_ble_eq_true rfl) rfl ?_
  refine ax_istore (i := 4) (L2 := [some (av_r a0), some (av_i a1), some (av_i a2), some (av_i a3), some (av_i q2.1), none, none]) dX10_made_5 (by decide) rfl rfl ?_
  refine ax_aload_n (i := 0) dX10_made_7 rfl rfl ?_
  refine ax_iload_n (i := 1) dX10_made_8 rfl rfl ?_
  refine ax_iload_n (i := 2) dX10_made_9 rfl rfl ?_
  obtain ⟨w3, gw3, h⟩ := Option.bind_eq_some_iff.mp h
  obtain ⟨q4, gq4, h⟩ := Option.bind_eq_some_iff.mp h
  refine ax_cV (As := [av_i a1, av_i a2]) (t := 7) dX10_made_10 gw3 (th_X10_isInRange gq4) rfl (And.intro wd_975 wd_60) wd_972 wd_974 wd_34 cy_X10_isInRange (by omega) (by decide) (Nat.le_of_ble_eq_true rfl) rfl ?_
  refine ax_if_ne (tgt := 34) dX10_made_13 (by decide) (fun c5 => ?_) (fun c5 => ?_)
  · rw [if_neg c5] at h
    refine ax_iload_n (i := 3) dX10_made_34 rfl rfl ?_
    refine ax_bipush (v := (32)) dX10_made_35 rfl ?_
    refine ax_idiv dX10_made_37 (by decide) ?_
    refine ax_bdI h (fun v6 h => ?_)
    refine ax_istore (i := 5) (L2 := [some (av_r a0), some (av_i a1), some (av_i a2), some (av_i a3), some (av_i q2.1), some (av_i v6), none]) dX10_made_38 (by decide) rfl rfl ?_
    refine ax_iload_n (i := 1) dX10_made_40 rfl rfl ?_
    refine ax_bipush (v := (6)) dX10_made_41 rfl ?_
    obtain ⟨q7, gq7, h⟩ := Option.bind_eq_some_iff.mp h
    refine ax_cS (As := [av_i a1, av_i (6)]) dX10_made_43 (th_X10_at gq7) (And.intro wd_863 wd_60) wd_861 wd_862 cy_X10_at (by omega) (by decide) (Nat.le_of_ble_eq_true rfl) rfl ?_
    refine ax_istore (i := 6) (L2 := [some (av_r a0), some (av_i a1), some (av_i a2), some (av_i a3), some (av_i q2.1), some (av_i v6), some (av_i q7.1)]) dX10_made_46 (by decide) rfl rfl ?_
    refine ax_iload (i := 4) dX10_made_48 rfl ?_
    by_cases c8 : q2.1 = 0
    · rw [if_pos c8] at h
      refine ax_swC (c := 0) (off := 38) (tgt := 88) dX10_made_50 c8 (by decide) (by decide) (by decide) rfl (by decide) ?_
      refine ax_bipush (v := (7)) dX10_made_88 rfl ?_
      refine ax_aload_n (i := 0) dX10_made_90 rfl rfl ?_
      obtain ⟨r9, gr9, h⟩ := Option.bind_eq_some_iff.mp h
      refine ax_getR (q := (RX10, TX10, 28)) (t := 7) (k := 0) dX10_made_91 rfl (by decide) wd_761 rfl gr9 ?_
      refine ax_iload (i := 6) dX10_made_94 rfl ?_
      obtain ⟨x10, gx10, h⟩ := Option.bind_eq_some_iff.mp h
      refine ax_iald dX10_made_96 gx10 ?_
      refine ax_imul dX10_made_97 ?_
      refine ax_bipush (v := (31)) dX10_made_98 rfl ?_
      refine ax_iload_n (i := 3) dX10_made_100 rfl rfl ?_
      refine ax_bipush (v := (8)) dX10_made_101 rfl ?_
      refine ax_irem dX10_made_103 (by decide) ?_
      refine ax_imul dX10_made_104 ?_
      refine ax_iadd dX10_made_105 ?_
      refine ax_bipush (v := (17)) dX10_made_106 rfl ?_
      refine ax_iload_n (i := 3) dX10_made_108 rfl rfl ?_
      refine ax_bipush (v := (8)) dX10_made_109 rfl ?_
      refine ax_idiv dX10_made_111 (by decide) ?_
      refine ax_iconst (v := (4)) dX10_made_112 rfl ?_
      refine ax_irem dX10_made_113 (by decide) ?_
      refine ax_imul dX10_made_114 ?_
      refine ax_iadd dX10_made_115 ?_
      refine ax_bipush (v := (11)) dX10_made_116 rfl ?_
      refine ax_iload_n (i := 2) dX10_made_118 rfl rfl ?_
      refine ax_imul dX10_made_119 ?_
      refine ax_iadd dX10_made_120 ?_
      refine ax_bipush (v := (53)) dX10_made_121 rfl ?_
      refine ax_iload (i := 5) dX10_made_123 rfl ?_
      refine ax_imul dX10_made_125 ?_
      refine ax_iadd dX10_made_126 ?_
      refine ax_iload_n (i := 3) dX10_made_127 rfl rfl ?_
      refine ax_bipush (v := (8)) dX10_made_128 rfl ?_
      refine ax_irem dX10_made_130 (by decide) ?_
      refine ax_iload_n (i := 3) dX10_made_131 rfl rfl ?_
      refine ax_bipush (v := (8)) dX10_made_132 rfl ?_
      refine ax_idiv dX10_made_134 (by decide) ?_
      refine ax_iconst (v := (4)) dX10_made_135 rfl ?_
      refine ax_irem dX10_made_136 (by decide) ?_
      refine ax_imul dX10_made_137 ?_
      refine ax_iload_n (i := 2) dX10_made_138 rfl rfl ?_
      refine ax_imul dX10_made_139 ?_
      refine ax_iadd dX10_made_140 ?_
      refine ax_sipush (v := (256)) dX10_made_141 rfl ?_
      refine ax_irem dX10_made_144 (by decide) ?_
      exact ax_reti dX10_made_145 h
    rw [if_neg c8] at h
    by_cases c11 : q2.1 = 1
    · rw [if_pos c11] at h
      refine ax_swC (c := 1) (off := 96) (tgt := 146) dX10_made_50 c11 (by decide) (by decide) (by decide) rfl (by decide) ?_
      refine ax_aload_n (i := 0) dX10_made_146 rfl rfl ?_
      refine ax_iload_n (i := 1) dX10_made_147 rfl rfl ?_
      refine ax_iconst (v := (0)) dX10_made_148 rfl ?_
      refine ax_iload_n (i := 2) dX10_made_149 rfl rfl ?_
      refine ax_iload_n (i := 3) dX10_made_150 rfl rfl ?_
      obtain ⟨w12, gw12, h⟩ := Option.bind_eq_some_iff.mp h
      obtain ⟨q13, gq13, h⟩ := Option.bind_eq_some_iff.mp h
      refine ax_cV (As := [av_i a1, av_i (0), av_i a2, av_i a3]) (t := 7) dX10_made_151 gw12 (th_X10_seen gq13) rfl (And.intro wd_995 wd_60) wd_992 wd_994 wd_39 cy_X10_seen (by omega) (by decide) (Nat.le_of_ble_eq_true rfl) rfl ?_
      refine ax_aload_n (i := 0) dX10_made_154 rfl rfl ?_
      obtain ⟨r14, gr14, h⟩ := Option.bind_eq_some_iff.mp h
      refine ax_getR (q := (RX10, TX10, 28)) (t := 7) (k := 0) dX10_made_155 rfl (by decide) wd_761 rfl gr14 ?_
      refine ax_iload (i := 6) dX10_made_158 rfl ?_
      refine ax_iload (i := 5) dX10_made_160 rfl ?_
      refine ax_iadd dX10_made_162 ?_
      obtain ⟨x15, gx15, h⟩ := Option.bind_eq_some_iff.mp h
      refine ax_iald dX10_made_163 gx15 ?_
      refine ax_imul dX10_made_164 ?_
      refine ax_bipush (v := (16)) dX10_made_165 rfl ?_
      refine ax_idiv dX10_made_167 (by decide) ?_
      obtain ⟨q16, gq16, h⟩ := Option.bind_eq_some_iff.mp h
      refine ax_cS (As := [av_i ((q13.1 * x15) / (16))]) dX10_made_168 (th_X10_limit gq16) (And.intro wd_998 wd_60) wd_996 wd_997 cy_X10_limit (by omega) (by decide) (Nat.le_of_ble_eq_true rfl) rfl ?_
      exact ax_reti dX10_made_171 h
    rw [if_neg c11] at h
    by_cases c17 : q2.1 = 2
    · rw [if_pos c17] at h
      refine ax_swC (c := 2) (off := 122) (tgt := 172) dX10_made_50 c17 (by decide) (by decide) (by decide) rfl (by decide) ?_
      refine ax_aload_n (i := 0) dX10_made_172 rfl rfl ?_
      refine ax_iload_n (i := 1) dX10_made_173 rfl rfl ?_
      refine ax_iconst (v := (0)) dX10_made_174 rfl ?_
      refine ax_iload_n (i := 2) dX10_made_175 rfl rfl ?_
      refine ax_iload_n (i := 3) dX10_made_176 rfl rfl ?_
      obtain ⟨w18, gw18, h⟩ := Option.bind_eq_some_iff.mp h
      obtain ⟨q19, gq19, h⟩ := Option.bind_eq_some_iff.mp h
      refine ax_cV (As := [av_i a1, av_i (0), av_i a2, av_i a3]) (t := 7) dX10_made_177 gw18 (th_X10_seen gq19) rfl (And.intro wd_995 wd_60) wd_992 wd_994 wd_39 cy_X10_seen (by omega) (by decide) (Nat.le_of_ble_eq_true rfl) rfl ?_
      refine ax_aload_n (i := 0) dX10_made_180 rfl rfl ?_
      obtain ⟨r20, gr20, h⟩ := Option.bind_eq_some_iff.mp h
      refine ax_getR (q := (RX10, TX10, 28)) (t := 7) (k := 0) dX10_made_181 rfl (by decide) wd_761 rfl gr20 ?_
      refine ax_iload (i := 6) dX10_made_184 rfl ?_
      refine ax_iload (i := 5) dX10_made_186 rfl ?_
      refine ax_iadd dX10_made_188 ?_
      obtain ⟨x21, gx21, h⟩ := Option.bind_eq_some_iff.mp h
      refine ax_iald dX10_made_189 gx21 ?_
      refine ax_iadd dX10_made_190 ?_
      obtain ⟨q22, gq22, h⟩ := Option.bind_eq_some_iff.mp h
      refine ax_cS (As := [av_i (q19.1 + x21)]) dX10_made_191 (th_X10_limit gq22) (And.intro wd_998 wd_60) wd_996 wd_997 cy_X10_limit (by omega) (by decide) (Nat.le_of_ble_eq_true rfl) rfl ?_
      exact ax_reti dX10_made_194 h
    rw [if_neg c17] at h
    by_cases c23 : q2.1 = 3
    · rw [if_pos c23] at h
      refine ax_swC (c := 3) (off := 145) (tgt := 195) dX10_made_50 c23 (by decide) (by decide) (by decide) rfl (by decide) ?_
      refine ax_sipush (v := (255)) dX10_made_195 rfl ?_
      refine ax_aload_n (i := 0) dX10_made_198 rfl rfl ?_
      refine ax_iload_n (i := 1) dX10_made_199 rfl rfl ?_
      refine ax_iconst (v := (0)) dX10_made_200 rfl ?_
      refine ax_iload_n (i := 2) dX10_made_201 rfl rfl ?_
      refine ax_iload_n (i := 3) dX10_made_202 rfl rfl ?_
      obtain ⟨w24, gw24, h⟩ := Option.bind_eq_some_iff.mp h
      obtain ⟨q25, gq25, h⟩ := Option.bind_eq_some_iff.mp h
      refine ax_cV (As := [av_i a1, av_i (0), av_i a2, av_i a3]) (t := 7) dX10_made_203 gw24 (th_X10_seen gq25) rfl (And.intro wd_995 wd_60) wd_992 wd_994 wd_39 cy_X10_seen (by omega) (by decide) (Nat.le_of_ble_eq_true rfl) rfl ?_
      refine ax_isub dX10_made_206 ?_
      exact ax_reti dX10_made_207 h
    rw [if_neg c23] at h
    by_cases c26 : q2.1 = 4
    · rw [if_pos c26] at h
      refine ax_swC (c := 4) (off := 158) (tgt := 208) dX10_made_50 c26 (by decide) (by decide) (by decide) rfl (by decide) ?_
      refine ax_aload_n (i := 0) dX10_made_208 rfl rfl ?_
      refine ax_iload_n (i := 1) dX10_made_209 rfl rfl ?_
      refine ax_iload_n (i := 2) dX10_made_210 rfl rfl ?_
      refine ax_iload_n (i := 3) dX10_made_211 rfl rfl ?_
      refine ax_aload_n (i := 0) dX10_made_212 rfl rfl ?_
      obtain ⟨r27, gr27, h⟩ := Option.bind_eq_some_iff.mp h
      refine ax_getR (q := (RX10, TX10, 28)) (t := 7) (k := 0) dX10_made_213 rfl (by decide) wd_761 rfl gr27 ?_
      refine ax_iload (i := 6) dX10_made_216 rfl ?_
      obtain ⟨x28, gx28, h⟩ := Option.bind_eq_some_iff.mp h
      refine ax_iald dX10_made_218 gx28 ?_
      obtain ⟨w29, gw29, h⟩ := Option.bind_eq_some_iff.mp h
      obtain ⟨q30, gq30, h⟩ := Option.bind_eq_some_iff.mp h
      refine ax_cV (As := [av_i a1, av_i a2, av_i a3, av_i x28]) (t := 7) dX10_made_219 gw29 (th_X10_blurred gq30) rfl (And.intro wd_1002 wd_60) wd_999 wd_1001 wd_40 cy_X10_blurred (by omega) (by decide) (Nat.le_of_ble_eq_true rfl) rfl ?_
      exact ax_reti dX10_made_222 h
    rw [if_neg c26] at h
    by_cases c31 : q2.1 = 5
    · rw [if_pos c31] at h
      refine ax_swC (c := 5) (off := 173) (tgt := 223) dX10_made_50 c31 (by decide) (by decide) (by decide) rfl (by decide) ?_
      refine ax_aload_n (i := 0) dX10_made_223 rfl rfl ?_
      refine ax_iload_n (i := 1) dX10_made_224 rfl rfl ?_
      refine ax_iconst (v := (0)) dX10_made_225 rfl ?_
      refine ax_iload_n (i := 2) dX10_made_226 rfl rfl ?_
      refine ax_bipush (v := (32)) dX10_made_227 rfl ?_
      refine ax_aload_n (i := 0) dX10_made_229 rfl rfl ?_
      obtain ⟨r32, gr32, h⟩ := Option.bind_eq_some_iff.mp h
      refine ax_getR (q := (RX10, TX10, 28)) (t := 7) (k := 0) dX10_made_230 rfl (by decide) wd_761 rfl gr32 ?_
      refine ax_iload (i := 6) dX10_made_233 rfl ?_
      obtain ⟨x33, gx33, h⟩ := Option.bind_eq_some_iff.mp h
      refine ax_iald dX10_made_235 gx33 ?_
      refine ax_imul dX10_made_236 ?_
      refine ax_iload_n (i := 3) dX10_made_237 rfl rfl ?_
      refine ax_bipush (v := (32)) dX10_made_238 rfl ?_
      refine ax_irem dX10_made_240 (by decide) ?_
      refine ax_iadd dX10_made_241 ?_
      obtain ⟨w34, gw34, h⟩ := Option.bind_eq_some_iff.mp h
      obtain ⟨q35, gq35, h⟩ := Option.bind_eq_some_iff.mp h
      refine ax_cV (As := [av_i a1, av_i (0), av_i a2, av_i (((32) * x33) + (a3 - a3 / (32) * (32)))]) (t := 7) dX10_made_242 gw34 (th_X10_seen gq35) rfl (And.intro wd_995 wd_60) wd_992 wd_994 wd_39 cy_X10_seen (by omega) (by decide) (Nat.le_of_ble_eq_true rfl) rfl ?_
      refine ax_aload_n (i := 0) dX10_made_245 rfl rfl ?_
      obtain ⟨r36, gr36, h⟩ := Option.bind_eq_some_iff.mp h
      refine ax_getR (q := (RX10, TX10, 28)) (t := 7) (k := 0) dX10_made_246 rfl (by decide) wd_761 rfl gr36 ?_
      refine ax_iload (i := 6) dX10_made_249 rfl ?_
      refine ax_iconst (v := (1)) dX10_made_251 rfl ?_
      refine ax_iadd dX10_made_252 ?_
      obtain ⟨x37, gx37, h⟩ := Option.bind_eq_some_iff.mp h
      refine ax_iald dX10_made_253 gx37 ?_
      refine ax_aload_n (i := 0) dX10_made_254 rfl rfl ?_
      obtain ⟨r38, gr38, h⟩ := Option.bind_eq_some_iff.mp h
      refine ax_getR (q := (RX10, TX10, 28)) (t := 7) (k := 0) dX10_made_255 rfl (by decide) wd_761 rfl gr38 ?_
      refine ax_iload (i := 6) dX10_made_258 rfl ?_
      refine ax_iconst (v := (2)) dX10_made_260 rfl ?_
      refine ax_iadd dX10_made_261 ?_
      obtain ⟨x39, gx39, h⟩ := Option.bind_eq_some_iff.mp h
      refine ax_iald dX10_made_262 gx39 ?_
      refine ax_aload_n (i := 0) dX10_made_263 rfl rfl ?_
      obtain ⟨r40, gr40, h⟩ := Option.bind_eq_some_iff.mp h
      refine ax_getR (q := (RX10, TX10, 28)) (t := 7) (k := 0) dX10_made_264 rfl (by decide) wd_761 rfl gr40 ?_
      refine ax_iload (i := 6) dX10_made_267 rfl ?_
      refine ax_iconst (v := (3)) dX10_made_269 rfl ?_
      refine ax_iadd dX10_made_270 ?_
      obtain ⟨x41, gx41, h⟩ := Option.bind_eq_some_iff.mp h
      refine ax_iald dX10_made_271 gx41 ?_
      obtain ⟨q42, gq42, h⟩ := Option.bind_eq_some_iff.mp h
      refine ax_cS (As := [av_i q35.1, av_i x37, av_i x39, av_i x41]) dX10_made_272 (th_X10_keyed gq42) (And.intro wd_1005 wd_60) wd_1003 wd_1004 cy_X10_keyed (by omega) (by decide) (Nat.le_of_ble_eq_true rfl) rfl ?_
      exact ax_reti dX10_made_275 h
    rw [if_neg c31] at h
    refine ax_swD (tgt := 276) dX10_made_50 (fun c hc1 hc2 => ?_) (by decide) ?_
    · have hcc : c = 0 ∨ c = 1 ∨ c = 2 ∨ c = 3 ∨ c = 4 ∨ c = 5 := by omega
      rcases hcc with rfl | rfl | rfl | rfl | rfl | rfl
      · exact Or.inr (fun e => c8 (e.trans (by decide)))
      · exact Or.inr (fun e => c11 (e.trans (by decide)))
      · exact Or.inr (fun e => c17 (e.trans (by decide)))
      · exact Or.inr (fun e => c23 (e.trans (by decide)))
      · exact Or.inr (fun e => c26 (e.trans (by decide)))
      · exact Or.inr (fun e => c31 (e.trans (by decide)))
    refine ax_aload_n (i := 0) dX10_made_276 rfl rfl ?_
    refine ax_iload_n (i := 1) dX10_made_277 rfl rfl ?_
    refine ax_iconst (v := (0)) dX10_made_278 rfl ?_
    refine ax_iload_n (i := 2) dX10_made_279 rfl rfl ?_
    refine ax_iload_n (i := 3) dX10_made_280 rfl rfl ?_
    obtain ⟨w43, gw43, h⟩ := Option.bind_eq_some_iff.mp h
    obtain ⟨q44, gq44, h⟩ := Option.bind_eq_some_iff.mp h
    refine ax_cV (As := [av_i a1, av_i (0), av_i a2, av_i a3]) (t := 7) dX10_made_281 gw43 (th_X10_seen gq44) rfl (And.intro wd_995 wd_60) wd_992 wd_994 wd_39 cy_X10_seen (by omega) (by decide) (Nat.le_of_ble_eq_true rfl) rfl ?_
    refine ax_sipush (v := (255)) dX10_made_284 rfl ?_
    refine ax_aload_n (i := 0) dX10_made_287 rfl rfl ?_
    refine ax_iload_n (i := 1) dX10_made_288 rfl rfl ?_
    refine ax_iconst (v := (2)) dX10_made_289 rfl ?_
    refine ax_iload_n (i := 2) dX10_made_290 rfl rfl ?_
    refine ax_iload_n (i := 3) dX10_made_291 rfl rfl ?_
    obtain ⟨w45, gw45, h⟩ := Option.bind_eq_some_iff.mp h
    obtain ⟨q46, gq46, h⟩ := Option.bind_eq_some_iff.mp h
    refine ax_cV (As := [av_i a1, av_i (2), av_i a2, av_i a3]) (t := 7) dX10_made_292 gw45 (th_X10_seen gq46) rfl (And.intro wd_995 wd_60) wd_992 wd_994 wd_39 cy_X10_seen (by omega) (by decide) (Nat.le_of_ble_eq_true rfl) rfl ?_
    refine ax_isub dX10_made_295 ?_
    refine ax_imul dX10_made_296 ?_
    refine ax_aload_n (i := 0) dX10_made_297 rfl rfl ?_
    refine ax_iload_n (i := 1) dX10_made_298 rfl rfl ?_
    refine ax_iconst (v := (1)) dX10_made_299 rfl ?_
    refine ax_iload_n (i := 2) dX10_made_300 rfl rfl ?_
    refine ax_iload_n (i := 3) dX10_made_301 rfl rfl ?_
    obtain ⟨w47, gw47, h⟩ := Option.bind_eq_some_iff.mp h
    obtain ⟨q48, gq48, h⟩ := Option.bind_eq_some_iff.mp h
    refine ax_cV (As := [av_i a1, av_i (1), av_i a2, av_i a3]) (t := 7) dX10_made_302 gw47 (th_X10_seen gq48) rfl (And.intro wd_995 wd_60) wd_992 wd_994 wd_39 cy_X10_seen (by omega) (by decide) (Nat.le_of_ble_eq_true rfl) rfl ?_
    refine ax_aload_n (i := 0) dX10_made_305 rfl rfl ?_
    refine ax_iload_n (i := 1) dX10_made_306 rfl rfl ?_
    refine ax_iconst (v := (2)) dX10_made_307 rfl ?_
    refine ax_iload_n (i := 2) dX10_made_308 rfl rfl ?_
    refine ax_iload_n (i := 3) dX10_made_309 rfl rfl ?_
    obtain ⟨w49, gw49, h⟩ := Option.bind_eq_some_iff.mp h
    obtain ⟨q50, gq50, h⟩ := Option.bind_eq_some_iff.mp h
    refine ax_cV (As := [av_i a1, av_i (2), av_i a2, av_i a3]) (t := 7) dX10_made_310 gw49 (th_X10_seen gq50) rfl (And.intro wd_995 wd_60) wd_992 wd_994 wd_39 cy_X10_seen (by omega) (by decide) (Nat.le_of_ble_eq_true rfl) rfl ?_
    refine ax_imul dX10_made_313 ?_
    refine ax_iadd dX10_made_314 ?_
    refine ax_sipush (v := (255)) dX10_made_315 rfl ?_
    refine ax_idiv dX10_made_318 (by decide) ?_
    exact ax_reti dX10_made_319 h
  · rw [if_pos c5] at h
    refine ax_iload (i := 4) dX10_made_16 rfl ?_
    refine ax_if_ne (tgt := 25) dX10_made_18 (by decide) (fun c51 => ?_) (fun c51 => ?_)
    · rw [if_neg c51] at h
      refine ax_aload_n (i := 0) dX10_made_25 rfl rfl ?_
      refine ax_iload_n (i := 1) dX10_made_26 rfl rfl ?_
      refine ax_iconst (v := (0)) dX10_made_27 rfl ?_
      refine ax_iload_n (i := 2) dX10_made_28 rfl rfl ?_
      refine ax_iload_n (i := 3) dX10_made_29 rfl rfl ?_
      obtain ⟨w52, gw52, h⟩ := Option.bind_eq_some_iff.mp h
      obtain ⟨q53, gq53, h⟩ := Option.bind_eq_some_iff.mp h
      refine ax_cV (As := [av_i a1, av_i (0), av_i a2, av_i a3]) (t := 7) dX10_made_30 gw52 (th_X10_seen gq53) rfl (And.intro wd_995 wd_60) wd_992 wd_994 wd_39 cy_X10_seen (by omega) (by decide) (Nat.le_of_ble_eq_true rfl) rfl ?_
      exact ax_reti dX10_made_33 h
    · rw [if_pos c51] at h
      refine ax_iconst (v := (0)) dX10_made_21 rfl ?_
      refine ax_goto (tgt := 33) dX10_made_22 (by decide) ?_
      exact ax_reti dX10_made_33 h
set_option maxRecDepth 100000 in
set_option maxHeartbeats 4000000 in
theorem th_X10_made {q : Int32 × ax_S} {a0 : Option Nat} {a1 : Int32} {a2 : Int32} {a3 : Int32} {s : ax_S} (h : fn_X10_made a0 a1 a2 a3 s = some q) : AC mm_X10_made yX10_made 3 0 0 [av_r a0, av_i a1, av_i a2, av_i a3] s (some (av_i q.1), q.2) := by
  exact ax_met (L0 := [some (av_r a0), some (av_i a1), some (av_i a2), some (av_i a3), none, none, none]) (by decide +kernel) rfl (fun h => absurd h (by decide)) ⟨rfl, rfl, rfl, rfl, trivial⟩ (Nat.le_of_ble_eq_true rfl) trivial (tw_X10_made h)
/-! X10_drops -/
abbrev mm_X10_drops : ax_M := (RX10, cX10_drops, none, 3, false)
def fb_X10_drops_57 : Nat → Option Nat → Int32 → Int32 → ax_S → Option (ax_S)
  | 0, _, _, _, _ => none
  | n + 1, a0, a1, a2, s =>
    if (96) ≤ a2 then
      some s
    else
      (ax_gr s 7 8 a0).bind fun r2 =>
      (ax_gr s 7 8 a0).bind fun r3 =>
      (ax_gi s 7 4 a0).bind fun x4 =>
      (ax_al s 9 r3 (((96) * x4) + a2)).bind fun x5 =>
      (ax_as s 9 r2 (((96) * a1) + a2) x5).bind fun s6 =>
      (fb_X10_drops_57 n) a0 a1 (a2 + (1)) s6
set_option maxRecDepth 100000 in
set_option maxHeartbeats 4000000 in
theorem tb_X10_drops_57 {q : ax_S} : ∀ (n : Nat) (a0 : Option Nat) (a1 : Int32) (a2 : Int32) (s : ax_S) (h : fb_X10_drops_57 n a0 a1 a2 s = some q), AW mm_X10_drops 0 0 0 57 [(some (av_r a0)), (some (av_i a1)), (some (av_i a2))] [] s (none, q) := by
  intro n
  induction n with
  | zero =>
    intro a0 a1 a2 s h
    exact ax_no h
  | succ n ih =>
    intro a0 a1 a2 s h
    unfold fb_X10_drops_57 at h
    refine ax_iload_n (i := 2) dX10_drops_57 rfl rfl ?_
    refine ax_bipush (v := (96)) dX10_drops_58 rfl ?_
    refine ax_icmp_ge (tgt := 94) dX10_drops_60 (by decide) (fun c1 => ?_) (fun c1 => ?_)
    · rw [if_pos c1] at h
      exact ax_retv dX10_drops_94 h
    · rw [if_neg c1] at h
      refine ax_aload_n (i := 0) dX10_drops_63 rfl rfl ?_
      obtain ⟨r2, gr2, h⟩ := Option.bind_eq_some_iff.mp h
      refine ax_getR (q := (RX10, TX10, 28)) (t := 7) (k := 8) dX10_drops_64 rfl (by decide) wd_769 rfl gr2 ?_
      refine ax_bipush (v := (96)) dX10_drops_67 rfl ?_
      refine ax_iload_n (i := 1) dX10_drops_69 rfl rfl ?_
      refine ax_imul dX10_drops_70 ?_
      refine ax_iload_n (i := 2) dX10_drops_71 rfl rfl ?_
      refine ax_iadd dX10_drops_72 ?_
      refine ax_aload_n (i := 0) dX10_drops_73 rfl rfl ?_
      obtain ⟨r3, gr3, h⟩ := Option.bind_eq_some_iff.mp h
      refine ax_getR (q := (RX10, TX10, 28)) (t := 7) (k := 8) dX10_drops_74 rfl (by decide) wd_769 rfl gr3 ?_
      refine ax_bipush (v := (96)) dX10_drops_77 rfl ?_
      refine ax_aload_n (i := 0) dX10_drops_79 rfl rfl ?_
      obtain ⟨x4, gx4, h⟩ := Option.bind_eq_some_iff.mp h
      refine ax_getI (q := (RX10, TX10, 28)) (t := 7) (k := 4) dX10_drops_80 rfl (by decide) wd_765 rfl gx4 ?_
      refine ax_imul dX10_drops_83 ?_
      refine ax_iload_n (i := 2) dX10_drops_84 rfl rfl ?_
      refine ax_iadd dX10_drops_85 ?_
      obtain ⟨x5, gx5, h⟩ := Option.bind_eq_some_iff.mp h
      refine ax_iald dX10_drops_86 gx5 ?_
      obtain ⟨s6, gs6, h⟩ := Option.bind_eq_some_iff.mp h
      refine ax_iast dX10_drops_87 gs6 ?_
      refine ax_iinc (i := 2) (v := (a2 + (1))) (L2 := [some (av_r a0), some (av_i a1), some (av_i (a2 + (1)))]) dX10_drops_88 rfl rfl (by decide) rfl rfl ?_
      refine ax_goto (tgt := 57) dX10_drops_91 (by decide) ?_
      exact ax_less (L' := [(some (av_r a0)), (some (av_i a1)), (some (av_i (a2 + (1))))]) ⟨rfl, rfl, rfl, trivial⟩ (ih _ _ _ _ h)
def fn_X10_drops (a0 : Option Nat) (a1 : Int32) (s : ax_S) : Option (ax_S) :=
  (ax_gi s 7 4 a0).bind fun x7 =>
  (ax_pi s 7 4 a0 (x7 - (1))).bind fun s8 =>
  (ax_gr s8 7 5 a0).bind fun r9 =>
  (ax_gr s8 7 5 a0).bind fun r10 =>
  (ax_gi s8 7 4 a0).bind fun x11 =>
  (ax_al s8 9 r10 x11).bind fun x12 =>
  (ax_as s8 9 r9 a1 x12).bind fun s13 =>
  (ax_gr s13 7 6 a0).bind fun r14 =>
  (ax_gr s13 7 6 a0).bind fun r15 =>
  (ax_gi s13 7 4 a0).bind fun x16 =>
  (ax_al s13 9 r15 x16).bind fun x17 =>
  (ax_as s13 9 r14 a1 x17).bind fun s18 =>
  (ax_gr s18 7 7 a0).bind fun r19 =>
  (ax_gr s18 7 7 a0).bind fun r20 =>
  (ax_gi s18 7 4 a0).bind fun x21 =>
  (ax_al s18 9 r20 x21).bind fun x22 =>
  (ax_as s18 9 r19 a1 x22).bind fun s23 =>
  fb_X10_drops_57 10000 a0 a1 (0) s23
set_option maxRecDepth 100000 in
set_option maxHeartbeats 4000000 in
theorem tw_X10_drops {q : ax_S} {a0 : Option Nat} {a1 : Int32} {s : ax_S} (h : fn_X10_drops a0 a1 s = some q) : AW mm_X10_drops 0 0 0 0 [some (av_r a0), some (av_i a1), none] [] s (none, q) := by
  unfold fn_X10_drops at h
  refine ax_aload_n (i := 0) dX10_drops_0 rfl rfl ?_
  refine ax_dup dX10_drops_1 trivial ?_
  obtain ⟨x7, gx7, h⟩ := Option.bind_eq_some_iff.mp h
  refine ax_getI (q := (RX10, TX10, 28)) (t := 7) (k := 4) dX10_drops_2 rfl (by decide) wd_765 rfl gx7 ?_
  refine ax_iconst (v := (1)) dX10_drops_5 rfl ?_
  refine ax_isub dX10_drops_6 ?_
  obtain ⟨s8, gs8, h⟩ := Option.bind_eq_some_iff.mp h
  refine ax_putI (q := (RX10, TX10, 28)) (t := 7) (k := 4) dX10_drops_7 rfl (by decide) wd_765 rfl rfl ⟨rfl, rfl⟩ gs8 ?_
  refine ax_aload_n (i := 0) dX10_drops_10 rfl rfl ?_
  obtain ⟨r9, gr9, h⟩ := Option.bind_eq_some_iff.mp h
  refine ax_getR (q := (RX10, TX10, 28)) (t := 7) (k := 5) dX10_drops_11 rfl (by decide) wd_766 rfl gr9 ?_
  refine ax_iload_n (i := 1) dX10_drops_14 rfl rfl ?_
  refine ax_aload_n (i := 0) dX10_drops_15 rfl rfl ?_
  obtain ⟨r10, gr10, h⟩ := Option.bind_eq_some_iff.mp h
  refine ax_getR (q := (RX10, TX10, 28)) (t := 7) (k := 5) dX10_drops_16 rfl (by decide) wd_766 rfl gr10 ?_
  refine ax_aload_n (i := 0) dX10_drops_19 rfl rfl ?_
  obtain ⟨x11, gx11, h⟩ := Option.bind_eq_some_iff.mp h
  refine ax_getI (q := (RX10, TX10, 28)) (t := 7) (k := 4) dX10_drops_20 rfl (by decide) wd_765 rfl gx11 ?_
  obtain ⟨x12, gx12, h⟩ := Option.bind_eq_some_iff.mp h
  refine ax_iald dX10_drops_23 gx12 ?_
  obtain ⟨s13, gs13, h⟩ := Option.bind_eq_some_iff.mp h
  refine ax_iast dX10_drops_24 gs13 ?_
  refine ax_aload_n (i := 0) dX10_drops_25 rfl rfl ?_
  obtain ⟨r14, gr14, h⟩ := Option.bind_eq_some_iff.mp h
  refine ax_getR (q := (RX10, TX10, 28)) (t := 7) (k := 6) dX10_drops_26 rfl (by decide) wd_767 rfl gr14 ?_
  refine ax_iload_n (i := 1) dX10_drops_29 rfl rfl ?_
  refine ax_aload_n (i := 0) dX10_drops_30 rfl rfl ?_
  obtain ⟨r15, gr15, h⟩ := Option.bind_eq_some_iff.mp h
  refine ax_getR (q := (RX10, TX10, 28)) (t := 7) (k := 6) dX10_drops_31 rfl (by decide) wd_767 rfl gr15 ?_
  refine ax_aload_n (i := 0) dX10_drops_34 rfl rfl ?_
  obtain ⟨x16, gx16, h⟩ := Option.bind_eq_some_iff.mp h
  refine ax_getI (q := (RX10, TX10, 28)) (t := 7) (k := 4) dX10_drops_35 rfl (by decide) wd_765 rfl gx16 ?_
  obtain ⟨x17, gx17, h⟩ := Option.bind_eq_some_iff.mp h
  refine ax_iald dX10_drops_38 gx17 ?_
  obtain ⟨s18, gs18, h⟩ := Option.bind_eq_some_iff.mp h
  refine ax_iast dX10_drops_39 gs18 ?_
  refine ax_aload_n (i := 0) dX10_drops_40 rfl rfl ?_
  obtain ⟨r19, gr19, h⟩ := Option.bind_eq_some_iff.mp h
  refine ax_getR (q := (RX10, TX10, 28)) (t := 7) (k := 7) dX10_drops_41 rfl (by decide) wd_768 rfl gr19 ?_
  refine ax_iload_n (i := 1) dX10_drops_44 rfl rfl ?_
  refine ax_aload_n (i := 0) dX10_drops_45 rfl rfl ?_
  obtain ⟨r20, gr20, h⟩ := Option.bind_eq_some_iff.mp h
  refine ax_getR (q := (RX10, TX10, 28)) (t := 7) (k := 7) dX10_drops_46 rfl (by decide) wd_768 rfl gr20 ?_
  refine ax_aload_n (i := 0) dX10_drops_49 rfl rfl ?_
  obtain ⟨x21, gx21, h⟩ := Option.bind_eq_some_iff.mp h
  refine ax_getI (q := (RX10, TX10, 28)) (t := 7) (k := 4) dX10_drops_50 rfl (by decide) wd_765 rfl gx21 ?_
  obtain ⟨x22, gx22, h⟩ := Option.bind_eq_some_iff.mp h
  refine ax_iald dX10_drops_53 gx22 ?_
  obtain ⟨s23, gs23, h⟩ := Option.bind_eq_some_iff.mp h
  refine ax_iast dX10_drops_54 gs23 ?_
  refine ax_iconst (v := (0)) dX10_drops_55 rfl ?_
  refine ax_istore_n (i := 2) (L2 := [some (av_r a0), some (av_i a1), some (av_i (0))]) dX10_drops_56 rfl (by decide) rfl rfl ?_
  exact ax_less (L' := [(some (av_r a0)), (some (av_i a1)), (some (av_i (0)))]) ⟨rfl, rfl, rfl, trivial⟩ (tb_X10_drops_57  _ _ _ _ _ h)
set_option maxRecDepth 100000 in
set_option maxHeartbeats 4000000 in
theorem th_X10_drops {q : ax_S} {a0 : Option Nat} {a1 : Int32} {s : ax_S} (h : fn_X10_drops a0 a1 s = some q) : AC mm_X10_drops yX10_drops 0 0 0 [av_r a0, av_i a1] s (none, q) := by
  exact ax_met (L0 := [some (av_r a0), some (av_i a1), none]) (by decide +kernel) rfl (fun h => absurd h (by decide)) ⟨rfl, rfl, trivial⟩ (Nat.le_of_ble_eq_true rfl) trivial (tw_X10_drops h)
/-! X10_oldest -/
abbrev mm_X10_oldest : ax_M := (RX10, cX10_oldest, (some .int), 3, false)
def fb_X10_oldest_4 : Nat → Option Nat → Int32 → Int32 → ax_S → Option (Int32 × ax_S)
  | 0, _, _, _, _ => none
  | n + 1, a0, a1, a2, s =>
    (ax_gi s 7 4 a0).bind fun x1 =>
    if x1 ≤ a2 then
      some (a1, s)
    else
      (ax_gr s 7 7 a0).bind fun r3 =>
      (ax_al s 9 r3 a2).bind fun x4 =>
      (ax_gr s 7 7 a0).bind fun r5 =>
      (ax_al s 9 r5 a1).bind fun x6 =>
      if x6 ≤ x4 then
        (fb_X10_oldest_4 n) a0 a1 (a2 + (1)) s
      else
        (fb_X10_oldest_4 n) a0 a2 (a2 + (1)) s
set_option maxRecDepth 100000 in
set_option maxHeartbeats 4000000 in
theorem tb_X10_oldest_4 {q : Int32 × ax_S} : ∀ (n : Nat) (a0 : Option Nat) (a1 : Int32) (a2 : Int32) (s : ax_S) (h : fb_X10_oldest_4 n a0 a1 a2 s = some q), AW mm_X10_oldest 0 0 0 4 [(some (av_r a0)), (some (av_i a1)), (some (av_i a2))] [] s (some (av_i q.1), q.2) := by
  intro n
  induction n with
  | zero =>
    intro a0 a1 a2 s h
    exact ax_no h
  | succ n ih =>
    intro a0 a1 a2 s h
    unfold fb_X10_oldest_4 at h
    refine ax_iload_n (i := 2) dX10_oldest_4 rfl rfl ?_
    refine ax_aload_n (i := 0) dX10_oldest_5 rfl rfl ?_
    obtain ⟨x1, gx1, h⟩ := Option.bind_eq_some_iff.mp h
    refine ax_getI (q := (RX10, TX10, 28)) (t := 7) (k := 4) dX10_oldest_6 rfl (by decide) wd_765 rfl gx1 ?_
    refine ax_icmp_ge (tgt := 39) dX10_oldest_9 (by decide) (fun c2 => ?_) (fun c2 => ?_)
    · rw [if_pos c2] at h
      refine ax_iload_n (i := 1) dX10_oldest_39 rfl rfl ?_
      exact ax_reti dX10_oldest_40 h
    · rw [if_neg c2] at h
      refine ax_aload_n (i := 0) dX10_oldest_12 rfl rfl ?_
      obtain ⟨r3, gr3, h⟩ := Option.bind_eq_some_iff.mp h
      refine ax_getR (q := (RX10, TX10, 28)) (t := 7) (k := 7) dX10_oldest_13 rfl (by decide) wd_768 rfl gr3 ?_
      refine ax_iload_n (i := 2) dX10_oldest_16 rfl rfl ?_
      obtain ⟨x4, gx4, h⟩ := Option.bind_eq_some_iff.mp h
      refine ax_iald dX10_oldest_17 gx4 ?_
      refine ax_aload_n (i := 0) dX10_oldest_18 rfl rfl ?_
      obtain ⟨r5, gr5, h⟩ := Option.bind_eq_some_iff.mp h
      refine ax_getR (q := (RX10, TX10, 28)) (t := 7) (k := 7) dX10_oldest_19 rfl (by decide) wd_768 rfl gr5 ?_
      refine ax_iload_n (i := 1) dX10_oldest_22 rfl rfl ?_
      obtain ⟨x6, gx6, h⟩ := Option.bind_eq_some_iff.mp h
      refine ax_iald dX10_oldest_23 gx6 ?_
      refine ax_icmp_ge (tgt := 31) dX10_oldest_24 (by decide) (fun c7 => ?_) (fun c7 => ?_)
      · rw [if_pos c7] at h
        refine ax_iload_n (i := 1) dX10_oldest_31 rfl rfl ?_
        refine ax_istore_n (i := 1) (L2 := [some (av_r a0), some (av_i a1), some (av_i a2)]) dX10_oldest_32 rfl (by decide) rfl rfl ?_
        refine ax_iinc (i := 2) (v := (a2 + (1))) (L2 := [some (av_r a0), some (av_i a1), some (av_i (a2 + (1)))]) dX10_oldest_33 rfl rfl (by decide) rfl rfl ?_
        refine ax_goto (tgt := 4) dX10_oldest_36 (by decide) ?_
        exact ax_less (L' := [(some (av_r a0)), (some (av_i a1)), (some (av_i (a2 + (1))))]) ⟨rfl, rfl, rfl, trivial⟩ (ih _ _ _ _ h)
      · rw [if_neg c7] at h
        refine ax_iload_n (i := 2) dX10_oldest_27 rfl rfl ?_
        refine ax_goto (tgt := 32) dX10_oldest_28 (by decide) ?_
        refine ax_istore_n (i := 1) (L2 := [some (av_r a0), some (av_i a2), some (av_i a2)]) dX10_oldest_32 rfl (by decide) rfl rfl ?_
        refine ax_iinc (i := 2) (v := (a2 + (1))) (L2 := [some (av_r a0), some (av_i a2), some (av_i (a2 + (1)))]) dX10_oldest_33 rfl rfl (by decide) rfl rfl ?_
        refine ax_goto (tgt := 4) dX10_oldest_36 (by decide) ?_
        exact ax_less (L' := [(some (av_r a0)), (some (av_i a2)), (some (av_i (a2 + (1))))]) ⟨rfl, rfl, rfl, trivial⟩ (ih _ _ _ _ h)
def fn_X10_oldest (a0 : Option Nat) (s : ax_S) : Option (Int32 × ax_S) :=
  fb_X10_oldest_4 10000 a0 (0) (1) s
set_option maxRecDepth 100000 in
set_option maxHeartbeats 4000000 in
theorem tw_X10_oldest {q : Int32 × ax_S} {a0 : Option Nat} {s : ax_S} (h : fn_X10_oldest a0 s = some q) : AW mm_X10_oldest 0 0 0 0 [some (av_r a0), none, none] [] s (some (av_i q.1), q.2) := by
  unfold fn_X10_oldest at h
  refine ax_iconst (v := (0)) dX10_oldest_0 rfl ?_
  refine ax_istore_n (i := 1) (L2 := [some (av_r a0), some (av_i (0)), none]) dX10_oldest_1 rfl (by decide) rfl rfl ?_
  refine ax_iconst (v := (1)) dX10_oldest_2 rfl ?_
  refine ax_istore_n (i := 2) (L2 := [some (av_r a0), some (av_i (0)), some (av_i (1))]) dX10_oldest_3 rfl (by decide) rfl rfl ?_
  exact ax_less (L' := [(some (av_r a0)), (some (av_i (0))), (some (av_i (1)))]) ⟨rfl, rfl, rfl, trivial⟩ (tb_X10_oldest_4  _ _ _ _ _ h)
set_option maxRecDepth 100000 in
set_option maxHeartbeats 4000000 in
theorem th_X10_oldest {q : Int32 × ax_S} {a0 : Option Nat} {s : ax_S} (h : fn_X10_oldest a0 s = some q) : AC mm_X10_oldest yX10_oldest 0 0 0 [av_r a0] s (some (av_i q.1), q.2) := by
  exact ax_met (L0 := [some (av_r a0), none, none]) (by decide +kernel) rfl (fun h => absurd h (by decide)) ⟨rfl, trivial⟩ (Nat.le_of_ble_eq_true rfl) trivial (tw_X10_oldest h)
/-! X10_makesRoom -/
abbrev mm_X10_makesRoom : ax_M := (RX10, cX10_makesRoom, none, 2, false)
def fb_X10_makesRoom_0 : Nat → Option Nat → Int32 → ax_S → Option (ax_S)
  | 0, _, _, _ => none
  | n + 1, a0, a1, s =>
    (ax_gi s 7 4 a0).bind fun x1 =>
    if x1 ≤ a1 then
      some s
    else
      (ax_sh s 7 a0).bind fun w3 =>
      (fn_X10_oldest a0 s).bind fun q4 =>
      (ax_sh q4.2 7 a0).bind fun w5 =>
      (fn_X10_drops a0 q4.1 q4.2).bind fun q6 =>
      (ax_gr q6 7 10 a0).bind fun r7 =>
      (ax_al q6 9 r7 (3)).bind fun x8 =>
      (ax_as q6 9 r7 (3) (x8 + (1))).bind fun s9 =>
      (fb_X10_makesRoom_0 n) a0 a1 s9
set_option maxRecDepth 100000 in
set_option maxHeartbeats 4000000 in
theorem tb_X10_makesRoom_0 {q : ax_S} : ∀ (n : Nat) (a0 : Option Nat) (a1 : Int32) (s : ax_S) (h : fb_X10_makesRoom_0 n a0 a1 s = some q), AW mm_X10_makesRoom 1 0 0 0 [(some (av_r a0)), (some (av_i a1))] [] s (none, q) := by
  intro n
  induction n with
  | zero =>
    intro a0 a1 s h
    exact ax_no h
  | succ n ih =>
    intro a0 a1 s h
    unfold fb_X10_makesRoom_0 at h
    refine ax_aload_n (i := 0) dX10_makesRoom_0 rfl rfl ?_
    obtain ⟨x1, gx1, h⟩ := Option.bind_eq_some_iff.mp h
    refine ax_getI (q := (RX10, TX10, 28)) (t := 7) (k := 4) dX10_makesRoom_1 rfl (by decide) wd_765 rfl gx1 ?_
    refine ax_iload_n (i := 1) dX10_makesRoom_4 rfl rfl ?_
    refine ax_icmp_le (tgt := 29) dX10_makesRoom_5 (by decide) (fun c2 => ?_) (fun c2 => ?_)
    · rw [if_pos c2] at h
      exact ax_retv dX10_makesRoom_29 h
    · rw [if_neg c2] at h
      refine ax_aload_n (i := 0) dX10_makesRoom_8 rfl rfl ?_
      refine ax_aload_n (i := 0) dX10_makesRoom_9 rfl rfl ?_
      obtain ⟨w3, gw3, h⟩ := Option.bind_eq_some_iff.mp h
      obtain ⟨q4, gq4, h⟩ := Option.bind_eq_some_iff.mp h
      refine ax_cV (As := []) (t := 7) dX10_makesRoom_10 gw3 (th_X10_oldest gq4) rfl (And.intro wd_987 wd_60) wd_984 wd_986 wd_37 cy_X10_oldest (by omega) (by decide) (Nat.le_of_ble_eq_true rfl) rfl ?_
      obtain ⟨w5, gw5, h⟩ := Option.bind_eq_some_iff.mp h
      obtain ⟨q6, gq6, h⟩ := Option.bind_eq_some_iff.mp h
      refine ax_cV (As := [av_i q4.1]) (t := 7) dX10_makesRoom_13 gw5 (th_X10_drops gq6) rfl (And.intro wd_894 wd_60) wd_891 wd_893 wd_23 cy_X10_drops (by omega) (by decide) (Nat.le_of_ble_eq_true rfl) rfl ?_
      refine ax_aload_n (i := 0) dX10_makesRoom_16 rfl rfl ?_
      obtain ⟨r7, gr7, h⟩ := Option.bind_eq_some_iff.mp h
      refine ax_getR (q := (RX10, TX10, 28)) (t := 7) (k := 10) dX10_makesRoom_17 rfl (by decide) wd_771 rfl gr7 ?_
      refine ax_iconst (v := (3)) dX10_makesRoom_20 rfl ?_
      refine ax_dup2 dX10_makesRoom_21 trivial trivial ?_
      obtain ⟨x8, gx8, h⟩ := Option.bind_eq_some_iff.mp h
      refine ax_iald dX10_makesRoom_22 gx8 ?_
      refine ax_iconst (v := (1)) dX10_makesRoom_23 rfl ?_
      refine ax_iadd dX10_makesRoom_24 ?_
      obtain ⟨s9, gs9, h⟩ := Option.bind_eq_some_iff.mp h
      refine ax_iast dX10_makesRoom_25 gs9 ?_
      refine ax_goto (tgt := 0) dX10_makesRoom_26 (by decide) ?_
      exact ax_less (L' := [(some (av_r a0)), (some (av_i a1))]) ⟨rfl, rfl, trivial⟩ (ih _ _ _ h)
def fn_X10_makesRoom (a0 : Option Nat) (a1 : Int32) (s : ax_S) : Option (ax_S) :=
  fb_X10_makesRoom_0 10000 a0 a1 s
set_option maxRecDepth 100000 in
set_option maxHeartbeats 4000000 in
theorem tw_X10_makesRoom {q : ax_S} {a0 : Option Nat} {a1 : Int32} {s : ax_S} (h : fn_X10_makesRoom a0 a1 s = some q) : AW mm_X10_makesRoom 1 0 0 0 [some (av_r a0), some (av_i a1)] [] s (none, q) := by
  unfold fn_X10_makesRoom at h
  exact ax_less (L' := [(some (av_r a0)), (some (av_i a1))]) ⟨rfl, rfl, trivial⟩ (tb_X10_makesRoom_0  _ _ _ _ h)
set_option maxRecDepth 100000 in
set_option maxHeartbeats 4000000 in
theorem th_X10_makesRoom {q : ax_S} {a0 : Option Nat} {a1 : Int32} {s : ax_S} (h : fn_X10_makesRoom a0 a1 s = some q) : AC mm_X10_makesRoom yX10_makesRoom 1 0 0 [av_r a0, av_i a1] s (none, q) := by
  exact ax_met (L0 := [some (av_r a0), some (av_i a1)]) (by decide +kernel) rfl (fun h => absurd h (by decide)) ⟨rfl, rfl, trivial⟩ (Nat.le_of_ble_eq_true rfl) trivial (tw_X10_makesRoom h)
/-! X10_makes -/
abbrev mm_X10_makes : ax_M := (RX10, cX10_makes, none, 5, false)
def fb_X10_makes_42 : Nat → Option Nat → Int32 → Int32 → Int32 → Int32 → ax_S → Option (ax_S)
  | 0, _, _, _, _, _, _ => none
  | n + 1, a0, a1, a2, a3, a4, s =>
    if (96) ≤ a4 then
      (ax_sh s 7 a0).bind fun w2 =>
      (fn_X10_uses a0 a3 s).bind fun q3 =>
      some q3
    else
      (ax_gr s 7 8 a0).bind fun r4 =>
      (ax_sh s 7 a0).bind fun w5 =>
      (fn_X10_made a0 a1 a2 a4 s).bind fun q6 =>
      (ax_as q6.2 9 r4 (((96) * a3) + a4) q6.1).bind fun s7 =>
      (fb_X10_makes_42 n) a0 a1 a2 a3 (a4 + (1)) s7
set_option maxRecDepth 100000 in
set_option maxHeartbeats 4000000 in
theorem tb_X10_makes_42 {q : ax_S} : ∀ (n : Nat) (a0 : Option Nat) (a1 : Int32) (a2 : Int32) (a3 : Int32) (a4 : Int32) (s : ax_S) (h : fb_X10_makes_42 n a0 a1 a2 a3 a4 s = some q), AW mm_X10_makes 4 0 0 42 [(some (av_r a0)), (some (av_i a1)), (some (av_i a2)), (some (av_i a3)), (some (av_i a4))] [] s (none, q) := by
  intro n
  induction n with
  | zero =>
    intro a0 a1 a2 a3 a4 s h
    exact ax_no h
  | succ n ih =>
    intro a0 a1 a2 a3 a4 s h
    unfold fb_X10_makes_42 at h
    refine ax_iload (i := 4) dX10_makes_42 rfl ?_
    refine ax_bipush (v := (96)) dX10_makes_44 rfl ?_
    refine ax_icmp_ge (tgt := 75) dX10_makes_46 (by decide) (fun c1 => ?_) (fun c1 => ?_)
    · rw [if_pos c1] at h
      refine ax_aload_n (i := 0) dX10_makes_75 rfl rfl ?_
      refine ax_iload_n (i := 3) dX10_makes_76 rfl rfl ?_
      obtain ⟨w2, gw2, h⟩ := Option.bind_eq_some_iff.mp h
      obtain ⟨q3, gq3, h⟩ := Option.bind_eq_some_iff.mp h
      refine ax_cV (As := [av_i a3]) (t := 7) dX10_makes_77 gw2 (th_X10_uses gq3) rfl (And.intro wd_971 wd_60) wd_968 wd_970 wd_33 cy_X10_uses (by omega) (by decide) (Nat.le_of_ble_eq_true rfl) rfl ?_
      exact ax_retv dX10_makes_80 h
    · rw [if_neg c1] at h
      refine ax_aload_n (i := 0) dX10_makes_49 rfl rfl ?_
      obtain ⟨r4, gr4, h⟩ := Option.bind_eq_some_iff.mp h
      refine ax_getR (q := (RX10, TX10, 28)) (t := 7) (k := 8) dX10_makes_50 rfl (by decide) wd_769 rfl gr4 ?_
      refine ax_bipush (v := (96)) dX10_makes_53 rfl ?_
      refine ax_iload_n (i := 3) dX10_makes_55 rfl rfl ?_
      refine ax_imul dX10_makes_56 ?_
      refine ax_iload (i := 4) dX10_makes_57 rfl ?_
      refine ax_iadd dX10_makes_59 ?_
      refine ax_aload_n (i := 0) dX10_makes_60 rfl rfl ?_
      refine ax_iload_n (i := 1) dX10_makes_61 rfl rfl ?_
      refine ax_iload_n (i := 2) dX10_makes_62 rfl rfl ?_
      refine ax_iload (i := 4) dX10_makes_63 rfl ?_
      obtain ⟨w5, gw5, h⟩ := Option.bind_eq_some_iff.mp h
      obtain ⟨q6, gq6, h⟩ := Option.bind_eq_some_iff.mp h
      refine ax_cV (As := [av_i a1, av_i a2, av_i a4]) (t := 7) dX10_makes_65 gw5 (th_X10_made gq6) rfl (And.intro wd_991 wd_60) wd_988 wd_990 wd_38 cy_X10_made (by omega) (by decide) (Nat.le_of_ble_eq_true rfl) rfl ?_
      obtain ⟨s7, gs7, h⟩ := Option.bind_eq_some_iff.mp h
      refine ax_iast dX10_makes_68 gs7 ?_
      refine ax_iinc (i := 4) (v := (a4 + (1))) (L2 := [some (av_r a0), some (av_i a1), some (av_i a2), some (av_i a3), some (av_i (a4 + (1)))]) dX10_makes_69 rfl rfl (by decide) rfl rfl ?_
      refine ax_goto (tgt := 42) dX10_makes_72 (by decide) ?_
      exact ax_less (L' := [(some (av_r a0)), (some (av_i a1)), (some (av_i a2)), (some (av_i a3)), (some (av_i (a4 + (1))))]) ⟨rfl, rfl, rfl, rfl, rfl, trivial⟩ (ih _ _ _ _ _ _ h)
def fn_X10_makes (a0 : Option Nat) (a1 : Int32) (a2 : Int32) (s : ax_S) : Option (ax_S) :=
  (ax_gi s 7 3 a0).bind fun x8 =>
  (ax_sh s 7 a0).bind fun w9 =>
  (fn_X10_makesRoom a0 (x8 - (1)) s).bind fun q10 =>
  (ax_gi q10 7 4 a0).bind fun x11 =>
  (ax_gr q10 7 5 a0).bind fun r12 =>
  (ax_as q10 9 r12 x11 a1).bind fun s13 =>
  (ax_gr s13 7 6 a0).bind fun r14 =>
  (ax_as s13 9 r14 x11 a2).bind fun s15 =>
  (ax_gi s15 7 4 a0).bind fun x16 =>
  (ax_pi s15 7 4 a0 (x16 + (1))).bind fun s17 =>
  fb_X10_makes_42 10000 a0 a1 a2 x11 (0) s17
set_option maxRecDepth 100000 in
set_option maxHeartbeats 4000000 in
theorem tw_X10_makes {q : ax_S} {a0 : Option Nat} {a1 : Int32} {a2 : Int32} {s : ax_S} (h : fn_X10_makes a0 a1 a2 s = some q) : AW mm_X10_makes 4 0 0 0 [some (av_r a0), some (av_i a1), some (av_i a2), none, none] [] s (none, q) := by
  unfold fn_X10_makes at h
  refine ax_aload_n (i := 0) dX10_makes_0 rfl rfl ?_
  refine ax_aload_n (i := 0) dX10_makes_1 rfl rfl ?_
  obtain ⟨x8, gx8, h⟩ := Option.bind_eq_some_iff.mp h
  refine ax_getI (q := (RX10, TX10, 28)) (t := 7) (k := 3) dX10_makes_2 rfl (by decide) wd_764 rfl gx8 ?_
  refine ax_iconst (v := (1)) dX10_makes_5 rfl ?_
  refine ax_isub dX10_makes_6 ?_
  obtain ⟨w9, gw9, h⟩ := Option.bind_eq_some_iff.mp h
  obtain ⟨q10, gq10, h⟩ := Option.bind_eq_some_iff.mp h
  refine ax_cV (As := [av_i (x8 - (1))]) (t := 7) dX10_makes_7 gw9 (th_X10_makesRoom gq10) rfl (And.intro wd_983 wd_60) wd_980 wd_982 wd_36 cy_X10_makesRoom (by omega) (by decide) (Nat.le_of_ble_eq_true rfl) rfl ?_
  refine ax_aload_n (i := 0) dX10_makes_10 rfl rfl ?_
  obtain ⟨x11, gx11, h⟩ := Option.bind_eq_some_iff.mp h
  refine ax_getI (q := (RX10, TX10, 28)) (t := 7) (k := 4) dX10_makes_11 rfl (by decide) wd_765 rfl gx11 ?_
  refine ax_istore_n (i := 3) (L2 := [some (av_r a0), some (av_i a1), some (av_i a2), some (av_i x11), none]) dX10_makes_14 rfl (by decide) rfl rfl ?_
  refine ax_aload_n (i := 0) dX10_makes_15 rfl rfl ?_
  obtain ⟨r12, gr12, h⟩ := Option.bind_eq_some_iff.mp h
  refine ax_getR (q := (RX10, TX10, 28)) (t := 7) (k := 5) dX10_makes_16 rfl (by decide) wd_766 rfl gr12 ?_
  refine ax_iload_n (i := 3) dX10_makes_19 rfl rfl ?_
  refine ax_iload_n (i := 1) dX10_makes_20 rfl rfl ?_
  obtain ⟨s13, gs13, h⟩ := Option.bind_eq_some_iff.mp h
  refine ax_iast dX10_makes_21 gs13 ?_
  refine ax_aload_n (i := 0) dX10_makes_22 rfl rfl ?_
  obtain ⟨r14, gr14, h⟩ := Option.bind_eq_some_iff.mp h
  refine ax_getR (q := (RX10, TX10, 28)) (t := 7) (k := 6) dX10_makes_23 rfl (by decide) wd_767 rfl gr14 ?_
  refine ax_iload_n (i := 3) dX10_makes_26 rfl rfl ?_
  refine ax_iload_n (i := 2) dX10_makes_27 rfl rfl ?_
  obtain ⟨s15, gs15, h⟩ := Option.bind_eq_some_iff.mp h
  refine ax_iast dX10_makes_28 gs15 ?_
  refine ax_aload_n (i := 0) dX10_makes_29 rfl rfl ?_
  refine ax_dup dX10_makes_30 trivial ?_
  obtain ⟨x16, gx16, h⟩ := Option.bind_eq_some_iff.mp h
  refine ax_getI (q := (RX10, TX10, 28)) (t := 7) (k := 4) dX10_makes_31 rfl (by decide) wd_765 rfl gx16 ?_
  refine ax_iconst (v := (1)) dX10_makes_34 rfl ?_
  refine ax_iadd dX10_makes_35 ?_
  obtain ⟨s17, gs17, h⟩ := Option.bind_eq_some_iff.mp h
  refine ax_putI (q := (RX10, TX10, 28)) (t := 7) (k := 4) dX10_makes_36 rfl (by decide) wd_765 rfl rfl ⟨rfl, rfl⟩ gs17 ?_
  refine ax_iconst (v := (0)) dX10_makes_39 rfl ?_
  refine ax_istore (i := 4) (L2 := [some (av_r a0), some (av_i a1), some (av_i a2), some (av_i x11), some (av_i (0))]) dX10_makes_40 (by decide) rfl rfl ?_
  exact ax_less (L' := [(some (av_r a0)), (some (av_i a1)), (some (av_i a2)), (some (av_i x11)), (some (av_i (0)))]) ⟨rfl, rfl, rfl, rfl, rfl, trivial⟩ (tb_X10_makes_42  _ _ _ _ _ _ _ h)
set_option maxRecDepth 100000 in
set_option maxHeartbeats 4000000 in
theorem th_X10_makes {q : ax_S} {a0 : Option Nat} {a1 : Int32} {a2 : Int32} {s : ax_S} (h : fn_X10_makes a0 a1 a2 s = some q) : AC mm_X10_makes yX10_makes 4 0 0 [av_r a0, av_i a1, av_i a2] s (none, q) := by
  exact ax_met (L0 := [some (av_r a0), some (av_i a1), some (av_i a2), none, none]) (by decide +kernel) rfl (fun h => absurd h (by decide)) ⟨rfl, rfl, rfl, trivial⟩ (Nat.le_of_ble_eq_true rfl) trivial (tw_X10_makes h)
/-! X10_picture -/
abbrev mm_X10_picture : ax_M := (RX10, cX10_picture, (some .int), 7, false)
def fb_X10_picture_83 (k11 : Option Nat → Int32 → Int32 → ax_S → Option (Int32 × ax_S)) (a0 : Option Nat) (a1 : Int32) (a2 : Int32) (a3 : Int32) (a4 : Int32) (b0 : Int32) (s : ax_S) : Option (Int32 × ax_S) :=
  if b0 ≤ a4 then
    (ax_sh s 7 a0).bind fun w2 =>
    (fn_X10_makes a0 a3 a2 s).bind fun q3 =>
    (ax_gi q3 7 18 a0).bind fun x4 =>
    (ax_pi q3 7 18 a0 (x4 - (1))).bind fun s5 =>
    k11 a0 a1 a2 s5
  else
    (ax_gr s 7 17 a0).bind fun r6 =>
    (ax_gi s 7 18 a0).bind fun x7 =>
    (ax_al s 9 r6 (x7 - (1))).bind fun x8 =>
    (ax_as s 9 r6 (x7 - (1)) (x8 + (1))).bind fun s9 =>
    (ax_gr s9 7 0 a0).bind fun r10 =>
    (fn_X10_at a3 ((3) + a4) s9).bind fun q11 =>
    (ax_al q11.2 9 r10 q11.1).bind fun x12 =>
    if x12 < 0 then
      k11 a0 a1 a2 q11.2
    else
      (ax_sh q11.2 7 a0).bind fun w14 =>
      (fn_X10_asks a0 x12 a2 q11.2).bind fun q15 =>
      k11 a0 a1 a2 q15
set_option maxRecDepth 100000 in
set_option maxHeartbeats 4000000 in
theorem tb_X10_picture_83 {q : Int32 × ax_S} {k11 : Option Nat → Int32 → Int32 → ax_S → Option (Int32 × ax_S)} (hk11 : ∀ (a0 : Option Nat) (a1 : Int32) (a2 : Int32) (s : ax_S), k11 a0 a1 a2 s = some q → AW mm_X10_picture 5 0 0 11 [(some (av_r a0)), (some (av_i a1)), (some (av_i a2)), none, none, none, none] [] s (some (av_i q.1), q.2)) {a0 : Option Nat} {a1 : Int32} {a2 : Int32} {a3 : Int32} {a4 : Int32} {b0 : Int32} {s : ax_S} (h : fb_X10_picture_83 k11 a0 a1 a2 a3 a4 b0 s = some q) : AW mm_X10_picture 5 0 0 83 [(some (av_r a0)), (some (av_i a1)), (some (av_i a2)), (some (av_i a3)), (some (av_i a4)), none, none] [av_i b0] s (some (av_i q.1), q.2) := by
  unfold fb_X10_picture_83 at h
  refine ax_istore (i := 5) (L2 := [some (av_r a0), some (av_i a1), some (av_i a2), some (av_i a3), some (av_i a4), some (av_i b0), none]) dX10_picture_83 (by decide) rfl rfl ?_
  refine ax_iload (i := 4) dX10_picture_85 rfl ?_
  refine ax_iload (i := 5) dX10_picture_87 rfl ?_
  refine ax_icmp_ge (tgt := 137) dX10_picture_89 (by decide) (fun c1 => ?_) (fun c1 => ?_)
  · rw [if_pos c1] at h
    refine ax_aload_n (i := 0) dX10_picture_137 rfl rfl ?_
    refine ax_iload_n (i := 3) dX10_picture_138 rfl rfl ?_
    refine ax_iload_n (i := 2) dX10_picture_139 rfl rfl ?_
    obtain ⟨w2, gw2, h⟩ := Option.bind_eq_some_iff.mp h
    obtain ⟨q3, gq3, h⟩ := Option.bind_eq_some_iff.mp h
    refine ax_cV (As := [av_i a3, av_i a2]) (t := 7) dX10_picture_140 gw2 (th_X10_makes gq3) rfl (And.intro wd_979 wd_60) wd_976 wd_978 wd_35 cy_X10_makes (by omega) (by decide) (Nat.le_of_ble_eq_true rfl) rfl ?_
    refine ax_aload_n (i := 0) dX10_picture_143 rfl rfl ?_
    refine ax_dup dX10_picture_144 trivial ?_
    obtain ⟨x4, gx4, h⟩ := Option.bind_eq_some_iff.mp h
    refine ax_getI (q := (RX10, TX10, 28)) (t := 7) (k := 18) dX10_picture_145 rfl (by decide) wd_779 rfl gx4 ?_
    refine ax_iconst (v := (1)) dX10_picture_148 rfl ?_
    refine ax_isub dX10_picture_149 ?_
    obtain ⟨s5, gs5, h⟩ := Option.bind_eq_some_iff.mp h
    refine ax_putI (q := (RX10, TX10, 28)) (t := 7) (k := 18) dX10_picture_150 rfl (by decide) wd_779 rfl rfl ⟨rfl, rfl⟩ gs5 ?_
    refine ax_goto (tgt := 11) dX10_picture_153 (by decide) ?_
    exact ax_less (L' := [(some (av_r a0)), (some (av_i a1)), (some (av_i a2)), none, none, none, none]) ⟨rfl, rfl, rfl, trivial⟩ (hk11 _ _ _ _ h)
  · rw [if_neg c1] at h
    refine ax_aload_n (i := 0) dX10_picture_92 rfl rfl ?_
    obtain ⟨r6, gr6, h⟩ := Option.bind_eq_some_iff.mp h
    refine ax_getR (q := (RX10, TX10, 28)) (t := 7) (k := 17) dX10_picture_93 rfl (by decide) wd_778 rfl gr6 ?_
    refine ax_aload_n (i := 0) dX10_picture_96 rfl rfl ?_
    obtain ⟨x7, gx7, h⟩ := Option.bind_eq_some_iff.mp h
    refine ax_getI (q := (RX10, TX10, 28)) (t := 7) (k := 18) dX10_picture_97 rfl (by decide) wd_779 rfl gx7 ?_
    refine ax_iconst (v := (1)) dX10_picture_100 rfl ?_
    refine ax_isub dX10_picture_101 ?_
    refine ax_dup2 dX10_picture_102 trivial trivial ?_
    obtain ⟨x8, gx8, h⟩ := Option.bind_eq_some_iff.mp h
    refine ax_iald dX10_picture_103 gx8 ?_
    refine ax_iconst (v := (1)) dX10_picture_104 rfl ?_
    refine ax_iadd dX10_picture_105 ?_
    obtain ⟨s9, gs9, h⟩ := Option.bind_eq_some_iff.mp h
    refine ax_iast dX10_picture_106 gs9 ?_
    refine ax_aload_n (i := 0) dX10_picture_107 rfl rfl ?_
    obtain ⟨r10, gr10, h⟩ := Option.bind_eq_some_iff.mp h
    refine ax_getR (q := (RX10, TX10, 28)) (t := 7) (k := 0) dX10_picture_108 rfl (by decide) wd_761 rfl gr10 ?_
    refine ax_iload_n (i := 3) dX10_picture_111 rfl rfl ?_
    refine ax_iconst (v := (3)) dX10_picture_112 rfl ?_
    refine ax_iload (i := 4) dX10_picture_113 rfl ?_
    refine ax_iadd dX10_picture_115 ?_
    obtain ⟨q11, gq11, h⟩ := Option.bind_eq_some_iff.mp h
    refine ax_cS (As := [av_i a3, av_i ((3) + a4)]) dX10_picture_116 (th_X10_at gq11) (And.intro wd_863 wd_60) wd_861 wd_862 cy_X10_at (by omega) (by decide) (Nat.le_of_ble_eq_true rfl) rfl ?_
    obtain ⟨x12, gx12, h⟩ := Option.bind_eq_some_iff.mp h
    refine ax_iald dX10_picture_119 gx12 ?_
    refine ax_istore (i := 6) (L2 := [some (av_r a0), some (av_i a1), some (av_i a2), some (av_i a3), some (av_i a4), some (av_i b0), some (av_i x12)]) dX10_picture_120 (by decide) rfl rfl ?_
    refine ax_iload (i := 6) dX10_picture_122 rfl ?_
    refine ax_if_lt (tgt := 134) dX10_picture_124 (by decide) (fun c13 => ?_) (fun c13 => ?_)
    · rw [if_pos c13] at h
      refine ax_goto (tgt := 153) dX10_picture_134 (by decide) ?_
      refine ax_goto (tgt := 11) dX10_picture_153 (by decide) ?_
      exact ax_less (L' := [(some (av_r a0)), (some (av_i a1)), (some (av_i a2)), none, none, none, none]) ⟨rfl, rfl, rfl, trivial⟩ (hk11 _ _ _ _ h)
    · rw [if_neg c13] at h
      refine ax_aload_n (i := 0) dX10_picture_127 rfl rfl ?_
      refine ax_iload (i := 6) dX10_picture_128 rfl ?_
      refine ax_iload_n (i := 2) dX10_picture_130 rfl rfl ?_
      obtain ⟨w14, gw14, h⟩ := Option.bind_eq_some_iff.mp h
      obtain ⟨q15, gq15, h⟩ := Option.bind_eq_some_iff.mp h
      refine ax_cV (As := [av_i x12, av_i a2]) (t := 7) dX10_picture_131 gw14 (th_X10_asks gq15) rfl (And.intro wd_963 wd_60) wd_960 wd_962 wd_31 cy_X10_asks (by omega) (by decide) (Nat.le_of_ble_eq_true rfl) rfl ?_
      refine ax_goto (tgt := 153) dX10_picture_134 (by decide) ?_
      refine ax_goto (tgt := 11) dX10_picture_153 (by decide) ?_
      exact ax_less (L' := [(some (av_r a0)), (some (av_i a1)), (some (av_i a2)), none, none, none, none]) ⟨rfl, rfl, rfl, trivial⟩ (hk11 _ _ _ _ h)
def fb_X10_picture_11 : Nat → Option Nat → Int32 → Int32 → ax_S → Option (Int32 × ax_S)
  | 0, _, _, _, _ => none
  | n + 1, a0, a1, a2, s =>
    (ax_gi s 7 18 a0).bind fun x16 =>
    if x16 ≤ 0 then
      (ax_sh s 7 a0).bind fun w18 =>
      (fn_X10_find a0 a1 a2 s).bind fun q19 =>
      some (q19.1, q19.2)
    else
      (ax_gr s 7 16 a0).bind fun r20 =>
      (ax_gi s 7 18 a0).bind fun x21 =>
      (ax_al s 9 r20 (x21 - (1))).bind fun x22 =>
      (ax_gr s 7 17 a0).bind fun r23 =>
      (ax_gi s 7 18 a0).bind fun x24 =>
      (ax_al s 9 r23 (x24 - (1))).bind fun x25 =>
      (ax_sh s 7 a0).bind fun w26 =>
      (fn_X10_isInRange a0 x22 a2 s).bind fun q27 =>
      if q27.1 = 0 then
        (ax_gr q27.2 7 13 a0).bind fun r29 =>
        (ax_sh q27.2 7 a0).bind fun w30 =>
        (fn_X10_kind a0 x22 q27.2).bind fun q31 =>
        (ax_al q31.2 9 r29 q31.1).bind fun x32 =>
        if x32 ≤ 0 then
          fb_X10_picture_83 (fb_X10_picture_11 n) a0 a1 a2 x22 x25 (0) q31.2
        else
          fb_X10_picture_83 (fb_X10_picture_11 n) a0 a1 a2 x22 x25 (1) q31.2
      else
        (ax_gr q27.2 7 13 a0).bind fun r34 =>
        (ax_sh q27.2 7 a0).bind fun w35 =>
        (fn_X10_kind a0 x22 q27.2).bind fun q36 =>
        (ax_al q36.2 9 r34 q36.1).bind fun x37 =>
        fb_X10_picture_83 (fb_X10_picture_11 n) a0 a1 a2 x22 x25 x37 q36.2
set_option maxRecDepth 100000 in
set_option maxHeartbeats 4000000 in
theorem tb_X10_picture_11 {q : Int32 × ax_S} : ∀ (n : Nat) (a0 : Option Nat) (a1 : Int32) (a2 : Int32) (s : ax_S) (h : fb_X10_picture_11 n a0 a1 a2 s = some q), AW mm_X10_picture 5 0 0 11 [(some (av_r a0)), (some (av_i a1)), (some (av_i a2)), none, none, none, none] [] s (some (av_i q.1), q.2) := by
  intro n
  induction n with
  | zero =>
    intro a0 a1 a2 s h
    exact ax_no h
  | succ n ih =>
    intro a0 a1 a2 s h
    unfold fb_X10_picture_11 at h
    refine ax_aload_n (i := 0) dX10_picture_11 rfl rfl ?_
    obtain ⟨x16, gx16, h⟩ := Option.bind_eq_some_iff.mp h
    refine ax_getI (q := (RX10, TX10, 28)) (t := 7) (k := 18) dX10_picture_12 rfl (by decide) wd_779 rfl gx16 ?_
    refine ax_if_le (tgt := 156) dX10_picture_15 (by decide) (fun c17 => ?_) (fun c17 => ?_)
    · rw [if_pos c17] at h
      refine ax_aload_n (i := 0) dX10_picture_156 rfl rfl ?_
      refine ax_iload_n (i := 1) dX10_picture_157 rfl rfl ?_
      refine ax_iload_n (i := 2) dX10_picture_158 rfl rfl ?_
      obtain ⟨w18, gw18, h⟩ := Option.bind_eq_some_iff.mp h
      obtain ⟨q19, gq19, h⟩ := Option.bind_eq_some_iff.mp h
      refine ax_cV (As := [av_i a1, av_i a2]) (t := 7) dX10_picture_159 gw18 (th_X10_find gq19) rfl (And.intro wd_967 wd_60) wd_964 wd_966 wd_32 cy_X10_find (by omega) (by decide) (Nat.le_of_ble_eq_true rfl) rfl ?_
      exact ax_reti dX10_picture_162 h
    · rw [if_neg c17] at h
      refine ax_aload_n (i := 0) dX10_picture_18 rfl rfl ?_
      obtain ⟨r20, gr20, h⟩ := Option.bind_eq_some_iff.mp h
      refine ax_getR (q := (RX10, TX10, 28)) (t := 7) (k := 16) dX10_picture_19 rfl (by decide) wd_777 rfl gr20 ?_
      refine ax_aload_n (i := 0) dX10_picture_22 rfl rfl ?_
      obtain ⟨x21, gx21, h⟩ := Option.bind_eq_some_iff.mp h
      refine ax_getI (q := (RX10, TX10, 28)) (t := 7) (k := 18) dX10_picture_23 rfl (by decide) wd_779 rfl gx21 ?_
      refine ax_iconst (v := (1)) dX10_picture_26 rfl ?_
      refine ax_isub dX10_picture_27 ?_
      obtain ⟨x22, gx22, h⟩ := Option.bind_eq_some_iff.mp h
      refine ax_iald dX10_picture_28 gx22 ?_
      refine ax_istore_n (i := 3) (L2 := [some (av_r a0), some (av_i a1), some (av_i a2), some (av_i x22), none, none, none]) dX10_picture_29 rfl (by decide) rfl rfl ?_
      refine ax_aload_n (i := 0) dX10_picture_30 rfl rfl ?_
      obtain ⟨r23, gr23, h⟩ := Option.bind_eq_some_iff.mp h
      refine ax_getR (q := (RX10, TX10, 28)) (t := 7) (k := 17) dX10_picture_31 rfl (by decide) wd_778 rfl gr23 ?_
      refine ax_aload_n (i := 0) dX10_picture_34 rfl rfl ?_
      obtain ⟨x24, gx24, h⟩ := Option.bind_eq_some_iff.mp h
      refine ax_getI (q := (RX10, TX10, 28)) (t := 7) (k := 18) dX10_picture_35 rfl (by decide) wd_779 rfl gx24 ?_
      refine ax_iconst (v := (1)) dX10_picture_38 rfl ?_
      refine ax_isub dX10_picture_39 ?_
      obtain ⟨x25, gx25, h⟩ := Option.bind_eq_some_iff.mp h
      refine ax_iald dX10_picture_40 gx25 ?_
      refine ax_istore (i := 4) (L2 := [some (av_r a0), some (av_i a1), some (av_i a2), some (av_i x22), some (av_i x25), none, none]) dX10_picture_41 (by decide) rfl rfl ?_
      refine ax_aload_n (i := 0) dX10_picture_43 rfl rfl ?_
      refine ax_iload_n (i := 3) dX10_picture_44 rfl rfl ?_
      refine ax_iload_n (i := 2) dX10_picture_45 rfl rfl ?_
      obtain ⟨w26, gw26, h⟩ := Option.bind_eq_some_iff.mp h
      obtain ⟨q27, gq27, h⟩ := Option.bind_eq_some_iff.mp h
      refine ax_cV (As := [av_i x22, av_i a2]) (t := 7) dX10_picture_46 gw26 (th_X10_isInRange gq27) rfl (And.intro wd_975 wd_60) wd_972 wd_974 wd_34 cy_X10_isInRange (by omega) (by decide) (Nat.le_of_ble_eq_true rfl) rfl ?_
      refine ax_if_eq (tgt := 65) dX10_picture_49 (by decide) (fun c28 => ?_) (fun c28 => ?_)
      · rw [if_pos c28] at h
        refine ax_aload_n (i := 0) dX10_picture_65 rfl rfl ?_
        obtain ⟨r29, gr29, h⟩ := Option.bind_eq_some_iff.mp h
        refine ax_getR (q := (RX10, TX10, 28)) (t := 7) (k := 13) dX10_picture_66 rfl (by decide) wd_774 rfl gr29 ?_
        refine ax_aload_n (i := 0) dX10_picture_69 rfl rfl ?_
        refine ax_iload_n (i := 3) dX10_picture_70 rfl rfl ?_
        obtain ⟨w30, gw30, h⟩ := Option.bind_eq_some_iff.mp h
        obtain ⟨q31, gq31, h⟩ := Option.bind_eq_some_iff.mp h
        refine ax_cV (As := [av_i x22]) (t := 7) dX10_picture_71 gw30 (th_X10_kind gq31) rfl (And.intro wd_882 wd_60) wd_879 wd_881 wd_20 cy_X10_kind (by omega) (by decide) (Nat.le_of_ble_eq_true rfl) rfl ?_
        obtain ⟨x32, gx32, h⟩ := Option.bind_eq_some_iff.mp h
        refine ax_iald dX10_picture_74 gx32 ?_
        refine ax_if_le (tgt := 82) dX10_picture_75 (by decide) (fun c33 => ?_) (fun c33 => ?_)
        · rw [if_pos c33] at h
          refine ax_iconst (v := (0)) dX10_picture_82 rfl ?_
          exact ax_less (L' := [(some (av_r a0)), (some (av_i a1)), (some (av_i a2)), (some (av_i x22)), (some (av_i x25)), none, none]) ⟨rfl, rfl, rfl, rfl, rfl, trivial⟩ (tb_X10_picture_83 ih h)
        · rw [if_neg c33] at h
          refine ax_iconst (v := (1)) dX10_picture_78 rfl ?_
          refine ax_goto (tgt := 83) dX10_picture_79 (by decide) ?_
          exact ax_less (L' := [(some (av_r a0)), (some (av_i a1)), (some (av_i a2)), (some (av_i x22)), (some (av_i x25)), none, none]) ⟨rfl, rfl, rfl, rfl, rfl, trivial⟩ (tb_X10_picture_83 ih h)
      · rw [if_neg c28] at h
        refine ax_aload_n (i := 0) dX10_picture_52 rfl rfl ?_
        obtain ⟨r34, gr34, h⟩ := Option.bind_eq_some_iff.mp h
        refine ax_getR (q := (RX10, TX10, 28)) (t := 7) (k := 13) dX10_picture_53 rfl (by decide) wd_774 rfl gr34 ?_
        refine ax_aload_n (i := 0) dX10_picture_56 rfl rfl ?_
        refine ax_iload_n (i := 3) dX10_picture_57 rfl rfl ?_
        obtain ⟨w35, gw35, h⟩ := Option.bind_eq_some_iff.mp h
        obtain ⟨q36, gq36, h⟩ := Option.bind_eq_some_iff.mp h
        refine ax_cV (As := [av_i x22]) (t := 7) dX10_picture_58 gw35 (th_X10_kind gq36) rfl (And.intro wd_882 wd_60) wd_879 wd_881 wd_20 cy_X10_kind (by omega) (by decide) (Nat.le_of_ble_eq_true rfl) rfl ?_
        obtain ⟨x37, gx37, h⟩ := Option.bind_eq_some_iff.mp h
        refine ax_iald dX10_picture_61 gx37 ?_
        refine ax_goto (tgt := 83) dX10_picture_62 (by decide) ?_
        exact ax_less (L' := [(some (av_r a0)), (some (av_i a1)), (some (av_i a2)), (some (av_i x22)), (some (av_i x25)), none, none]) ⟨rfl, rfl, rfl, rfl, rfl, trivial⟩ (tb_X10_picture_83 ih h)
def fn_X10_picture (a0 : Option Nat) (a1 : Int32) (a2 : Int32) (s : ax_S) : Option (Int32 × ax_S) :=
  (ax_pi s 7 18 a0 (0)).bind fun s38 =>
  (ax_sh s38 7 a0).bind fun w39 =>
  (fn_X10_asks a0 a1 a2 s38).bind fun q40 =>
  fb_X10_picture_11 10000 a0 a1 a2 q40
set_option maxRecDepth 100000 in
set_option maxHeartbeats 4000000 in
theorem tw_X10_picture {q : Int32 × ax_S} {a0 : Option Nat} {a1 : Int32} {a2 : Int32} {s : ax_S} (h : fn_X10_picture a0 a1 a2 s = some q) : AW mm_X10_picture 5 0 0 0 [some (av_r a0), some (av_i a1), some (av_i a2), none, none, none, none] [] s (some (av_i q.1), q.2) := by
  unfold fn_X10_picture at h
  refine ax_aload_n (i := 0) dX10_picture_0 rfl rfl ?_
  refine ax_iconst (v := (0)) dX10_picture_1 rfl ?_
  obtain ⟨s38, gs38, h⟩ := Option.bind_eq_some_iff.mp h
  refine ax_putI (q := (RX10, TX10, 28)) (t := 7) (k := 18) dX10_picture_2 rfl (by decide) wd_779 rfl rfl ⟨rfl, rfl⟩ gs38 ?_
  refine ax_aload_n (i := 0) dX10_picture_5 rfl rfl ?_
  refine ax_iload_n (i := 1) dX10_picture_6 rfl rfl ?_
  refine ax_iload_n (i := 2) dX10_picture_7 rfl rfl ?_
  obtain ⟨w39, gw39, h⟩ := Option.bind_eq_some_iff.mp h
  obtain ⟨q40, gq40, h⟩ := Option.bind_eq_some_iff.mp h
  refine ax_cV (As := [av_i a1, av_i a2]) (t := 7) dX10_picture_8 gw39 (th_X10_asks gq40) rfl (And.intro wd_963 wd_60) wd_960 wd_962 wd_31 cy_X10_asks (by omega) (by decide) (Nat.le_of_ble_eq_true rfl) rfl ?_
  exact ax_less (L' := [(some (av_r a0)), (some (av_i a1)), (some (av_i a2)), none, none, none, none]) ⟨rfl, rfl, rfl, trivial⟩ (tb_X10_picture_11  _ _ _ _ _ h)
set_option maxRecDepth 100000 in
set_option maxHeartbeats 4000000 in
theorem th_X10_picture {q : Int32 × ax_S} {a0 : Option Nat} {a1 : Int32} {a2 : Int32} {s : ax_S} (h : fn_X10_picture a0 a1 a2 s = some q) : AC mm_X10_picture yX10_picture 5 0 0 [av_r a0, av_i a1, av_i a2] s (some (av_i q.1), q.2) := by
  exact ax_met (L0 := [some (av_r a0), some (av_i a1), some (av_i a2), none, none, none, none]) (by decide +kernel) rfl (fun h => absurd h (by decide)) ⟨rfl, rfl, rfl, trivial⟩ (Nat.le_of_ble_eq_true rfl) trivial (tw_X10_picture h)
/-! X10_compare -/
abbrev mm_X10_compare : ax_M := (RX10, cX10_compare, (some .int), 10, false)
def fb_X10_compare_100 (k57 : Option Nat → Int32 → Int32 → Int32 → Int32 → ax_S → Option (Int32 × ax_S)) (a0 : Option Nat) (a5 : Int32) (a6 : Int32) (a7 : Int32) (a8 : Int32) (b0 : Int32) (s : ax_S) : Option (Int32 × ax_S) :=
  if b0 ≤ a7 then
    k57 a0 a5 a6 a7 (a8 + (1)) s
  else
    k57 a0 a5 a6 b0 (a8 + (1)) s
set_option maxRecDepth 100000 in
set_option maxHeartbeats 4000000 in
theorem tb_X10_compare_100 {q : Int32 × ax_S} {k57 : Option Nat → Int32 → Int32 → Int32 → Int32 → ax_S → Option (Int32 × ax_S)} (hk57 : ∀ (a0 : Option Nat) (a5 : Int32) (a6 : Int32) (a7 : Int32) (a8 : Int32) (s : ax_S), k57 a0 a5 a6 a7 a8 s = some q → AW mm_X10_compare 6 0 0 57 [(some (av_r a0)), none, none, none, none, (some (av_i a5)), (some (av_i a6)), (some (av_i a7)), (some (av_i a8)), none] [] s (some (av_i q.1), q.2)) {a0 : Option Nat} {a5 : Int32} {a6 : Int32} {a7 : Int32} {a8 : Int32} {b0 : Int32} {s : ax_S} (h : fb_X10_compare_100 k57 a0 a5 a6 a7 a8 b0 s = some q) : AW mm_X10_compare 6 0 0 100 [(some (av_r a0)), none, none, none, none, (some (av_i a5)), (some (av_i a6)), (some (av_i a7)), (some (av_i a8)), none] [av_i b0] s (some (av_i q.1), q.2) := by
  unfold fb_X10_compare_100 at h
  refine ax_istore (i := 9) (L2 := [some (av_r a0), none, none, none, none, some (av_i a5), some (av_i a6), some (av_i a7), some (av_i a8), some (av_i b0)]) dX10_compare_100 (by decide) rfl rfl ?_
  refine ax_iload (i := 9) dX10_compare_102 rfl ?_
  refine ax_iload (i := 7) dX10_compare_104 rfl ?_
  refine ax_icmp_le (tgt := 114) dX10_compare_106 (by decide) (fun c1 => ?_) (fun c1 => ?_)
  · rw [if_pos c1] at h
    refine ax_iload (i := 7) dX10_compare_114 rfl ?_
    refine ax_istore (i := 7) (L2 := [some (av_r a0), none, none, none, none, some (av_i a5), some (av_i a6), some (av_i a7), some (av_i a8), some (av_i b0)]) dX10_compare_116 (by decide) rfl rfl ?_
    refine ax_iinc (i := 8) (v := (a8 + (1))) (L2 := [some (av_r a0), none, none, none, none, some (av_i a5), some (av_i a6), some (av_i a7), some (av_i (a8 + (1))), some (av_i b0)]) dX10_compare_118 rfl rfl (by decide) rfl rfl ?_
    refine ax_goto (tgt := 57) dX10_compare_121 (by decide) ?_
    exact ax_less (L' := [(some (av_r a0)), none, none, none, none, (some (av_i a5)), (some (av_i a6)), (some (av_i a7)), (some (av_i (a8 + (1)))), none]) ⟨rfl, rfl, rfl, rfl, rfl, trivial⟩ (hk57 _ _ _ _ _ _ h)
  · rw [if_neg c1] at h
    refine ax_iload (i := 9) dX10_compare_109 rfl ?_
    refine ax_goto (tgt := 116) dX10_compare_111 (by decide) ?_
    refine ax_istore (i := 7) (L2 := [some (av_r a0), none, none, none, none, some (av_i a5), some (av_i a6), some (av_i b0), some (av_i a8), some (av_i b0)]) dX10_compare_116 (by decide) rfl rfl ?_
    refine ax_iinc (i := 8) (v := (a8 + (1))) (L2 := [some (av_r a0), none, none, none, none, some (av_i a5), some (av_i a6), some (av_i b0), some (av_i (a8 + (1))), some (av_i b0)]) dX10_compare_118 rfl rfl (by decide) rfl rfl ?_
    refine ax_goto (tgt := 57) dX10_compare_121 (by decide) ?_
    exact ax_less (L' := [(some (av_r a0)), none, none, none, none, (some (av_i a5)), (some (av_i a6)), (some (av_i b0)), (some (av_i (a8 + (1)))), none]) ⟨rfl, rfl, rfl, rfl, rfl, trivial⟩ (hk57 _ _ _ _ _ _ h)
def fb_X10_compare_57 : Nat → Option Nat → Int32 → Int32 → Int32 → Int32 → ax_S → Option (Int32 × ax_S)
  | 0, _, _, _, _, _, _ => none
  | n + 1, a0, a5, a6, a7, a8, s =>
    if (96) ≤ a8 then
      some (a7, s)
    else
      (ax_gr s 7 8 a0).bind fun r3 =>
      (ax_al s 9 r3 (a6 + a8)).bind fun x4 =>
      (ax_gr s 7 8 a0).bind fun r5 =>
      (ax_al s 9 r5 (a5 + a8)).bind fun x6 =>
      ax_bd ((x4 - x6)) fun v7 =>
      if 0 ≤ v7 then
        fb_X10_compare_100 (fb_X10_compare_57 n) a0 a5 a6 a7 a8 v7 s
      else
        fb_X10_compare_100 (fb_X10_compare_57 n) a0 a5 a6 a7 a8 (-v7) s
set_option maxRecDepth 100000 in
set_option maxHeartbeats 4000000 in
theorem tb_X10_compare_57 {q : Int32 × ax_S} : ∀ (n : Nat) (a0 : Option Nat) (a5 : Int32) (a6 : Int32) (a7 : Int32) (a8 : Int32) (s : ax_S) (h : fb_X10_compare_57 n a0 a5 a6 a7 a8 s = some q), AW mm_X10_compare 6 0 0 57 [(some (av_r a0)), none, none, none, none, (some (av_i a5)), (some (av_i a6)), (some (av_i a7)), (some (av_i a8)), none] [] s (some (av_i q.1), q.2) := by
  intro n
  induction n with
  | zero =>
    intro a0 a5 a6 a7 a8 s h
    exact ax_no h
  | succ n ih =>
    intro a0 a5 a6 a7 a8 s h
    unfold fb_X10_compare_57 at h
    refine ax_iload (i := 8) dX10_compare_57 rfl ?_
    refine ax_bipush (v := (96)) dX10_compare_59 rfl ?_
    refine ax_icmp_ge (tgt := 124) dX10_compare_61 (by decide) (fun c2 => ?_) (fun c2 => ?_)
    · rw [if_pos c2] at h
      refine ax_iload (i := 7) dX10_compare_124 rfl ?_
      exact ax_reti dX10_compare_126 h
    · rw [if_neg c2] at h
      refine ax_aload_n (i := 0) dX10_compare_64 rfl rfl ?_
      obtain ⟨r3, gr3, h⟩ := Option.bind_eq_some_iff.mp h
      refine ax_getR (q := (RX10, TX10, 28)) (t := 7) (k := 8) dX10_compare_65 rfl (by decide) wd_769 rfl gr3 ?_
      refine ax_iload (i := 6) dX10_compare_68 rfl ?_
      refine ax_iload (i := 8) dX10_compare_70 rfl ?_
      refine ax_iadd dX10_compare_72 ?_
      obtain ⟨x4, gx4, h⟩ := Option.bind_eq_some_iff.mp h
      refine ax_iald dX10_compare_73 gx4 ?_
      refine ax_aload_n (i := 0) dX10_compare_74 rfl rfl ?_
      obtain ⟨r5, gr5, h⟩ := Option.bind_eq_some_iff.mp h
      refine ax_getR (q := (RX10, TX10, 28)) (t := 7) (k := 8) dX10_compare_75 rfl (by decide) wd_769 rfl gr5 ?_
      refine ax_iload (i := 5) dX10_compare_78 rfl ?_
      refine ax_iload (i := 8) dX10_compare_80 rfl ?_
      refine ax_iadd dX10_compare_82 ?_
      obtain ⟨x6, gx6, h⟩ := Option.bind_eq_some_iff.mp h
      refine ax_iald dX10_compare_83 gx6 ?_
      refine ax_isub dX10_compare_84 ?_
      refine ax_bdI h (fun v7 h => ?_)
      refine ax_istore (i := 9) (L2 := [some (av_r a0), none, none, none, none, some (av_i a5), some (av_i a6), some (av_i a7), some (av_i a8), some (av_i v7)]) dX10_compare_85 (by decide) rfl rfl ?_
      refine ax_iload (i := 9) dX10_compare_87 rfl ?_
      refine ax_if_ge (tgt := 98) dX10_compare_89 (by decide) (fun c8 => ?_) (fun c8 => ?_)
      · rw [if_pos c8] at h
        refine ax_iload (i := 9) dX10_compare_98 rfl ?_
        exact ax_less (L' := [(some (av_r a0)), none, none, none, none, (some (av_i a5)), (some (av_i a6)), (some (av_i a7)), (some (av_i a8)), none]) ⟨rfl, rfl, rfl, rfl, rfl, trivial⟩ (tb_X10_compare_100 ih h)
      · rw [if_neg c8] at h
        refine ax_iload (i := 9) dX10_compare_92 rfl ?_
        refine ax_ineg dX10_compare_94 ?_
        refine ax_goto (tgt := 100) dX10_compare_95 (by decide) ?_
        exact ax_less (L' := [(some (av_r a0)), none, none, none, none, (some (av_i a5)), (some (av_i a6)), (some (av_i a7)), (some (av_i a8)), none]) ⟨rfl, rfl, rfl, rfl, rfl, trivial⟩ (tb_X10_compare_100 ih h)
def fn_X10_compare (a0 : Option Nat) (a1 : Int32) (a2 : Int32) (a3 : Int32) (s : ax_S) : Option (Int32 × ax_S) :=
  (ax_sh s 7 a0).bind fun w9 =>
  (fn_X10_isPicture a0 a1 a3 s).bind fun q10 =>
  if q10.1 = 0 then
    some ((-1001), q10.2)
  else
    (ax_sh q10.2 7 a0).bind fun w12 =>
    (fn_X10_isNode a0 a2 q10.2).bind fun q13 =>
    if q13.1 = 0 then
      some ((-1001), q13.2)
    else
      (ax_sh q13.2 7 a0).bind fun w15 =>
      (fn_X10_picture a0 a1 a3 q13.2).bind fun q16 =>
      (ax_sh q16.2 7 a0).bind fun w17 =>
      (fn_X10_picture a0 a2 a3 q16.2).bind fun q18 =>
      ax_bd (((96) * q18.1)) fun v19 =>
      (ax_sh q18.2 7 a0).bind fun w20 =>
      (fn_X10_find a0 a1 a3 q18.2).bind fun q21 =>
      ax_bd (((96) * q21.1)) fun v22 =>
      fb_X10_compare_57 10000 a0 v19 v22 (0) (0) q21.2
set_option maxRecDepth 100000 in
set_option maxHeartbeats 4000000 in
theorem tw_X10_compare {q : Int32 × ax_S} {a0 : Option Nat} {a1 : Int32} {a2 : Int32} {a3 : Int32} {s : ax_S} (h : fn_X10_compare a0 a1 a2 a3 s = some q) : AW mm_X10_compare 6 0 0 0 [some (av_r a0), some (av_i a1), some (av_i a2), some (av_i a3), none, none, none, none, none, none] [] s (some (av_i q.1), q.2) := by
  unfold fn_X10_compare at h
  refine ax_aload_n (i := 0) dX10_compare_0 rfl rfl ?_
  refine ax_iload_n (i := 1) dX10_compare_1 rfl rfl ?_
  refine ax_iload_n (i := 3) dX10_compare_2 rfl rfl ?_
  obtain ⟨w9, gw9, h⟩ := Option.bind_eq_some_iff.mp h
  obtain ⟨q10, gq10, h⟩ := Option.bind_eq_some_iff.mp h
  refine ax_cV (As := [av_i a1, av_i a3]) (t := 7) dX10_compare_3 gw9 (th_X10_isPicture gq10) rfl (And.intro wd_955 wd_60) wd_952 wd_954 wd_29 cy_X10_isPicture (by omega) (by decide) (Nat.le_of_ble_eq_true rfl) rfl ?_
  refine ax_if_eq (tgt := 17) dX10_compare_6 (by decide) (fun c11 => ?_) (fun c11 => ?_)
  · rw [if_pos c11] at h
    refine ax_sipush (v := (-1001)) dX10_compare_17 rfl ?_
    exact ax_reti dX10_compare_20 h
  · rw [if_neg c11] at h
    refine ax_aload_n (i := 0) dX10_compare_9 rfl rfl ?_
    refine ax_iload_n (i := 2) dX10_compare_10 rfl rfl ?_
    obtain ⟨w12, gw12, h⟩ := Option.bind_eq_some_iff.mp h
    obtain ⟨q13, gq13, h⟩ := Option.bind_eq_some_iff.mp h
    refine ax_cV (As := [av_i a2]) (t := 7) dX10_compare_11 gw12 (th_X10_isNode gq13) rfl (And.intro wd_878 wd_60) wd_875 wd_877 wd_19 cy_X10_isNode (by omega) (by decide) (Nat.le_of_ble_eq_true rfl) rfl ?_
    refine ax_if_ne (tgt := 21) dX10_compare_14 (by decide) (fun c14 => ?_) (fun c14 => ?_)
    · rw [if_neg c14] at h
      refine ax_aload_n (i := 0) dX10_compare_21 rfl rfl ?_
      refine ax_iload_n (i := 1) dX10_compare_22 rfl rfl ?_
      refine ax_iload_n (i := 3) dX10_compare_23 rfl rfl ?_
      obtain ⟨w15, gw15, h⟩ := Option.bind_eq_some_iff.mp h
      obtain ⟨q16, gq16, h⟩ := Option.bind_eq_some_iff.mp h
      refine ax_cV (As := [av_i a1, av_i a3]) (t := 7) dX10_compare_24 gw15 (th_X10_picture gq16) rfl (And.intro wd_959 wd_60) wd_956 wd_958 wd_30 cy_X10_picture (by omega) (by decide) (Nat.le_of_ble_eq_true rfl) rfl ?_
      refine ax_istore (i := 4) (L2 := [some (av_r a0), some (av_i a1), some (av_i a2), some (av_i a3), some (av_i q16.1), none, none, none, none, none]) dX10_compare_27 (by decide) rfl rfl ?_
      refine ax_bipush (v := (96)) dX10_compare_29 rfl ?_
      refine ax_aload_n (i := 0) dX10_compare_31 rfl rfl ?_
      refine ax_iload_n (i := 2) dX10_compare_32 rfl rfl ?_
      refine ax_iload_n (i := 3) dX10_compare_33 rfl rfl ?_
      obtain ⟨w17, gw17, h⟩ := Option.bind_eq_some_iff.mp h
      obtain ⟨q18, gq18, h⟩ := Option.bind_eq_some_iff.mp h
      refine ax_cV (As := [av_i a2, av_i a3]) (t := 7) dX10_compare_34 gw17 (th_X10_picture gq18) rfl (And.intro wd_959 wd_60) wd_956 wd_958 wd_30 cy_X10_picture (by omega) (by decide) (Nat.le_of_ble_eq_true rfl) rfl ?_
      refine ax_imul dX10_compare_37 ?_
      refine ax_bdI h (fun v19 h => ?_)
      refine ax_istore (i := 5) (L2 := [some (av_r a0), some (av_i a1), some (av_i a2), some (av_i a3), some (av_i q16.1), some (av_i v19), none, none, none, none]) dX10_compare_38 (by decide) rfl rfl ?_
      refine ax_bipush (v := (96)) dX10_compare_40 rfl ?_
      refine ax_aload_n (i := 0) dX10_compare_42 rfl rfl ?_
      refine ax_iload_n (i := 1) dX10_compare_43 rfl rfl ?_
      refine ax_iload_n (i := 3) dX10_compare_44 rfl rfl ?_
      obtain ⟨w20, gw20, h⟩ := Option.bind_eq_some_iff.mp h
      obtain ⟨q21, gq21, h⟩ := Option.bind_eq_some_iff.mp h
      refine ax_cV (As := [av_i a1, av_i a3]) (t := 7) dX10_compare_45 gw20 (th_X10_find gq21) rfl (And.intro wd_967 wd_60) wd_964 wd_966 wd_32 cy_X10_find (by omega) (by decide) (Nat.le_of_ble_eq_true rfl) rfl ?_
      refine ax_imul dX10_compare_48 ?_
      refine ax_bdI h (fun v22 h => ?_)
      refine ax_istore (i := 6) (L2 := [some (av_r a0), some (av_i a1), some (av_i a2), some (av_i a3), some (av_i q16.1), some (av_i v19), some (av_i v22), none, none, none]) dX10_compare_49 (by decide) rfl rfl ?_
      refine ax_iconst (v := (0)) dX10_compare_51 rfl ?_
      refine ax_istore (i := 7) (L2 := [some (av_r a0), some (av_i a1), some (av_i a2), some (av_i a3), some (av_i q16.1), some (av_i v19), some (av_i v22), some (av_i (0)), none, none]) dX10_compare_52 (by decide) rfl rfl ?_
      refine ax_iconst (v := (0)) dX10_compare_54 rfl ?_
      refine ax_istore (i := 8) (L2 := [some (av_r a0), some (av_i a1), some (av_i a2), some (av_i a3), some (av_i q16.1), some (av_i v19), some (av_i v22), some (av_i (0)), some (av_i (0)), none]) dX10_compare_55 (by decide) rfl rfl ?_
      exact ax_less (L' := [(some (av_r a0)), none, none, none, none, (some (av_i v19)), (some (av_i v22)), (some (av_i (0))), (some (av_i (0))), none]) ⟨rfl, rfl, rfl, rfl, rfl, trivial⟩ (tb_X10_compare_57  _ _ _ _ _ _ _ h)
    · rw [if_pos c14] at h
      refine ax_sipush (v := (-1001)) dX10_compare_17 rfl ?_
      exact ax_reti dX10_compare_20 h
set_option maxRecDepth 100000 in
set_option maxHeartbeats 4000000 in
theorem th_X10_compare {q : Int32 × ax_S} {a0 : Option Nat} {a1 : Int32} {a2 : Int32} {a3 : Int32} {s : ax_S} (h : fn_X10_compare a0 a1 a2 a3 s = some q) : AC mm_X10_compare yX10_compare 6 0 0 [av_r a0, av_i a1, av_i a2, av_i a3] s (some (av_i q.1), q.2) := by
  exact ax_met (L0 := [some (av_r a0), some (av_i a1), some (av_i a2), some (av_i a3), none, none, none, none, none, none]) (by decide +kernel) rfl (fun h => absurd h (by decide)) ⟨rfl, rfl, rfl, rfl, trivial⟩ (Nat.le_of_ble_eq_true rfl) trivial (tw_X10_compare h)
/-! X10_isInput -/
abbrev mm_X10_isInput : ax_M := (RX10, cX10_isInput, (some .boolean), 3, false)
def fi_X10_isInput (a0 : Option Nat) (a1 : Int32) (a2 : Int32) (s : ax_S) : Option (Int32 × ax_S) :=
  (ax_sh s 7 a0).bind fun w1 =>
  (fn_X10_isNode a0 a1 s).bind fun q2 =>
  if q2.1 = 0 then
    some ((0), q2.2)
  else
    (ax_gr q2.2 7 13 a0).bind fun r4 =>
    (ax_sh q2.2 7 a0).bind fun w5 =>
    (fn_X10_kind a0 a1 q2.2).bind fun q6 =>
    (ax_al q6.2 9 r4 q6.1).bind fun x7 =>
    (fn_X10_in a2 (0) (x7 - (1)) q6.2).bind fun q8 =>
    if q8.1 = 0 then
      some ((0), q8.2)
    else
      some ((1), q8.2)
set_option maxRecDepth 100000 in
set_option maxHeartbeats 4000000 in
theorem tw_X10_isInput {q : Int32 × ax_S} {a0 : Option Nat} {a1 : Int32} {a2 : Int32} {s : ax_S} (h : fi_X10_isInput a0 a1 a2 s = some q) : AW mm_X10_isInput 2 0 0 0 [some (av_r a0), some (av_i a1), some (av_i a2)] [] s (some (av_i q.1), q.2) := by
  unfold fi_X10_isInput at h
  refine ax_aload_n (i := 0) dX10_isInput_0 rfl rfl ?_
  refine ax_iload_n (i := 1) dX10_isInput_1 rfl rfl ?_
  obtain ⟨w1, gw1, h⟩ := Option.bind_eq_some_iff.mp h
  obtain ⟨q2, gq2, h⟩ := Option.bind_eq_some_iff.mp h
  refine ax_cV (As := [av_i a1]) (t := 7) dX10_isInput_2 gw1 (th_X10_isNode gq2) rfl (And.intro wd_878 wd_60) wd_875 wd_877 wd_19 cy_X10_isNode (by omega) (by decide) (Nat.le_of_ble_eq_true rfl) rfl ?_
  refine ax_if_eq (tgt := 32) dX10_isInput_5 (by decide) (fun c3 => ?_) (fun c3 => ?_)
  · rw [if_pos c3] at h
    refine ax_iconst (v := (0)) dX10_isInput_32 rfl ?_
    exact ax_reti dX10_isInput_33 h
  · rw [if_neg c3] at h
    refine ax_iload_n (i := 2) dX10_isInput_8 rfl rfl ?_
    refine ax_iconst (v := (0)) dX10_isInput_9 rfl ?_
    refine ax_aload_n (i := 0) dX10_isInput_10 rfl rfl ?_
    obtain ⟨r4, gr4, h⟩ := Option.bind_eq_some_iff.mp h
    refine ax_getR (q := (RX10, TX10, 28)) (t := 7) (k := 13) dX10_isInput_11 rfl (by decide) wd_774 rfl gr4 ?_
    refine ax_aload_n (i := 0) dX10_isInput_14 rfl rfl ?_
    refine ax_iload_n (i := 1) dX10_isInput_15 rfl rfl ?_
    obtain ⟨w5, gw5, h⟩ := Option.bind_eq_some_iff.mp h
    obtain ⟨q6, gq6, h⟩ := Option.bind_eq_some_iff.mp h
    refine ax_cV (As := [av_i a1]) (t := 7) dX10_isInput_16 gw5 (th_X10_kind gq6) rfl (And.intro wd_882 wd_60) wd_879 wd_881 wd_20 cy_X10_kind (by omega) (by decide) (Nat.le_of_ble_eq_true rfl) rfl ?_
    obtain ⟨x7, gx7, h⟩ := Option.bind_eq_some_iff.mp h
    refine ax_iald dX10_isInput_19 gx7 ?_
    refine ax_iconst (v := (1)) dX10_isInput_20 rfl ?_
    refine ax_isub dX10_isInput_21 ?_
    obtain ⟨q8, gq8, h⟩ := Option.bind_eq_some_iff.mp h
    refine ax_cS (As := [av_i a2, av_i (0), av_i (x7 - (1))]) dX10_isInput_22 (th_X10_in gq8) (And.intro wd_856 wd_60) wd_854 wd_855 cy_X10_in (by omega) (by decide) (Nat.le_of_ble_eq_true rfl) rfl ?_
    refine ax_if_eq (tgt := 32) dX10_isInput_25 (by decide) (fun c9 => ?_) (fun c9 => ?_)
    · rw [if_pos c9] at h
      refine ax_iconst (v := (0)) dX10_isInput_32 rfl ?_
      exact ax_reti dX10_isInput_33 h
    · rw [if_neg c9] at h
      refine ax_iconst (v := (1)) dX10_isInput_28 rfl ?_
      refine ax_goto (tgt := 33) dX10_isInput_29 (by decide) ?_
      exact ax_reti dX10_isInput_33 h
def fn_X10_isInput (a0 : Option Nat) (a1 : Int32) (a2 : Int32) (s : ax_S) : Option (Int32 × ax_S) := ax_bz (fi_X10_isInput a0 a1 a2 s)
set_option maxRecDepth 100000 in
set_option maxHeartbeats 4000000 in
theorem th_X10_isInput {q : Int32 × ax_S} {a0 : Option Nat} {a1 : Int32} {a2 : Int32} {s : ax_S} (h : fn_X10_isInput a0 a1 a2 s = some q) : AC mm_X10_isInput yX10_isInput 2 0 0 [av_r a0, av_i a1, av_i a2] s (some (av_i q.1), q.2) := by
  obtain ⟨h, hz⟩ := ax_bz_of h
  exact ax_met (L0 := [some (av_r a0), some (av_i a1), some (av_i a2)]) (by decide +kernel) rfl (fun h => absurd h (by decide)) ⟨rfl, rfl, rfl, trivial⟩ (Nat.le_of_ble_eq_true rfl) hz (tw_X10_isInput h)
/-! X10_voids -/
abbrev mm_X10_voids : ax_M := (RX10, cX10_voids, (some .int), 10, false)
def fb_X10_voids_18 : Nat → Option Nat → Int32 → Int32 → Int32 → Int32 → Int32 → Int32 → Int32 → ax_S → Option (Int32 × ax_S)
  | 0, _, _, _, _, _, _, _, _, _ => none
  | n + 1, a0, a2, a3, a4, a5, a6, a7, a8, s =>
    if a8 < 0 then
      (ax_gr s 7 10 a0).bind fun r2 =>
      (ax_al s 9 r2 (4)).bind fun x3 =>
      (ax_as s 9 r2 (4) (x3 + a7)).bind fun s4 =>
      some (a7, s4)
    else
      (ax_gr s 7 6 a0).bind fun r5 =>
      (ax_al s 9 r5 a8).bind fun x6 =>
      (ax_gr s 7 5 a0).bind fun r7 =>
      (ax_al s 9 r7 a8).bind fun x8 =>
      if ((a6 >>> (x8 &&& 31)) &&& (1)) = (1) then
        (fn_X10_in x6 a2 a3 s).bind fun q10 =>
        if q10.1 = 0 then
          (fb_X10_voids_18 n) a0 a2 a3 a4 a5 a6 a7 (a8 + (-1)) q10.2
        else
          (fn_X10_in x6 a4 a5 q10.2).bind fun q12 =>
          if q12.1 = 0 then
            (ax_sh q12.2 7 a0).bind fun w14 =>
            (fn_X10_drops a0 a8 q12.2).bind fun q15 =>
            (fb_X10_voids_18 n) a0 a2 a3 a4 a5 a6 (a7 + (1)) (a8 + (-1)) q15
          else
            (fb_X10_voids_18 n) a0 a2 a3 a4 a5 a6 a7 (a8 + (-1)) q12.2
      else
        (fb_X10_voids_18 n) a0 a2 a3 a4 a5 a6 a7 (a8 + (-1)) s
set_option maxRecDepth 100000 in
set_option maxHeartbeats 4000000 in
theorem tb_X10_voids_18 {q : Int32 × ax_S} : ∀ (n : Nat) (a0 : Option Nat) (a2 : Int32) (a3 : Int32) (a4 : Int32) (a5 : Int32) (a6 : Int32) (a7 : Int32) (a8 : Int32) (s : ax_S) (h : fb_X10_voids_18 n a0 a2 a3 a4 a5 a6 a7 a8 s = some q), AW mm_X10_voids 2 0 0 18 [(some (av_r a0)), none, (some (av_i a2)), (some (av_i a3)), (some (av_i a4)), (some (av_i a5)), (some (av_i a6)), (some (av_i a7)), (some (av_i a8)), none] [] s (some (av_i q.1), q.2) := by
  intro n
  induction n with
  | zero =>
    intro a0 a2 a3 a4 a5 a6 a7 a8 s h
    exact ax_no h
  | succ n ih =>
    intro a0 a2 a3 a4 a5 a6 a7 a8 s h
    unfold fb_X10_voids_18 at h
    refine ax_iload (i := 8) dX10_voids_18 rfl ?_
    refine ax_if_lt (tgt := 85) dX10_voids_20 (by decide) (fun c1 => ?_) (fun c1 => ?_)
    · rw [if_pos c1] at h
      refine ax_aload_n (i := 0) dX10_voids_85 rfl rfl ?_
      obtain ⟨r2, gr2, h⟩ := Option.bind_eq_some_iff.mp h
      refine ax_getR (q := (RX10, TX10, 28)) (t := 7) (k := 10) dX10_voids_86 rfl (by decide) wd_771 rfl gr2 ?_
      refine ax_iconst (v := (4)) dX10_voids_89 rfl ?_
      refine ax_dup2 dX10_voids_90 trivial trivial ?_
      obtain ⟨x3, gx3, h⟩ := Option.bind_eq_some_iff.mp h
      refine ax_iald dX10_voids_91 gx3 ?_
      refine ax_iload (i := 7) dX10_voids_92 rfl ?_
      refine ax_iadd dX10_voids_94 ?_
      obtain ⟨s4, gs4, h⟩ := Option.bind_eq_some_iff.mp h
      refine ax_iast dX10_voids_95 gs4 ?_
      refine ax_iload (i := 7) dX10_voids_96 rfl ?_
      exact ax_reti dX10_voids_98 h
    · rw [if_neg c1] at h
      refine ax_aload_n (i := 0) dX10_voids_23 rfl rfl ?_
      obtain ⟨r5, gr5, h⟩ := Option.bind_eq_some_iff.mp h
      refine ax_getR (q := (RX10, TX10, 28)) (t := 7) (k := 6) dX10_voids_24 rfl (by decide) wd_767 rfl gr5 ?_
      refine ax_iload (i := 8) dX10_voids_27 rfl ?_
      obtain ⟨x6, gx6, h⟩ := Option.bind_eq_some_iff.mp h
      refine ax_iald dX10_voids_29 gx6 ?_
      refine ax_istore (i := 9) (L2 := [some (av_r a0), none, some (av_i a2), some (av_i a3), some (av_i a4), some (av_i a5), some (av_i a6), some (av_i a7), some (av_i a8), some (av_i x6)]) dX10_voids_30 (by decide) rfl rfl ?_
      refine ax_iload (i := 6) dX10_voids_32 rfl ?_
      refine ax_aload_n (i := 0) dX10_voids_34 rfl rfl ?_
      obtain ⟨r7, gr7, h⟩ := Option.bind_eq_some_iff.mp h
      refine ax_getR (q := (RX10, TX10, 28)) (t := 7) (k := 5) dX10_voids_35 rfl (by decide) wd_766 rfl gr7 ?_
      refine ax_iload (i := 8) dX10_voids_38 rfl ?_
      obtain ⟨x8, gx8, h⟩ := Option.bind_eq_some_iff.mp h
      refine ax_iald dX10_voids_40 gx8 ?_
      refine ax_ishr dX10_voids_41 ?_
      refine ax_iconst (v := (1)) dX10_voids_42 rfl ?_
      refine ax_iand dX10_voids_43 ?_
      refine ax_iconst (v := (1)) dX10_voids_44 rfl ?_
      refine ax_icmp_ne (tgt := 79) dX10_voids_45 (by decide) (fun c9 => ?_) (fun c9 => ?_)
      · rw [if_neg c9] at h
        refine ax_iinc (i := 8) (v := (a8 + (-1))) (L2 := [some (av_r a0), none, some (av_i a2), some (av_i a3), some (av_i a4), some (av_i a5), some (av_i a6), some (av_i a7), some (av_i (a8 + (-1))), some (av_i x6)]) dX10_voids_79 rfl rfl (by decide) rfl rfl ?_
        refine ax_goto (tgt := 18) dX10_voids_82 (by decide) ?_
        exact ax_less (L' := [(some (av_r a0)), none, (some (av_i a2)), (some (av_i a3)), (some (av_i a4)), (some (av_i a5)), (some (av_i a6)), (some (av_i a7)), (some (av_i (a8 + (-1)))), none]) ⟨rfl, rfl, rfl, rfl, rfl, rfl, rfl, rfl, trivial⟩ (ih _ _ _ _ _ _ _ _ _ h)
      · rw [if_pos c9] at h
        refine ax_iload (i := 9) dX10_voids_48 rfl ?_
        refine ax_iload_n (i := 2) dX10_voids_50 rfl rfl ?_
        refine ax_iload_n (i := 3) dX10_voids_51 rfl rfl ?_
        obtain ⟨q10, gq10, h⟩ := Option.bind_eq_some_iff.mp h
        refine ax_cS (As := [av_i x6, av_i a2, av_i a3]) dX10_voids_52 (th_X10_in gq10) (And.intro wd_856 wd_60) wd_854 wd_855 cy_X10_in (by omega) (by decide) (Nat.le_of_ble_eq_true rfl) rfl ?_
        refine ax_if_eq (tgt := 79) dX10_voids_55 (by decide) (fun c11 => ?_) (fun c11 => ?_)
        · rw [if_pos c11] at h
          refine ax_iinc (i := 8) (v := (a8 + (-1))) (L2 := [some (av_r a0), none, some (av_i a2), some (av_i a3), some (av_i a4), some (av_i a5), some (av_i a6), some (av_i a7), some (av_i (a8 + (-1))), some (av_i x6)]) dX10_voids_79 rfl rfl (by decide) rfl rfl ?_
          refine ax_goto (tgt := 18) dX10_voids_82 (by decide) ?_
          exact ax_less (L' := [(some (av_r a0)), none, (some (av_i a2)), (some (av_i a3)), (some (av_i a4)), (some (av_i a5)), (some (av_i a6)), (some (av_i a7)), (some (av_i (a8 + (-1)))), none]) ⟨rfl, rfl, rfl, rfl, rfl, rfl, rfl, rfl, trivial⟩ (ih _ _ _ _ _ _ _ _ _ h)
        · rw [if_neg c11] at h
          refine ax_iload (i := 9) dX10_voids_58 rfl ?_
          refine ax_iload (i := 4) dX10_voids_60 rfl ?_
          refine ax_iload (i := 5) dX10_voids_62 rfl ?_
          obtain ⟨q12, gq12, h⟩ := Option.bind_eq_some_iff.mp h
          refine ax_cS (As := [av_i x6, av_i a4, av_i a5]) dX10_voids_64 (th_X10_in gq12) (And.intro wd_856 wd_60) wd_854 wd_855 cy_X10_in (by omega) (by decide) (Nat.le_of_ble_eq_true rfl) rfl ?_
          refine ax_if_ne (tgt := 79) dX10_voids_67 (by decide) (fun c13 => ?_) (fun c13 => ?_)
          · rw [if_neg c13] at h
            refine ax_iinc (i := 8) (v := (a8 + (-1))) (L2 := [some (av_r a0), none, some (av_i a2), some (av_i a3), some (av_i a4), some (av_i a5), some (av_i a6), some (av_i a7), some (av_i (a8 + (-1))), some (av_i x6)]) dX10_voids_79 rfl rfl (by decide) rfl rfl ?_
            refine ax_goto (tgt := 18) dX10_voids_82 (by decide) ?_
            exact ax_less (L' := [(some (av_r a0)), none, (some (av_i a2)), (some (av_i a3)), (some (av_i a4)), (some (av_i a5)), (some (av_i a6)), (some (av_i a7)), (some (av_i (a8 + (-1)))), none]) ⟨rfl, rfl, rfl, rfl, rfl, rfl, rfl, rfl, trivial⟩ (ih _ _ _ _ _ _ _ _ _ h)
          · rw [if_pos c13] at h
            refine ax_aload_n (i := 0) dX10_voids_70 rfl rfl ?_
            refine ax_iload (i := 8) dX10_voids_71 rfl ?_
            obtain ⟨w14, gw14, h⟩ := Option.bind_eq_some_iff.mp h
            obtain ⟨q15, gq15, h⟩ := Option.bind_eq_some_iff.mp h
            refine ax_cV (As := [av_i a8]) (t := 7) dX10_voids_73 gw14 (th_X10_drops gq15) rfl (And.intro wd_894 wd_60) wd_891 wd_893 wd_23 cy_X10_drops (by omega) (by decide) (Nat.le_of_ble_eq_true rfl) rfl ?_
            refine ax_iinc (i := 7) (v := (a7 + (1))) (L2 := [some (av_r a0), none, some (av_i a2), some (av_i a3), some (av_i a4), some (av_i a5), some (av_i a6), some (av_i (a7 + (1))), some (av_i a8), some (av_i x6)]) dX10_voids_76 rfl rfl (by decide) rfl rfl ?_
            refine ax_iinc (i := 8) (v := (a8 + (-1))) (L2 := [some (av_r a0), none, some (av_i a2), some (av_i a3), some (av_i a4), some (av_i a5), some (av_i a6), some (av_i (a7 + (1))), some (av_i (a8 + (-1))), some (av_i x6)]) dX10_voids_79 rfl rfl (by decide) rfl rfl ?_
            refine ax_goto (tgt := 18) dX10_voids_82 (by decide) ?_
            exact ax_less (L' := [(some (av_r a0)), none, (some (av_i a2)), (some (av_i a3)), (some (av_i a4)), (some (av_i a5)), (some (av_i a6)), (some (av_i (a7 + (1)))), (some (av_i (a8 + (-1)))), none]) ⟨rfl, rfl, rfl, rfl, rfl, rfl, rfl, rfl, trivial⟩ (ih _ _ _ _ _ _ _ _ _ h)
def fn_X10_voids (a0 : Option Nat) (a1 : Int32) (a2 : Int32) (a3 : Int32) (a4 : Int32) (a5 : Int32) (s : ax_S) : Option (Int32 × ax_S) :=
  (ax_sh s 7 a0).bind fun w16 =>
  (fn_X10_dependents a0 a1 s).bind fun q17 =>
  (ax_gi q17.2 7 4 a0).bind fun x18 =>
  ax_bd ((x18 - (1))) fun v19 =>
  fb_X10_voids_18 10000 a0 a2 a3 a4 a5 q17.1 (0) v19 q17.2
set_option maxRecDepth 100000 in
set_option maxHeartbeats 4000000 in
theorem tw_X10_voids {q : Int32 × ax_S} {a0 : Option Nat} {a1 : Int32} {a2 : Int32} {a3 : Int32} {a4 : Int32} {a5 : Int32} {s : ax_S} (h : fn_X10_voids a0 a1 a2 a3 a4 a5 s = some q) : AW mm_X10_voids 2 0 0 0 [some (av_r a0), some (av_i a1), some (av_i a2), some (av_i a3), some (av_i a4), some (av_i a5), none, none, none, none] [] s (some (av_i q.1), q.2) := by
  unfold fn_X10_voids at h
  refine ax_aload_n (i := 0) dX10_voids_0 rfl rfl ?_
  refine ax_iload_n (i := 1) dX10_voids_1 rfl rfl ?_
  obtain ⟨w16, gw16, h⟩ := Option.bind_eq_some_iff.mp h
  obtain ⟨q17, gq17, h⟩ := Option.bind_eq_some_iff.mp h
  refine ax_cV (As := [av_i a1]) (t := 7) dX10_voids_2 gw16 (th_X10_dependents gq17) rfl (And.intro wd_886 wd_60) wd_883 wd_885 wd_21 cy_X10_dependents (by omega) (by decide) (Nat.le_of_ble_eq_true rfl) rfl ?_
  refine ax_istore (i := 6) (L2 := [some (av_r a0), some (av_i a1), some (av_i a2), some (av_i a3), some (av_i a4), some (av_i a5), some (av_i q17.1), none, none, none]) dX10_voids_5 (by decide) rfl rfl ?_
  refine ax_iconst (v := (0)) dX10_voids_7 rfl ?_
  refine ax_istore (i := 7) (L2 := [some (av_r a0), some (av_i a1), some (av_i a2), some (av_i a3), some (av_i a4), some (av_i a5), some (av_i q17.1), some (av_i (0)), none, none]) dX10_voids_8 (by decide) rfl rfl ?_
  refine ax_aload_n (i := 0) dX10_voids_10 rfl rfl ?_
  obtain ⟨x18, gx18, h⟩ := Option.bind_eq_some_iff.mp h
  refine ax_getI (q := (RX10, TX10, 28)) (t := 7) (k := 4) dX10_voids_11 rfl (by decide) wd_765 rfl gx18 ?_
  refine ax_iconst (v := (1)) dX10_voids_14 rfl ?_
  refine ax_isub dX10_voids_15 ?_
  refine ax_bdI h (fun v19 h => ?_)
  refine ax_istore (i := 8) (L2 := [some (av_r a0), some (av_i a1), some (av_i a2), some (av_i a3), some (av_i a4), some (av_i a5), some (av_i q17.1), some (av_i (0)), some (av_i v19), none]) dX10_voids_16 (by decide) rfl rfl ?_
  exact ax_less (L' := [(some (av_r a0)), none, (some (av_i a2)), (some (av_i a3)), (some (av_i a4)), (some (av_i a5)), (some (av_i q17.1)), (some (av_i (0))), (some (av_i v19)), none]) ⟨rfl, rfl, rfl, rfl, rfl, rfl, rfl, rfl, trivial⟩ (tb_X10_voids_18  _ _ _ _ _ _ _ _ _ _ h)
set_option maxRecDepth 100000 in
set_option maxHeartbeats 4000000 in
theorem th_X10_voids {q : Int32 × ax_S} {a0 : Option Nat} {a1 : Int32} {a2 : Int32} {a3 : Int32} {a4 : Int32} {a5 : Int32} {s : ax_S} (h : fn_X10_voids a0 a1 a2 a3 a4 a5 s = some q) : AC mm_X10_voids yX10_voids 2 0 0 [av_r a0, av_i a1, av_i a2, av_i a3, av_i a4, av_i a5] s (some (av_i q.1), q.2) := by
  exact ax_met (L0 := [some (av_r a0), some (av_i a1), some (av_i a2), some (av_i a3), some (av_i a4), some (av_i a5), none, none, none, none]) (by decide +kernel) rfl (fun h => absurd h (by decide)) ⟨rfl, rfl, rfl, rfl, rfl, rfl, trivial⟩ (Nat.le_of_ble_eq_true rfl) trivial (tw_X10_voids h)
/-! X10_connect -/
abbrev mm_X10_connect : ax_M := (RX10, cX10_connect, (some .int), 4, false)
def fb_X10_connect_52 (a0 : Option Nat) (a1 : Int32) (a2 : Int32) (a3 : Int32) (s : ax_S) : Option (Int32 × ax_S) :=
  (ax_gr s 7 0 a0).bind fun r1 =>
  (fn_X10_at a1 ((3) + a2) s).bind fun q2 =>
  (ax_as q2.2 9 r1 q2.1 a3).bind fun s3 =>
  if a2 = 0 then
    (ax_sh s3 7 a0).bind fun w13 =>
    (fn_X10_voids a0 a1 (0) (99) (1) (0) s3).bind fun q14 =>
    some (q14.1, q14.2)
  else
    (ax_gr s3 7 0 a0).bind fun r5 =>
    (fn_X10_at a1 (1) s3).bind fun q6 =>
    (ax_al q6.2 9 r5 q6.1).bind fun x7 =>
    (ax_gr q6.2 7 0 a0).bind fun r8 =>
    (fn_X10_at a1 (2) q6.2).bind fun q9 =>
    (ax_al q9.2 9 r8 q9.1).bind fun x10 =>
    (ax_sh q9.2 7 a0).bind fun w11 =>
    (fn_X10_voids a0 a1 x7 x10 (1) (0) q9.2).bind fun q12 =>
    some (q12.1, q12.2)
set_option maxRecDepth 100000 in
set_option maxHeartbeats 4000000 in
theorem tb_X10_connect_52 {q : Int32 × ax_S} {a0 : Option Nat} {a1 : Int32} {a2 : Int32} {a3 : Int32} {s : ax_S} (h : fb_X10_connect_52 a0 a1 a2 a3 s = some q) : AW mm_X10_connect 3 0 0 52 [(some (av_r a0)), (some (av_i a1)), (some (av_i a2)), (some (av_i a3))] [] s (some (av_i q.1), q.2) := by
  unfold fb_X10_connect_52 at h
  refine ax_aload_n (i := 0) dX10_connect_52 rfl rfl ?_
  obtain ⟨r1, gr1, h⟩ := Option.bind_eq_some_iff.mp h
  refine ax_getR (q := (RX10, TX10, 28)) (t := 7) (k := 0) dX10_connect_53 rfl (by decide) wd_761 rfl gr1 ?_
  refine ax_iload_n (i := 1) dX10_connect_56 rfl rfl ?_
  refine ax_iconst (v := (3)) dX10_connect_57 rfl ?_
  refine ax_iload_n (i := 2) dX10_connect_58 rfl rfl ?_
  refine ax_iadd dX10_connect_59 ?_
  obtain ⟨q2, gq2, h⟩ := Option.bind_eq_some_iff.mp h
  refine ax_cS (As := [av_i a1, av_i ((3) + a2)]) dX10_connect_60 (th_X10_at gq2) (And.intro wd_863 wd_60) wd_861 wd_862 cy_X10_at (by omega) (by decide) (Nat.le_of_ble_eq_true rfl) rfl ?_
  refine ax_iload_n (i := 3) dX10_connect_63 rfl rfl ?_
  obtain ⟨s3, gs3, h⟩ := Option.bind_eq_some_iff.mp h
  refine ax_iast dX10_connect_64 gs3 ?_
  refine ax_iload_n (i := 2) dX10_connect_65 rfl rfl ?_
  refine ax_if_ne (tgt := 82) dX10_connect_66 (by decide) (fun c4 => ?_) (fun c4 => ?_)
  · rw [if_neg c4] at h
    refine ax_aload_n (i := 0) dX10_connect_82 rfl rfl ?_
    refine ax_iload_n (i := 1) dX10_connect_83 rfl rfl ?_
    refine ax_aload_n (i := 0) dX10_connect_84 rfl rfl ?_
    obtain ⟨r5, gr5, h⟩ := Option.bind_eq_some_iff.mp h
    refine ax_getR (q := (RX10, TX10, 28)) (t := 7) (k := 0) dX10_connect_85 rfl (by decide) wd_761 rfl gr5 ?_
    refine ax_iload_n (i := 1) dX10_connect_88 rfl rfl ?_
    refine ax_iconst (v := (1)) dX10_connect_89 rfl ?_
    obtain ⟨q6, gq6, h⟩ := Option.bind_eq_some_iff.mp h
    refine ax_cS (As := [av_i a1, av_i (1)]) dX10_connect_90 (th_X10_at gq6) (And.intro wd_863 wd_60) wd_861 wd_862 cy_X10_at (by omega) (by decide) (Nat.le_of_ble_eq_true rfl) rfl ?_
    obtain ⟨x7, gx7, h⟩ := Option.bind_eq_some_iff.mp h
    refine ax_iald dX10_connect_93 gx7 ?_
    refine ax_aload_n (i := 0) dX10_connect_94 rfl rfl ?_
    obtain ⟨r8, gr8, h⟩ := Option.bind_eq_some_iff.mp h
    refine ax_getR (q := (RX10, TX10, 28)) (t := 7) (k := 0) dX10_connect_95 rfl (by decide) wd_761 rfl gr8 ?_
    refine ax_iload_n (i := 1) dX10_connect_98 rfl rfl ?_
    refine ax_iconst (v := (2)) dX10_connect_99 rfl ?_
    obtain ⟨q9, gq9, h⟩ := Option.bind_eq_some_iff.mp h
    refine ax_cS (As := [av_i a1, av_i (2)]) dX10_connect_100 (th_X10_at gq9) (And.intro wd_863 wd_60) wd_861 wd_862 cy_X10_at (by omega) (by decide) (Nat.le_of_ble_eq_true rfl) rfl ?_
    obtain ⟨x10, gx10, h⟩ := Option.bind_eq_some_iff.mp h
    refine ax_iald dX10_connect_103 gx10 ?_
    refine ax_iconst (v := (1)) dX10_connect_104 rfl ?_
    refine ax_iconst (v := (0)) dX10_connect_105 rfl ?_
    obtain ⟨w11, gw11, h⟩ := Option.bind_eq_some_iff.mp h
    obtain ⟨q12, gq12, h⟩ := Option.bind_eq_some_iff.mp h
    refine ax_cV (As := [av_i a1, av_i x7, av_i x10, av_i (1), av_i (0)]) (t := 7) dX10_connect_106 gw11 (th_X10_voids gq12) rfl (And.intro wd_890 wd_60) wd_887 wd_889 wd_22 cy_X10_voids (by omega) (by decide) (Nat.le_of_ble_eq_true rfl) rfl ?_
    exact ax_reti dX10_connect_109 h
  · rw [if_pos c4] at h
    refine ax_aload_n (i := 0) dX10_connect_69 rfl rfl ?_
    refine ax_iload_n (i := 1) dX10_connect_70 rfl rfl ?_
    refine ax_iconst (v := (0)) dX10_connect_71 rfl ?_
    refine ax_bipush (v := (99)) dX10_connect_72 rfl ?_
    refine ax_iconst (v := (1)) dX10_connect_74 rfl ?_
    refine ax_iconst (v := (0)) dX10_connect_75 rfl ?_
    obtain ⟨w13, gw13, h⟩ := Option.bind_eq_some_iff.mp h
    obtain ⟨q14, gq14, h⟩ := Option.bind_eq_some_iff.mp h
    refine ax_cV (As := [av_i a1, av_i (0), av_i (99), av_i (1), av_i (0)]) (t := 7) dX10_connect_76 gw13 (th_X10_voids gq14) rfl (And.intro wd_890 wd_60) wd_887 wd_889 wd_22 cy_X10_voids (by omega) (by decide) (Nat.le_of_ble_eq_true rfl) rfl ?_
    refine ax_goto (tgt := 109) dX10_connect_79 (by decide) ?_
    exact ax_reti dX10_connect_109 h
def fb_X10_connect_28 (a0 : Option Nat) (a1 : Int32) (a2 : Int32) (a3 : Int32) (s : ax_S) : Option (Int32 × ax_S) :=
  if a3 = (-1005) then
    fb_X10_connect_52 a0 a1 a2 a3 s
  else
    (ax_sh s 7 a0).bind fun w16 =>
    (fn_X10_dependents a0 a1 s).bind fun q17 =>
    if ((q17.1 >>> (a3 &&& 31)) &&& (1)) = (1) then
      some ((-1003), q17.2)
    else
      fb_X10_connect_52 a0 a1 a2 a3 q17.2
set_option maxRecDepth 100000 in
set_option maxHeartbeats 4000000 in
theorem tb_X10_connect_28 {q : Int32 × ax_S} {a0 : Option Nat} {a1 : Int32} {a2 : Int32} {a3 : Int32} {s : ax_S} (h : fb_X10_connect_28 a0 a1 a2 a3 s = some q) : AW mm_X10_connect 3 0 0 28 [(some (av_r a0)), (some (av_i a1)), (some (av_i a2)), (some (av_i a3))] [] s (some (av_i q.1), q.2) := by
  unfold fb_X10_connect_28 at h
  refine ax_iload_n (i := 3) dX10_connect_28 rfl rfl ?_
  refine ax_sipush (v := (-1005)) dX10_connect_29 rfl ?_
  refine ax_icmp_eq (tgt := 52) dX10_connect_32 (by decide) (fun c15 => ?_) (fun c15 => ?_)
  · rw [if_pos c15] at h
    exact ax_less (L' := [(some (av_r a0)), (some (av_i a1)), (some (av_i a2)), (some (av_i a3))]) ⟨rfl, rfl, rfl, rfl, trivial⟩ (tb_X10_connect_52  h)
  · rw [if_neg c15] at h
    refine ax_aload_n (i := 0) dX10_connect_35 rfl rfl ?_
    refine ax_iload_n (i := 1) dX10_connect_36 rfl rfl ?_
    obtain ⟨w16, gw16, h⟩ := Option.bind_eq_some_iff.mp h
    obtain ⟨q17, gq17, h⟩ := Option.bind_eq_some_iff.mp h
    refine ax_cV (As := [av_i a1]) (t := 7) dX10_connect_37 gw16 (th_X10_dependents gq17) rfl (And.intro wd_886 wd_60) wd_883 wd_885 wd_21 cy_X10_dependents (by omega) (by decide) (Nat.le_of_ble_eq_true rfl) rfl ?_
    refine ax_iload_n (i := 3) dX10_connect_40 rfl rfl ?_
    refine ax_ishr dX10_connect_41 ?_
    refine ax_iconst (v := (1)) dX10_connect_42 rfl ?_
    refine ax_iand dX10_connect_43 ?_
    refine ax_iconst (v := (1)) dX10_connect_44 rfl ?_
    refine ax_icmp_ne (tgt := 52) dX10_connect_45 (by decide) (fun c18 => ?_) (fun c18 => ?_)
    · rw [if_neg c18] at h
      exact ax_less (L' := [(some (av_r a0)), (some (av_i a1)), (some (av_i a2)), (some (av_i a3))]) ⟨rfl, rfl, rfl, rfl, trivial⟩ (tb_X10_connect_52  h)
    · rw [if_pos c18] at h
      refine ax_sipush (v := (-1003)) dX10_connect_48 rfl ?_
      exact ax_reti dX10_connect_51 h
def fn_X10_connect (a0 : Option Nat) (a1 : Int32) (a2 : Int32) (a3 : Int32) (s : ax_S) : Option (Int32 × ax_S) :=
  (ax_sh s 7 a0).bind fun w19 =>
  (fn_X10_isInput a0 a1 a2 s).bind fun q20 =>
  if q20.1 = 0 then
    some ((-1001), q20.2)
  else
    if a3 = (-1005) then
      fb_X10_connect_28 a0 a1 a2 a3 q20.2
    else
      (ax_sh q20.2 7 a0).bind fun w23 =>
      (fn_X10_isNode a0 a3 q20.2).bind fun q24 =>
      if q24.1 = 0 then
        some ((-1001), q24.2)
      else
        fb_X10_connect_28 a0 a1 a2 a3 q24.2
set_option maxRecDepth 100000 in
set_option maxHeartbeats 4000000 in
theorem tw_X10_connect {q : Int32 × ax_S} {a0 : Option Nat} {a1 : Int32} {a2 : Int32} {a3 : Int32} {s : ax_S} (h : fn_X10_connect a0 a1 a2 a3 s = some q) : AW mm_X10_connect 3 0 0 0 [some (av_r a0), some (av_i a1), some (av_i a2), some (av_i a3)] [] s (some (av_i q.1), q.2) := by
  unfold fn_X10_connect at h
  refine ax_aload_n (i := 0) dX10_connect_0 rfl rfl ?_
  refine ax_iload_n (i := 1) dX10_connect_1 rfl rfl ?_
  refine ax_iload_n (i := 2) dX10_connect_2 rfl rfl ?_
  obtain ⟨w19, gw19, h⟩ := Option.bind_eq_some_iff.mp h
  obtain ⟨q20, gq20, h⟩ := Option.bind_eq_some_iff.mp h
  refine ax_cV (As := [av_i a1, av_i a2]) (t := 7) dX10_connect_3 gw19 (th_X10_isInput gq20) rfl (And.intro wd_874 wd_60) wd_871 wd_873 wd_18 cy_X10_isInput (by omega) (by decide) (Nat.le_of_ble_eq_true rfl) rfl ?_
  refine ax_if_eq (tgt := 24) dX10_connect_6 (by decide) (fun c21 => ?_) (fun c21 => ?_)
  · rw [if_pos c21] at h
    refine ax_sipush (v := (-1001)) dX10_connect_24 rfl ?_
    exact ax_reti dX10_connect_27 h
  · rw [if_neg c21] at h
    refine ax_iload_n (i := 3) dX10_connect_9 rfl rfl ?_
    refine ax_sipush (v := (-1005)) dX10_connect_10 rfl ?_
    refine ax_icmp_eq (tgt := 28) dX10_connect_13 (by decide) (fun c22 => ?_) (fun c22 => ?_)
    · rw [if_pos c22] at h
      exact ax_less (L' := [(some (av_r a0)), (some (av_i a1)), (some (av_i a2)), (some (av_i a3))]) ⟨rfl, rfl, rfl, rfl, trivial⟩ (tb_X10_connect_28  h)
    · rw [if_neg c22] at h
      refine ax_aload_n (i := 0) dX10_connect_16 rfl rfl ?_
      refine ax_iload_n (i := 3) dX10_connect_17 rfl rfl ?_
      obtain ⟨w23, gw23, h⟩ := Option.bind_eq_some_iff.mp h
      obtain ⟨q24, gq24, h⟩ := Option.bind_eq_some_iff.mp h
      refine ax_cV (As := [av_i a3]) (t := 7) dX10_connect_18 gw23 (th_X10_isNode gq24) rfl (And.intro wd_878 wd_60) wd_875 wd_877 wd_19 cy_X10_isNode (by omega) (by decide) (Nat.le_of_ble_eq_true rfl) rfl ?_
      refine ax_if_ne (tgt := 28) dX10_connect_21 (by decide) (fun c25 => ?_) (fun c25 => ?_)
      · rw [if_neg c25] at h
        exact ax_less (L' := [(some (av_r a0)), (some (av_i a1)), (some (av_i a2)), (some (av_i a3))]) ⟨rfl, rfl, rfl, rfl, trivial⟩ (tb_X10_connect_28  h)
      · rw [if_pos c25] at h
        refine ax_sipush (v := (-1001)) dX10_connect_24 rfl ?_
        exact ax_reti dX10_connect_27 h
set_option maxRecDepth 100000 in
set_option maxHeartbeats 4000000 in
theorem th_X10_connect {q : Int32 × ax_S} {a0 : Option Nat} {a1 : Int32} {a2 : Int32} {a3 : Int32} {s : ax_S} (h : fn_X10_connect a0 a1 a2 a3 s = some q) : AC mm_X10_connect yX10_connect 3 0 0 [av_r a0, av_i a1, av_i a2, av_i a3] s (some (av_i q.1), q.2) := by
  exact ax_met (L0 := [some (av_r a0), some (av_i a1), some (av_i a2), some (av_i a3)]) (by decide +kernel) rfl (fun h => absurd h (by decide)) ⟨rfl, rfl, rfl, rfl, trivial⟩ (Nat.le_of_ble_eq_true rfl) trivial (tw_X10_connect h)
/-! X10_count -/
abbrev mm_X10_count : ax_M := (RX10, cX10_count, (some .int), 2, false)
def fn_X10_count (a0 : Option Nat) (a1 : Int32) (s : ax_S) : Option (Int32 × ax_S) :=
  (fn_X10_in a1 (0) (4) s).bind fun q1 =>
  if q1.1 = 0 then
    some ((-1001), q1.2)
  else
    (ax_sh q1.2 7 a0).bind fun w3 =>
    (fn_X10_countOf a0 a1 q1.2).bind fun q4 =>
    some (q4.1, q4.2)
set_option maxRecDepth 100000 in
set_option maxHeartbeats 4000000 in
theorem tw_X10_count {q : Int32 × ax_S} {a0 : Option Nat} {a1 : Int32} {s : ax_S} (h : fn_X10_count a0 a1 s = some q) : AW mm_X10_count 1 0 0 0 [some (av_r a0), some (av_i a1)] [] s (some (av_i q.1), q.2) := by
  unfold fn_X10_count at h
  refine ax_iload_n (i := 1) dX10_count_0 rfl rfl ?_
  refine ax_iconst (v := (0)) dX10_count_1 rfl ?_
  refine ax_iconst (v := (4)) dX10_count_2 rfl ?_
  obtain ⟨q1, gq1, h⟩ := Option.bind_eq_some_iff.mp h
  refine ax_cS (As := [av_i a1, av_i (0), av_i (4)]) dX10_count_3 (th_X10_in gq1) (And.intro wd_856 wd_60) wd_854 wd_855 cy_X10_in (by omega) (by decide) (Nat.le_of_ble_eq_true rfl) rfl ?_
  refine ax_if_eq (tgt := 17) dX10_count_6 (by decide) (fun c2 => ?_) (fun c2 => ?_)
  · rw [if_pos c2] at h
    refine ax_sipush (v := (-1001)) dX10_count_17 rfl ?_
    exact ax_reti dX10_count_20 h
  · rw [if_neg c2] at h
    refine ax_aload_n (i := 0) dX10_count_9 rfl rfl ?_
    refine ax_iload_n (i := 1) dX10_count_10 rfl rfl ?_
    obtain ⟨w3, gw3, h⟩ := Option.bind_eq_some_iff.mp h
    obtain ⟨q4, gq4, h⟩ := Option.bind_eq_some_iff.mp h
    refine ax_cV (As := [av_i a1]) (t := 7) dX10_count_11 gw3 (th_X10_countOf gq4) rfl (And.intro wd_1037 wd_60) wd_1034 wd_1036 wd_42 cy_X10_countOf (by omega) (by decide) (Nat.le_of_ble_eq_true rfl) rfl ?_
    refine ax_goto (tgt := 20) dX10_count_14 (by decide) ?_
    exact ax_reti dX10_count_20 h
set_option maxRecDepth 100000 in
set_option maxHeartbeats 4000000 in
theorem th_X10_count {q : Int32 × ax_S} {a0 : Option Nat} {a1 : Int32} {s : ax_S} (h : fn_X10_count a0 a1 s = some q) : AC mm_X10_count yX10_count 1 0 0 [av_r a0, av_i a1] s (some (av_i q.1), q.2) := by
  exact ax_met (L0 := [some (av_r a0), some (av_i a1)]) (by decide +kernel) rfl (fun h => absurd h (by decide)) ⟨rfl, rfl, trivial⟩ (Nat.le_of_ble_eq_true rfl) trivial (tw_X10_count h)
/-! X10_faultDepth -/
abbrev mm_X10_faultDepth : ax_M := (RX10, cX10_faultDepth, (some .int), 1, false)
def fn_X10_faultDepth (a0 : Option Nat) (s : ax_S) : Option (Int32 × ax_S) :=
  (ax_sh s 7 a0).bind fun w1 =>
  (fn_X10_isText a0 s).bind fun q2 =>
  if q2.1 = 0 then
    (ax_gi q2.2 7 20 a0).bind fun x4 =>
    some (x4, q2.2)
  else
    some ((-1005), q2.2)
set_option maxRecDepth 100000 in
set_option maxHeartbeats 4000000 in
theorem tw_X10_faultDepth {q : Int32 × ax_S} {a0 : Option Nat} {s : ax_S} (h : fn_X10_faultDepth a0 s = some q) : AW mm_X10_faultDepth 5 0 0 0 [some (av_r a0)] [] s (some (av_i q.1), q.2) := by
  unfold fn_X10_faultDepth at h
  refine ax_aload_n (i := 0) dX10_faultDepth_0 rfl rfl ?_
  obtain ⟨w1, gw1, h⟩ := Option.bind_eq_some_iff.mp h
  obtain ⟨q2, gq2, h⟩ := Option.bind_eq_some_iff.mp h
  refine ax_cV (As := []) (t := 7) dX10_faultDepth_1 gw1 (th_X10_isText gq2) rfl (And.intro wd_1053 wd_60) wd_1050 wd_1052 wd_43 cy_X10_isText (by omega) (by decide) (Nat.le_of_ble_eq_true rfl) rfl ?_
  refine ax_if_eq (tgt := 13) dX10_faultDepth_4 (by decide) (fun c3 => ?_) (fun c3 => ?_)
  · rw [if_pos c3] at h
    refine ax_aload_n (i := 0) dX10_faultDepth_13 rfl rfl ?_
    obtain ⟨x4, gx4, h⟩ := Option.bind_eq_some_iff.mp h
    refine ax_getI (q := (RX10, TX10, 28)) (t := 7) (k := 20) dX10_faultDepth_14 rfl (by decide) wd_781 rfl gx4 ?_
    exact ax_reti dX10_faultDepth_17 h
  · rw [if_neg c3] at h
    refine ax_sipush (v := (-1005)) dX10_faultDepth_7 rfl ?_
    refine ax_goto (tgt := 17) dX10_faultDepth_10 (by decide) ?_
    exact ax_reti dX10_faultDepth_17 h
set_option maxRecDepth 100000 in
set_option maxHeartbeats 4000000 in
theorem th_X10_faultDepth {q : Int32 × ax_S} {a0 : Option Nat} {s : ax_S} (h : fn_X10_faultDepth a0 s = some q) : AC mm_X10_faultDepth yX10_faultDepth 5 0 0 [av_r a0] s (some (av_i q.1), q.2) := by
  exact ax_met (L0 := [some (av_r a0)]) (by decide +kernel) rfl (fun h => absurd h (by decide)) ⟨rfl, trivial⟩ (Nat.le_of_ble_eq_true rfl) trivial (tw_X10_faultDepth h)
/-! X10_faultPosition -/
abbrev mm_X10_faultPosition : ax_M := (RX10, cX10_faultPosition, (some .int), 1, false)
def fn_X10_faultPosition (a0 : Option Nat) (s : ax_S) : Option (Int32 × ax_S) :=
  (ax_sh s 7 a0).bind fun w1 =>
  (fn_X10_isText a0 s).bind fun q2 =>
  if q2.1 = 0 then
    (ax_gi q2.2 7 19 a0).bind fun x4 =>
    some (x4, q2.2)
  else
    some ((-1005), q2.2)
set_option maxRecDepth 100000 in
set_option maxHeartbeats 4000000 in
theorem tw_X10_faultPosition {q : Int32 × ax_S} {a0 : Option Nat} {s : ax_S} (h : fn_X10_faultPosition a0 s = some q) : AW mm_X10_faultPosition 5 0 0 0 [some (av_r a0)] [] s (some (av_i q.1), q.2) := by
  unfold fn_X10_faultPosition at h
  refine ax_aload_n (i := 0) dX10_faultPosition_0 rfl rfl ?_
  obtain ⟨w1, gw1, h⟩ := Option.bind_eq_some_iff.mp h
  obtain ⟨q2, gq2, h⟩ := Option.bind_eq_some_iff.mp h
  refine ax_cV (As := []) (t := 7) dX10_faultPosition_1 gw1 (th_X10_isText gq2) rfl (And.intro wd_1053 wd_60) wd_1050 wd_1052 wd_43 cy_X10_isText (by omega) (by decide) (Nat.le_of_ble_eq_true rfl) rfl ?_
  refine ax_if_eq (tgt := 13) dX10_faultPosition_4 (by decide) (fun c3 => ?_) (fun c3 => ?_)
  · rw [if_pos c3] at h
    refine ax_aload_n (i := 0) dX10_faultPosition_13 rfl rfl ?_
    obtain ⟨x4, gx4, h⟩ := Option.bind_eq_some_iff.mp h
    refine ax_getI (q := (RX10, TX10, 28)) (t := 7) (k := 19) dX10_faultPosition_14 rfl (by decide) wd_780 rfl gx4 ?_
    exact ax_reti dX10_faultPosition_17 h
  · rw [if_neg c3] at h
    refine ax_sipush (v := (-1005)) dX10_faultPosition_7 rfl ?_
    refine ax_goto (tgt := 17) dX10_faultPosition_10 (by decide) ?_
    exact ax_reti dX10_faultPosition_17 h
set_option maxRecDepth 100000 in
set_option maxHeartbeats 4000000 in
theorem th_X10_faultPosition {q : Int32 × ax_S} {a0 : Option Nat} {s : ax_S} (h : fn_X10_faultPosition a0 s = some q) : AC mm_X10_faultPosition yX10_faultPosition 5 0 0 [av_r a0] s (some (av_i q.1), q.2) := by
  exact ax_met (L0 := [some (av_r a0)]) (by decide +kernel) rfl (fun h => absurd h (by decide)) ⟨rfl, trivial⟩ (Nat.le_of_ble_eq_true rfl) trivial (tw_X10_faultPosition h)
/-! X10_init -/
abbrev mm_X10_init : ax_M := (RX10, cX10_init, none, 1, true)
def fn_X10_init (a0 : Option Nat) (s : ax_S) : Option (ax_S) :=
  (ax_sh s 7 a0).bind fun w1 =>
  ax_bd (ax_nw s 9 121) fun s2 =>
  ax_bd (some s.1.length) fun r3 =>
  (ax_pr s2 7 0 a0 r3).bind fun s4 =>
  ax_bd (ax_nw s4 9 242) fun s5 =>
  ax_bd (some s4.1.length) fun r6 =>
  (ax_pr s5 7 1 a0 r6).bind fun s7 =>
  ax_bd (ax_nw s7 10 2) fun s8 =>
  ax_bd (some s7.1.length) fun r9 =>
  (ax_pr s8 7 2 a0 r9).bind fun s10 =>
  (ax_pi s10 7 3 a0 (16)).bind fun s11 =>
  ax_bd (ax_nw s11 9 48) fun s12 =>
  ax_bd (some s11.1.length) fun r13 =>
  (ax_pr s12 7 5 a0 r13).bind fun s14 =>
  ax_bd (ax_nw s14 9 48) fun s15 =>
  ax_bd (some s14.1.length) fun r16 =>
  (ax_pr s15 7 6 a0 r16).bind fun s17 =>
  ax_bd (ax_nw s17 9 48) fun s18 =>
  ax_bd (some s17.1.length) fun r19 =>
  (ax_pr s18 7 7 a0 r19).bind fun s20 =>
  ax_bd (ax_nw s20 9 4608) fun s21 =>
  ax_bd (some s20.1.length) fun r22 =>
  (ax_pr s21 7 8 a0 r22).bind fun s23 =>
  ax_bd (ax_nw s23 9 5) fun s24 =>
  ax_bd (some s23.1.length) fun r25 =>
  (ax_pr s24 7 10 a0 r25).bind fun s26 =>
  ax_bd (ax_nw s26 9 80) fun s27 =>
  ax_bd (some s26.1.length) fun r28 =>
  (ax_pr s27 7 11 a0 r28).bind fun s29 =>
  ax_bd (ax_nw s29 9 7) fun s30 =>
  ax_bd (some s29.1.length) fun r31 =>
  (ax_as s30 9 r31 (0) (0)).bind fun s32 =>
  (ax_as s32 9 r31 (1) (1)).bind fun s33 =>
  (ax_as s33 9 r31 (2) (1)).bind fun s34 =>
  (ax_as s34 9 r31 (3) (1)).bind fun s35 =>
  (ax_as s35 9 r31 (4) (1)).bind fun s36 =>
  (ax_as s36 9 r31 (5) (1)).bind fun s37 =>
  (ax_as s37 9 r31 (6) (3)).bind fun s38 =>
  (ax_pr s38 7 13 a0 r31).bind fun s39 =>
  ax_bd (ax_nw s39 9 7) fun s40 =>
  ax_bd (some s39.1.length) fun r41 =>
  (ax_as s40 9 r41 (0) (1)).bind fun s42 =>
  (ax_as s42 9 r41 (1) (3)).bind fun s43 =>
  (ax_as s43 9 r41 (2) (3)).bind fun s44 =>
  (ax_as s44 9 r41 (3) (0)).bind fun s45 =>
  (ax_as s45 9 r41 (4) (1)).bind fun s46 =>
  (ax_as s46 9 r41 (5) (4)).bind fun s47 =>
  (ax_as s47 9 r41 (6) (0)).bind fun s48 =>
  (ax_pr s48 7 14 a0 r41).bind fun s49 =>
  ax_bd (ax_nw s49 9 12) fun s50 =>
  ax_bd (some s49.1.length) fun r51 =>
  (ax_pr s50 7 15 a0 r51).bind fun s52 =>
  ax_bd (ax_nw s52 9 13) fun s53 =>
  ax_bd (some s52.1.length) fun r54 =>
  (ax_pr s53 7 16 a0 r54).bind fun s55 =>
  ax_bd (ax_nw s55 9 13) fun s56 =>
  ax_bd (some s55.1.length) fun r57 =>
  (ax_pr s56 7 17 a0 r57).bind fun s58 =>
  ax_bd (ax_nw s58 9 7) fun s59 =>
  ax_bd (some s58.1.length) fun r60 =>
  (ax_pr s59 7 22 a0 r60).bind fun s61 =>
  ax_bd (ax_nw s61 9 7) fun s62 =>
  ax_bd (some s61.1.length) fun r63 =>
  (ax_pr s62 7 23 a0 r63).bind fun s64 =>
  ax_bd (ax_nw s64 9 240) fun s65 =>
  ax_bd (some s64.1.length) fun r66 =>
  (ax_pr s65 7 24 a0 r66).bind fun s67 =>
  ax_bd (ax_nw s67 9 40) fun s68 =>
  ax_bd (some s67.1.length) fun r69 =>
  (ax_pr s68 7 26 a0 r69).bind fun s70 =>
  some s70
set_option maxRecDepth 100000 in
set_option maxHeartbeats 4000000 in
theorem tw_X10_init {q : ax_S} {a0 : Option Nat} {s : ax_S} (h : fn_X10_init a0 s = some q) : AW mm_X10_init 1 18 5548 0 [some (av_r a0)] [] s (none, q) := by
  unfold fn_X10_init at h
  refine ax_aload_n (i := 0) dX10_init_0 rfl rfl ?_
  obtain ⟨w1, gw1, h⟩ := Option.bind_eq_some_iff.mp h
  refine ax_cO dX10_init_1 gw1 wd_760 wd_78 wd_79 (by omega) (Nat.le_of_ble_eq_true rfl) ?_
  refine ax_aload_n (i := 0) dX10_init_4 rfl rfl ?_
  refine ax_bipush (v := (121)) dX10_init_5 rfl ?_
  refine ax_newA (t := 9) (n := 121) (bc := 17) (bs := 5427) dX10_init_7 (by decide) rfl wd_120 (by decide) (by decide) (by decide) ?_
  refine ax_bdS h (fun s2 h => ?_)
  refine ax_bdR h (fun r3 h => ?_)
  obtain ⟨s4, gs4, h⟩ := Option.bind_eq_some_iff.mp h
  refine ax_putRF (q := (RX10, TX10, 28)) (t := 7) (k := 0) dX10_init_9 rfl (by decide) wd_761 rfl rfl rfl rfl (fun w => by cases w <;> exact ⟨rfl, rfl⟩) gs4 ?_
  refine ax_aload_n (i := 0) dX10_init_12 rfl rfl ?_
  refine ax_sipush (v := (242)) dX10_init_13 rfl ?_
  refine ax_newA (t := 9) (n := 242) (bc := 16) (bs := 5185) dX10_init_16 (by decide) rfl wd_120 (by decide) (by decide) (by decide) ?_
  refine ax_bdS h (fun s5 h => ?_)
  refine ax_bdR h (fun r6 h => ?_)
  obtain ⟨s7, gs7, h⟩ := Option.bind_eq_some_iff.mp h
  refine ax_putRF (q := (RX10, TX10, 28)) (t := 7) (k := 1) dX10_init_18 rfl (by decide) wd_762 rfl rfl rfl rfl (fun w => by cases w <;> exact ⟨rfl, rfl⟩) gs7 ?_
  refine ax_aload_n (i := 0) dX10_init_21 rfl rfl ?_
  refine ax_iconst (v := (2)) dX10_init_22 rfl ?_
  refine ax_newA (t := 10) (n := 2) (bc := 15) (bs := 5183) dX10_init_23 (by decide) rfl wd_270 (by decide) (by decide) (by decide) ?_
  refine ax_bdS h (fun s8 h => ?_)
  refine ax_bdR h (fun r9 h => ?_)
  obtain ⟨s10, gs10, h⟩ := Option.bind_eq_some_iff.mp h
  refine ax_putRF (q := (RX10, TX10, 28)) (t := 7) (k := 2) dX10_init_25 rfl (by decide) wd_763 rfl rfl rfl rfl (fun w => by cases w <;> exact ⟨rfl, rfl⟩) gs10 ?_
  refine ax_aload_n (i := 0) dX10_init_28 rfl rfl ?_
  refine ax_bipush (v := (16)) dX10_init_29 rfl ?_
  obtain ⟨s11, gs11, h⟩ := Option.bind_eq_some_iff.mp h
  refine ax_putI (q := (RX10, TX10, 28)) (t := 7) (k := 3) dX10_init_31 rfl (by decide) wd_764 rfl rfl ⟨rfl, rfl⟩ gs11 ?_
  refine ax_aload_n (i := 0) dX10_init_34 rfl rfl ?_
  refine ax_bipush (v := (48)) dX10_init_35 rfl ?_
  refine ax_newA (t := 9) (n := 48) (bc := 14) (bs := 5135) dX10_init_37 (by decide) rfl wd_120 (by decide) (by decide) (by decide) ?_
  refine ax_bdS h (fun s12 h => ?_)
  refine ax_bdR h (fun r13 h => ?_)
  obtain ⟨s14, gs14, h⟩ := Option.bind_eq_some_iff.mp h
  refine ax_putRF (q := (RX10, TX10, 28)) (t := 7) (k := 5) dX10_init_39 rfl (by decide) wd_766 rfl rfl rfl rfl (fun w => by cases w <;> exact ⟨rfl, rfl⟩) gs14 ?_
  refine ax_aload_n (i := 0) dX10_init_42 rfl rfl ?_
  refine ax_bipush (v := (48)) dX10_init_43 rfl ?_
  refine ax_newA (t := 9) (n := 48) (bc := 13) (bs := 5087) dX10_init_45 (by decide) rfl wd_120 (by decide) (by decide) (by decide) ?_
  refine ax_bdS h (fun s15 h => ?_)
  refine ax_bdR h (fun r16 h => ?_)
  obtain ⟨s17, gs17, h⟩ := Option.bind_eq_some_iff.mp h
  refine ax_putRF (q := (RX10, TX10, 28)) (t := 7) (k := 6) dX10_init_47 rfl (by decide) wd_767 rfl rfl rfl rfl (fun w => by cases w <;> exact ⟨rfl, rfl⟩) gs17 ?_
  refine ax_aload_n (i := 0) dX10_init_50 rfl rfl ?_
  refine ax_bipush (v := (48)) dX10_init_51 rfl ?_
  refine ax_newA (t := 9) (n := 48) (bc := 12) (bs := 5039) dX10_init_53 (by decide) rfl wd_120 (by decide) (by decide) (by decide) ?_
  refine ax_bdS h (fun s18 h => ?_)
  refine ax_bdR h (fun r19 h => ?_)
  obtain ⟨s20, gs20, h⟩ := Option.bind_eq_some_iff.mp h
  refine ax_putRF (q := (RX10, TX10, 28)) (t := 7) (k := 7) dX10_init_55 rfl (by decide) wd_768 rfl rfl rfl rfl (fun w => by cases w <;> exact ⟨rfl, rfl⟩) gs20 ?_
  refine ax_aload_n (i := 0) dX10_init_58 rfl rfl ?_
  refine ax_sipush (v := (4608)) dX10_init_59 rfl ?_
  refine ax_newA (t := 9) (n := 4608) (bc := 11) (bs := 431) dX10_init_62 (by decide) rfl wd_120 (by decide) (by decide) (by decide) ?_
  refine ax_bdS h (fun s21 h => ?_)
  refine ax_bdR h (fun r22 h => ?_)
  obtain ⟨s23, gs23, h⟩ := Option.bind_eq_some_iff.mp h
  refine ax_putRF (q := (RX10, TX10, 28)) (t := 7) (k := 8) dX10_init_64 rfl (by decide) wd_769 rfl rfl rfl rfl (fun w => by cases w <;> exact ⟨rfl, rfl⟩) gs23 ?_
  refine ax_aload_n (i := 0) dX10_init_67 rfl rfl ?_
  refine ax_iconst (v := (5)) dX10_init_68 rfl ?_
  refine ax_newA (t := 9) (n := 5) (bc := 10) (bs := 426) dX10_init_69 (by decide) rfl wd_120 (by decide) (by decide) (by decide) ?_
  refine ax_bdS h (fun s24 h => ?_)
  refine ax_bdR h (fun r25 h => ?_)
  obtain ⟨s26, gs26, h⟩ := Option.bind_eq_some_iff.mp h
  refine ax_putRF (q := (RX10, TX10, 28)) (t := 7) (k := 10) dX10_init_71 rfl (by decide) wd_771 rfl rfl rfl rfl (fun w => by cases w <;> exact ⟨rfl, rfl⟩) gs26 ?_
  refine ax_aload_n (i := 0) dX10_init_74 rfl rfl ?_
  refine ax_bipush (v := (80)) dX10_init_75 rfl ?_
  refine ax_newA (t := 9) (n := 80) (bc := 9) (bs := 346) dX10_init_77 (by decide) rfl wd_120 (by decide) (by decide) (by decide) ?_
  refine ax_bdS h (fun s27 h => ?_)
  refine ax_bdR h (fun r28 h => ?_)
  obtain ⟨s29, gs29, h⟩ := Option.bind_eq_some_iff.mp h
  refine ax_putRF (q := (RX10, TX10, 28)) (t := 7) (k := 11) dX10_init_79 rfl (by decide) wd_772 rfl rfl rfl rfl (fun w => by cases w <;> exact ⟨rfl, rfl⟩) gs29 ?_
  refine ax_aload_n (i := 0) dX10_init_82 rfl rfl ?_
  refine ax_bipush (v := (7)) dX10_init_83 rfl ?_
  refine ax_newA (t := 9) (n := 7) (bc := 8) (bs := 339) dX10_init_85 (by decide) rfl wd_120 (by decide) (by decide) (by decide) ?_
  refine ax_bdS h (fun s30 h => ?_)
  refine ax_bdR h (fun r31 h => ?_)
  refine ax_dup dX10_init_87 trivial ?_
  refine ax_iconst (v := (0)) dX10_init_88 rfl ?_
  refine ax_iconst (v := (0)) dX10_init_89 rfl ?_
  obtain ⟨s32, gs32, h⟩ := Option.bind_eq_some_iff.mp h
  refine ax_iast dX10_init_90 gs32 ?_
  refine ax_dup dX10_init_91 trivial ?_
  refine ax_iconst (v := (1)) dX10_init_92 rfl ?_
  refine ax_iconst (v := (1)) dX10_init_93 rfl ?_
  obtain ⟨s33, gs33, h⟩ := Option.bind_eq_some_iff.mp h
  refine ax_iast dX10_init_94 gs33 ?_
  refine ax_dup dX10_init_95 trivial ?_
  refine ax_iconst (v := (2)) dX10_init_96 rfl ?_
  refine ax_iconst (v := (1)) dX10_init_97 rfl ?_
  obtain ⟨s34, gs34, h⟩ := Option.bind_eq_some_iff.mp h
  refine ax_iast dX10_init_98 gs34 ?_
  refine ax_dup dX10_init_99 trivial ?_
  refine ax_iconst (v := (3)) dX10_init_100 rfl ?_
  refine ax_iconst (v := (1)) dX10_init_101 rfl ?_
  obtain ⟨s35, gs35, h⟩ := Option.bind_eq_some_iff.mp h
  refine ax_iast dX10_init_102 gs35 ?_
  refine ax_dup dX10_init_103 trivial ?_
  refine ax_iconst (v := (4)) dX10_init_104 rfl ?_
  refine ax_iconst (v := (1)) dX10_init_105 rfl ?_
  obtain ⟨s36, gs36, h⟩ := Option.bind_eq_some_iff.mp h
  refine ax_iast dX10_init_106 gs36 ?_
  refine ax_dup dX10_init_107 trivial ?_
  refine ax_iconst (v := (5)) dX10_init_108 rfl ?_
  refine ax_iconst (v := (1)) dX10_init_109 rfl ?_
  obtain ⟨s37, gs37, h⟩ := Option.bind_eq_some_iff.mp h
  refine ax_iast dX10_init_110 gs37 ?_
  refine ax_dup dX10_init_111 trivial ?_
  refine ax_bipush (v := (6)) dX10_init_112 rfl ?_
  refine ax_iconst (v := (3)) dX10_init_114 rfl ?_
  obtain ⟨s38, gs38, h⟩ := Option.bind_eq_some_iff.mp h
  refine ax_iast dX10_init_115 gs38 ?_
  obtain ⟨s39, gs39, h⟩ := Option.bind_eq_some_iff.mp h
  refine ax_putRF (q := (RX10, TX10, 28)) (t := 7) (k := 13) dX10_init_116 rfl (by decide) wd_774 rfl rfl rfl rfl (fun w => by cases w <;> exact ⟨rfl, rfl⟩) gs39 ?_
  refine ax_aload_n (i := 0) dX10_init_119 rfl rfl ?_
  refine ax_bipush (v := (7)) dX10_init_120 rfl ?_
  refine ax_newA (t := 9) (n := 7) (bc := 7) (bs := 332) dX10_init_122 (by decide) rfl wd_120 (by decide) (by decide) (by decide) ?_
  refine ax_bdS h (fun s40 h => ?_)
  refine ax_bdR h (fun r41 h => ?_)
  refine ax_dup dX10_init_124 trivial ?_
  refine ax_iconst (v := (0)) dX10_init_125 rfl ?_
  refine ax_iconst (v := (1)) dX10_init_126 rfl ?_
  obtain ⟨s42, gs42, h⟩ := Option.bind_eq_some_iff.mp h
  refine ax_iast dX10_init_127 gs42 ?_
  refine ax_dup dX10_init_128 trivial ?_
  refine ax_iconst (v := (1)) dX10_init_129 rfl ?_
  refine ax_iconst (v := (3)) dX10_init_130 rfl ?_
  obtain ⟨s43, gs43, h⟩ := Option.bind_eq_some_iff.mp h
  refine ax_iast dX10_init_131 gs43 ?_
  refine ax_dup dX10_init_132 trivial ?_
  refine ax_iconst (v := (2)) dX10_init_133 rfl ?_
  refine ax_iconst (v := (3)) dX10_init_134 rfl ?_
  obtain ⟨s44, gs44, h⟩ := Option.bind_eq_some_iff.mp h
  refine ax_iast dX10_init_135 gs44 ?_
  refine ax_dup dX10_init_136 trivial ?_
  refine ax_iconst (v := (3)) dX10_init_137 rfl ?_
  refine ax_iconst (v := (0)) dX10_init_138 rfl ?_
  obtain ⟨s45, gs45, h⟩ := Option.bind_eq_some_iff.mp h
  refine ax_iast dX10_init_139 gs45 ?_
  refine ax_dup dX10_init_140 trivial ?_
  refine ax_iconst (v := (4)) dX10_init_141 rfl ?_
  refine ax_iconst (v := (1)) dX10_init_142 rfl ?_
  obtain ⟨s46, gs46, h⟩ := Option.bind_eq_some_iff.mp h
  refine ax_iast dX10_init_143 gs46 ?_
  refine ax_dup dX10_init_144 trivial ?_
  refine ax_iconst (v := (5)) dX10_init_145 rfl ?_
  refine ax_iconst (v := (4)) dX10_init_146 rfl ?_
  obtain ⟨s47, gs47, h⟩ := Option.bind_eq_some_iff.mp h
  refine ax_iast dX10_init_147 gs47 ?_
  refine ax_dup dX10_init_148 trivial ?_
  refine ax_bipush (v := (6)) dX10_init_149 rfl ?_
  refine ax_iconst (v := (0)) dX10_init_151 rfl ?_
  obtain ⟨s48, gs48, h⟩ := Option.bind_eq_some_iff.mp h
  refine ax_iast dX10_init_152 gs48 ?_
  obtain ⟨s49, gs49, h⟩ := Option.bind_eq_some_iff.mp h
  refine ax_putRF (q := (RX10, TX10, 28)) (t := 7) (k := 14) dX10_init_153 rfl (by decide) wd_775 rfl rfl rfl rfl (fun w => by cases w <;> exact ⟨rfl, rfl⟩) gs49 ?_
  refine ax_aload_n (i := 0) dX10_init_156 rfl rfl ?_
  refine ax_bipush (v := (12)) dX10_init_157 rfl ?_
  refine ax_newA (t := 9) (n := 12) (bc := 6) (bs := 320) dX10_init_159 (by decide) rfl wd_120 (by decide) (by decide) (by decide) ?_
  refine ax_bdS h (fun s50 h => ?_)
  refine ax_bdR h (fun r51 h => ?_)
  obtain ⟨s52, gs52, h⟩ := Option.bind_eq_some_iff.mp h
  refine ax_putRF (q := (RX10, TX10, 28)) (t := 7) (k := 15) dX10_init_161 rfl (by decide) wd_776 rfl rfl rfl rfl (fun w => by cases w <;> exact ⟨rfl, rfl⟩) gs52 ?_
  refine ax_aload_n (i := 0) dX10_init_164 rfl rfl ?_
  refine ax_bipush (v := (13)) dX10_init_165 rfl ?_
  refine ax_newA (t := 9) (n := 13) (bc := 5) (bs := 307) dX10_init_167 (by decide) rfl wd_120 (by decide) (by decide) (by decide) ?_
  refine ax_bdS h (fun s53 h => ?_)
  refine ax_bdR h (fun r54 h => ?_)
  obtain ⟨s55, gs55, h⟩ := Option.bind_eq_some_iff.mp h
  refine ax_putRF (q := (RX10, TX10, 28)) (t := 7) (k := 16) dX10_init_169 rfl (by decide) wd_777 rfl rfl rfl rfl (fun w => by cases w <;> exact ⟨rfl, rfl⟩) gs55 ?_
  refine ax_aload_n (i := 0) dX10_init_172 rfl rfl ?_
  refine ax_bipush (v := (13)) dX10_init_173 rfl ?_
  refine ax_newA (t := 9) (n := 13) (bc := 4) (bs := 294) dX10_init_175 (by decide) rfl wd_120 (by decide) (by decide) (by decide) ?_
  refine ax_bdS h (fun s56 h => ?_)
  refine ax_bdR h (fun r57 h => ?_)
  obtain ⟨s58, gs58, h⟩ := Option.bind_eq_some_iff.mp h
  refine ax_putRF (q := (RX10, TX10, 28)) (t := 7) (k := 17) dX10_init_177 rfl (by decide) wd_778 rfl rfl rfl rfl (fun w => by cases w <;> exact ⟨rfl, rfl⟩) gs58 ?_
  refine ax_aload_n (i := 0) dX10_init_180 rfl rfl ?_
  refine ax_bipush (v := (7)) dX10_init_181 rfl ?_
  refine ax_newA (t := 9) (n := 7) (bc := 3) (bs := 287) dX10_init_183 (by decide) rfl wd_120 (by decide) (by decide) (by decide) ?_
  refine ax_bdS h (fun s59 h => ?_)
  refine ax_bdR h (fun r60 h => ?_)
  obtain ⟨s61, gs61, h⟩ := Option.bind_eq_some_iff.mp h
  refine ax_putRF (q := (RX10, TX10, 28)) (t := 7) (k := 22) dX10_init_185 rfl (by decide) wd_783 rfl rfl rfl rfl (fun w => by cases w <;> exact ⟨rfl, rfl⟩) gs61 ?_
  refine ax_aload_n (i := 0) dX10_init_188 rfl rfl ?_
  refine ax_bipush (v := (7)) dX10_init_189 rfl ?_
  refine ax_newA (t := 9) (n := 7) (bc := 2) (bs := 280) dX10_init_191 (by decide) rfl wd_120 (by decide) (by decide) (by decide) ?_
  refine ax_bdS h (fun s62 h => ?_)
  refine ax_bdR h (fun r63 h => ?_)
  obtain ⟨s64, gs64, h⟩ := Option.bind_eq_some_iff.mp h
  refine ax_putRF (q := (RX10, TX10, 28)) (t := 7) (k := 23) dX10_init_193 rfl (by decide) wd_784 rfl rfl rfl rfl (fun w => by cases w <;> exact ⟨rfl, rfl⟩) gs64 ?_
  refine ax_aload_n (i := 0) dX10_init_196 rfl rfl ?_
  refine ax_sipush (v := (240)) dX10_init_197 rfl ?_
  refine ax_newA (t := 9) (n := 240) (bc := 1) (bs := 40) dX10_init_200 (by decide) rfl wd_120 (by decide) (by decide) (by decide) ?_
  refine ax_bdS h (fun s65 h => ?_)
  refine ax_bdR h (fun r66 h => ?_)
  obtain ⟨s67, gs67, h⟩ := Option.bind_eq_some_iff.mp h
  refine ax_putRF (q := (RX10, TX10, 28)) (t := 7) (k := 24) dX10_init_202 rfl (by decide) wd_785 rfl rfl rfl rfl (fun w => by cases w <;> exact ⟨rfl, rfl⟩) gs67 ?_
  refine ax_aload_n (i := 0) dX10_init_205 rfl rfl ?_
  refine ax_bipush (v := (40)) dX10_init_206 rfl ?_
  refine ax_newA (t := 9) (n := 40) (bc := 0) (bs := 0) dX10_init_208 (by decide) rfl wd_120 (by decide) (by decide) (by decide) ?_
  refine ax_bdS h (fun s68 h => ?_)
  refine ax_bdR h (fun r69 h => ?_)
  obtain ⟨s70, gs70, h⟩ := Option.bind_eq_some_iff.mp h
  refine ax_putRF (q := (RX10, TX10, 28)) (t := 7) (k := 26) dX10_init_210 rfl (by decide) wd_787 rfl rfl rfl rfl (fun w => by cases w <;> exact ⟨rfl, rfl⟩) gs70 ?_
  exact ax_retv dX10_init_213 h
set_option maxRecDepth 100000 in
set_option maxHeartbeats 4000000 in
theorem th_X10_init {q : ax_S} {a0 : Option Nat} {s : ax_S} (h : fn_X10_init a0 s = some q) : AC mm_X10_init yX10_init 1 18 5548 [av_r a0] s (none, q) := by
  exact ax_met (L0 := [some (av_r a0)]) (by decide +kernel) rfl (fun _ => rfl) ⟨rfl, trivial⟩ (Nat.le_of_ble_eq_true rfl) trivial (tw_X10_init h)
/-! X10_input -/
abbrev mm_X10_input : ax_M := (RX10, cX10_input, (some .int), 3, false)
def fn_X10_input (a0 : Option Nat) (a1 : Int32) (a2 : Int32) (s : ax_S) : Option (Int32 × ax_S) :=
  (ax_sh s 7 a0).bind fun w1 =>
  (fn_X10_isInput a0 a1 a2 s).bind fun q2 =>
  if q2.1 = 0 then
    some ((-1001), q2.2)
  else
    (ax_gr q2.2 7 0 a0).bind fun r4 =>
    (fn_X10_at a1 ((3) + a2) q2.2).bind fun q5 =>
    (ax_al q5.2 9 r4 q5.1).bind fun x6 =>
    some (x6, q5.2)
set_option maxRecDepth 100000 in
set_option maxHeartbeats 4000000 in
theorem tw_X10_input {q : Int32 × ax_S} {a0 : Option Nat} {a1 : Int32} {a2 : Int32} {s : ax_S} (h : fn_X10_input a0 a1 a2 s = some q) : AW mm_X10_input 3 0 0 0 [some (av_r a0), some (av_i a1), some (av_i a2)] [] s (some (av_i q.1), q.2) := by
  unfold fn_X10_input at h
  refine ax_aload_n (i := 0) dX10_input_0 rfl rfl ?_
  refine ax_iload_n (i := 1) dX10_input_1 rfl rfl ?_
  refine ax_iload_n (i := 2) dX10_input_2 rfl rfl ?_
  obtain ⟨w1, gw1, h⟩ := Option.bind_eq_some_iff.mp h
  obtain ⟨q2, gq2, h⟩ := Option.bind_eq_some_iff.mp h
  refine ax_cV (As := [av_i a1, av_i a2]) (t := 7) dX10_input_3 gw1 (th_X10_isInput gq2) rfl (And.intro wd_874 wd_60) wd_871 wd_873 wd_18 cy_X10_isInput (by omega) (by decide) (Nat.le_of_ble_eq_true rfl) rfl ?_
  refine ax_if_eq (tgt := 24) dX10_input_6 (by decide) (fun c3 => ?_) (fun c3 => ?_)
  · rw [if_pos c3] at h
    refine ax_sipush (v := (-1001)) dX10_input_24 rfl ?_
    exact ax_reti dX10_input_27 h
  · rw [if_neg c3] at h
    refine ax_aload_n (i := 0) dX10_input_9 rfl rfl ?_
    obtain ⟨r4, gr4, h⟩ := Option.bind_eq_some_iff.mp h
    refine ax_getR (q := (RX10, TX10, 28)) (t := 7) (k := 0) dX10_input_10 rfl (by decide) wd_761 rfl gr4 ?_
    refine ax_iload_n (i := 1) dX10_input_13 rfl rfl ?_
    refine ax_iconst (v := (3)) dX10_input_14 rfl ?_
    refine ax_iload_n (i := 2) dX10_input_15 rfl rfl ?_
    refine ax_iadd dX10_input_16 ?_
    obtain ⟨q5, gq5, h⟩ := Option.bind_eq_some_iff.mp h
    refine ax_cS (As := [av_i a1, av_i ((3) + a2)]) dX10_input_17 (th_X10_at gq5) (And.intro wd_863 wd_60) wd_861 wd_862 cy_X10_at (by omega) (by decide) (Nat.le_of_ble_eq_true rfl) rfl ?_
    obtain ⟨x6, gx6, h⟩ := Option.bind_eq_some_iff.mp h
    refine ax_iald dX10_input_20 gx6 ?_
    refine ax_goto (tgt := 27) dX10_input_21 (by decide) ?_
    exact ax_reti dX10_input_27 h
set_option maxRecDepth 100000 in
set_option maxHeartbeats 4000000 in
theorem th_X10_input {q : Int32 × ax_S} {a0 : Option Nat} {a1 : Int32} {a2 : Int32} {s : ax_S} (h : fn_X10_input a0 a1 a2 s = some q) : AC mm_X10_input yX10_input 3 0 0 [av_r a0, av_i a1, av_i a2] s (some (av_i q.1), q.2) := by
  exact ax_met (L0 := [some (av_r a0), some (av_i a1), some (av_i a2)]) (by decide +kernel) rfl (fun h => absurd h (by decide)) ⟨rfl, rfl, rfl, trivial⟩ (Nat.le_of_ble_eq_true rfl) trivial (tw_X10_input h)
/-! X10_isCached -/
abbrev mm_X10_isCached : ax_M := (RX10, cX10_isCached, (some .int), 3, false)
def fn_X10_isCached (a0 : Option Nat) (a1 : Int32) (a2 : Int32) (s : ax_S) : Option (Int32 × ax_S) :=
  (ax_sh s 7 a0).bind fun w1 =>
  (fn_X10_isPicture a0 a1 a2 s).bind fun q2 =>
  if q2.1 = 0 then
    some ((-1001), q2.2)
  else
    (ax_sh q2.2 7 a0).bind fun w4 =>
    (fn_X10_find a0 a1 a2 q2.2).bind fun q5 =>
    if 0 ≤ q5.1 then
      some ((1), q5.2)
    else
      some ((0), q5.2)
set_option maxRecDepth 100000 in
set_option maxHeartbeats 4000000 in
theorem tw_X10_isCached {q : Int32 × ax_S} {a0 : Option Nat} {a1 : Int32} {a2 : Int32} {s : ax_S} (h : fn_X10_isCached a0 a1 a2 s = some q) : AW mm_X10_isCached 3 0 0 0 [some (av_r a0), some (av_i a1), some (av_i a2)] [] s (some (av_i q.1), q.2) := by
  unfold fn_X10_isCached at h
  refine ax_aload_n (i := 0) dX10_isCached_0 rfl rfl ?_
  refine ax_iload_n (i := 1) dX10_isCached_1 rfl rfl ?_
  refine ax_iload_n (i := 2) dX10_isCached_2 rfl rfl ?_
  obtain ⟨w1, gw1, h⟩ := Option.bind_eq_some_iff.mp h
  obtain ⟨q2, gq2, h⟩ := Option.bind_eq_some_iff.mp h
  refine ax_cV (As := [av_i a1, av_i a2]) (t := 7) dX10_isCached_3 gw1 (th_X10_isPicture gq2) rfl (And.intro wd_955 wd_60) wd_952 wd_954 wd_29 cy_X10_isPicture (by omega) (by decide) (Nat.le_of_ble_eq_true rfl) rfl ?_
  refine ax_if_ne (tgt := 15) dX10_isCached_6 (by decide) (fun c3 => ?_) (fun c3 => ?_)
  · rw [if_neg c3] at h
    refine ax_aload_n (i := 0) dX10_isCached_15 rfl rfl ?_
    refine ax_iload_n (i := 1) dX10_isCached_16 rfl rfl ?_
    refine ax_iload_n (i := 2) dX10_isCached_17 rfl rfl ?_
    obtain ⟨w4, gw4, h⟩ := Option.bind_eq_some_iff.mp h
    obtain ⟨q5, gq5, h⟩ := Option.bind_eq_some_iff.mp h
    refine ax_cV (As := [av_i a1, av_i a2]) (t := 7) dX10_isCached_18 gw4 (th_X10_find gq5) rfl (And.intro wd_967 wd_60) wd_964 wd_966 wd_32 cy_X10_find (by omega) (by decide) (Nat.le_of_ble_eq_true rfl) rfl ?_
    refine ax_if_ge (tgt := 28) dX10_isCached_21 (by decide) (fun c6 => ?_) (fun c6 => ?_)
    · rw [if_pos c6] at h
      refine ax_iconst (v := (1)) dX10_isCached_28 rfl ?_
      exact ax_reti dX10_isCached_29 h
    · rw [if_neg c6] at h
      refine ax_iconst (v := (0)) dX10_isCached_24 rfl ?_
      refine ax_goto (tgt := 29) dX10_isCached_25 (by decide) ?_
      exact ax_reti dX10_isCached_29 h
  · rw [if_pos c3] at h
    refine ax_sipush (v := (-1001)) dX10_isCached_9 rfl ?_
    refine ax_goto (tgt := 29) dX10_isCached_12 (by decide) ?_
    exact ax_reti dX10_isCached_29 h
set_option maxRecDepth 100000 in
set_option maxHeartbeats 4000000 in
theorem th_X10_isCached {q : Int32 × ax_S} {a0 : Option Nat} {a1 : Int32} {a2 : Int32} {s : ax_S} (h : fn_X10_isCached a0 a1 a2 s = some q) : AC mm_X10_isCached yX10_isCached 3 0 0 [av_r a0, av_i a1, av_i a2] s (some (av_i q.1), q.2) := by
  exact ax_met (L0 := [some (av_r a0), some (av_i a1), some (av_i a2)]) (by decide +kernel) rfl (fun h => absurd h (by decide)) ⟨rfl, rfl, rfl, trivial⟩ (Nat.le_of_ble_eq_true rfl) trivial (tw_X10_isCached h)
/-! X10_node -/
abbrev mm_X10_node : ax_M := (RX10, cX10_node, (some .int), 3, false)
def fn_X10_node (a0 : Option Nat) (a1 : Int32) (a2 : Int32) (s : ax_S) : Option (Int32 × ax_S) :=
  (ax_sh s 7 a0).bind fun w1 =>
  (fn_X10_isNode a0 a1 s).bind fun q2 =>
  if q2.1 = 0 then
    some ((-1001), q2.2)
  else
    (fn_X10_in a2 (0) (5) q2.2).bind fun q4 =>
    if q4.1 = 0 then
      some ((-1002), q4.2)
    else
      (ax_sh q4.2 7 a0).bind fun w6 =>
      (fn_X10_nodeTells a0 a1 a2 q4.2).bind fun q7 =>
      some (q7.1, q7.2)
set_option maxRecDepth 100000 in
set_option maxHeartbeats 4000000 in
theorem tw_X10_node {q : Int32 × ax_S} {a0 : Option Nat} {a1 : Int32} {a2 : Int32} {s : ax_S} (h : fn_X10_node a0 a1 a2 s = some q) : AW mm_X10_node 4 0 0 0 [some (av_r a0), some (av_i a1), some (av_i a2)] [] s (some (av_i q.1), q.2) := by
  unfold fn_X10_node at h
  refine ax_aload_n (i := 0) dX10_node_0 rfl rfl ?_
  refine ax_iload_n (i := 1) dX10_node_1 rfl rfl ?_
  obtain ⟨w1, gw1, h⟩ := Option.bind_eq_some_iff.mp h
  obtain ⟨q2, gq2, h⟩ := Option.bind_eq_some_iff.mp h
  refine ax_cV (As := [av_i a1]) (t := 7) dX10_node_2 gw1 (th_X10_isNode gq2) rfl (And.intro wd_878 wd_60) wd_875 wd_877 wd_19 cy_X10_isNode (by omega) (by decide) (Nat.le_of_ble_eq_true rfl) rfl ?_
  refine ax_if_ne (tgt := 12) dX10_node_5 (by decide) (fun c3 => ?_) (fun c3 => ?_)
  · rw [if_neg c3] at h
    refine ax_iload_n (i := 2) dX10_node_12 rfl rfl ?_
    refine ax_iconst (v := (0)) dX10_node_13 rfl ?_
    refine ax_iconst (v := (5)) dX10_node_14 rfl ?_
    obtain ⟨q4, gq4, h⟩ := Option.bind_eq_some_iff.mp h
    refine ax_cS (As := [av_i a2, av_i (0), av_i (5)]) dX10_node_15 (th_X10_in gq4) (And.intro wd_856 wd_60) wd_854 wd_855 cy_X10_in (by omega) (by decide) (Nat.le_of_ble_eq_true rfl) rfl ?_
    refine ax_if_eq (tgt := 30) dX10_node_18 (by decide) (fun c5 => ?_) (fun c5 => ?_)
    · rw [if_pos c5] at h
      refine ax_sipush (v := (-1002)) dX10_node_30 rfl ?_
      exact ax_reti dX10_node_33 h
    · rw [if_neg c5] at h
      refine ax_aload_n (i := 0) dX10_node_21 rfl rfl ?_
      refine ax_iload_n (i := 1) dX10_node_22 rfl rfl ?_
      refine ax_iload_n (i := 2) dX10_node_23 rfl rfl ?_
      obtain ⟨w6, gw6, h⟩ := Option.bind_eq_some_iff.mp h
      obtain ⟨q7, gq7, h⟩ := Option.bind_eq_some_iff.mp h
      refine ax_cV (As := [av_i a1, av_i a2]) (t := 7) dX10_node_24 gw6 (th_X10_nodeTells gq7) rfl (And.intro wd_924 wd_60) wd_921 wd_923 wd_25 cy_X10_nodeTells (by omega) (by decide) (Nat.le_of_ble_eq_true rfl) rfl ?_
      refine ax_goto (tgt := 33) dX10_node_27 (by decide) ?_
      exact ax_reti dX10_node_33 h
  · rw [if_pos c3] at h
    refine ax_sipush (v := (-1001)) dX10_node_8 rfl ?_
    exact ax_reti dX10_node_11 h
set_option maxRecDepth 100000 in
set_option maxHeartbeats 4000000 in
theorem th_X10_node {q : Int32 × ax_S} {a0 : Option Nat} {a1 : Int32} {a2 : Int32} {s : ax_S} (h : fn_X10_node a0 a1 a2 s = some q) : AC mm_X10_node yX10_node 4 0 0 [av_r a0, av_i a1, av_i a2] s (some (av_i q.1), q.2) := by
  exact ax_met (L0 := [some (av_r a0), some (av_i a1), some (av_i a2)]) (by decide +kernel) rfl (fun h => absurd h (by decide)) ⟨rfl, rfl, rfl, trivial⟩ (Nat.le_of_ble_eq_true rfl) trivial (tw_X10_node h)
/-! X10_nodes -/
abbrev mm_X10_nodes : ax_M := (RX10, cX10_nodes, (some .int), 1, false)
def fn_X10_nodes (a0 : Option Nat) (s : ax_S) : Option (Int32 × ax_S) :=
  (ax_gr s 7 0 a0).bind fun r1 =>
  (ax_al s 9 r1 (0)).bind fun x2 =>
  some (x2, s)
set_option maxRecDepth 100000 in
set_option maxHeartbeats 4000000 in
theorem tw_X10_nodes {q : Int32 × ax_S} {a0 : Option Nat} {s : ax_S} (h : fn_X10_nodes a0 s = some q) : AW mm_X10_nodes 0 0 0 0 [some (av_r a0)] [] s (some (av_i q.1), q.2) := by
  unfold fn_X10_nodes at h
  refine ax_aload_n (i := 0) dX10_nodes_0 rfl rfl ?_
  obtain ⟨r1, gr1, h⟩ := Option.bind_eq_some_iff.mp h
  refine ax_getR (q := (RX10, TX10, 28)) (t := 7) (k := 0) dX10_nodes_1 rfl (by decide) wd_761 rfl gr1 ?_
  refine ax_iconst (v := (0)) dX10_nodes_4 rfl ?_
  obtain ⟨x2, gx2, h⟩ := Option.bind_eq_some_iff.mp h
  refine ax_iald dX10_nodes_5 gx2 ?_
  exact ax_reti dX10_nodes_6 h
set_option maxRecDepth 100000 in
set_option maxHeartbeats 4000000 in
theorem th_X10_nodes {q : Int32 × ax_S} {a0 : Option Nat} {s : ax_S} (h : fn_X10_nodes a0 s = some q) : AC mm_X10_nodes yX10_nodes 0 0 0 [av_r a0] s (some (av_i q.1), q.2) := by
  exact ax_met (L0 := [some (av_r a0)]) (by decide +kernel) rfl (fun h => absurd h (by decide)) ⟨rfl, trivial⟩ (Nat.le_of_ble_eq_true rfl) trivial (tw_X10_nodes h)
/-! X10_isParameter -/
abbrev mm_X10_isParameter : ax_M := (RX10, cX10_isParameter, (some .boolean), 3, false)
def fi_X10_isParameter (a0 : Option Nat) (a1 : Int32) (a2 : Int32) (s : ax_S) : Option (Int32 × ax_S) :=
  (ax_sh s 7 a0).bind fun w1 =>
  (fn_X10_isNode a0 a1 s).bind fun q2 =>
  if q2.1 = 0 then
    some ((0), q2.2)
  else
    (ax_gr q2.2 7 14 a0).bind fun r4 =>
    (ax_sh q2.2 7 a0).bind fun w5 =>
    (fn_X10_kind a0 a1 q2.2).bind fun q6 =>
    (ax_al q6.2 9 r4 q6.1).bind fun x7 =>
    (fn_X10_in a2 (0) (x7 - (1)) q6.2).bind fun q8 =>
    if q8.1 = 0 then
      some ((0), q8.2)
    else
      some ((1), q8.2)
set_option maxRecDepth 100000 in
set_option maxHeartbeats 4000000 in
theorem tw_X10_isParameter {q : Int32 × ax_S} {a0 : Option Nat} {a1 : Int32} {a2 : Int32} {s : ax_S} (h : fi_X10_isParameter a0 a1 a2 s = some q) : AW mm_X10_isParameter 2 0 0 0 [some (av_r a0), some (av_i a1), some (av_i a2)] [] s (some (av_i q.1), q.2) := by
  unfold fi_X10_isParameter at h
  refine ax_aload_n (i := 0) dX10_isParameter_0 rfl rfl ?_
  refine ax_iload_n (i := 1) dX10_isParameter_1 rfl rfl ?_
  obtain ⟨w1, gw1, h⟩ := Option.bind_eq_some_iff.mp h
  obtain ⟨q2, gq2, h⟩ := Option.bind_eq_some_iff.mp h
  refine ax_cV (As := [av_i a1]) (t := 7) dX10_isParameter_2 gw1 (th_X10_isNode gq2) rfl (And.intro wd_878 wd_60) wd_875 wd_877 wd_19 cy_X10_isNode (by omega) (by decide) (Nat.le_of_ble_eq_true rfl) rfl ?_
  refine ax_if_eq (tgt := 32) dX10_isParameter_5 (by decide) (fun c3 => ?_) (fun c3 => ?_)
  · rw [if_pos c3] at h
    refine ax_iconst (v := (0)) dX10_isParameter_32 rfl ?_
    exact ax_reti dX10_isParameter_33 h
  · rw [if_neg c3] at h
    refine ax_iload_n (i := 2) dX10_isParameter_8 rfl rfl ?_
    refine ax_iconst (v := (0)) dX10_isParameter_9 rfl ?_
    refine ax_aload_n (i := 0) dX10_isParameter_10 rfl rfl ?_
    obtain ⟨r4, gr4, h⟩ := Option.bind_eq_some_iff.mp h
    refine ax_getR (q := (RX10, TX10, 28)) (t := 7) (k := 14) dX10_isParameter_11 rfl (by decide) wd_775 rfl gr4 ?_
    refine ax_aload_n (i := 0) dX10_isParameter_14 rfl rfl ?_
    refine ax_iload_n (i := 1) dX10_isParameter_15 rfl rfl ?_
    obtain ⟨w5, gw5, h⟩ := Option.bind_eq_some_iff.mp h
    obtain ⟨q6, gq6, h⟩ := Option.bind_eq_some_iff.mp h
    refine ax_cV (As := [av_i a1]) (t := 7) dX10_isParameter_16 gw5 (th_X10_kind gq6) rfl (And.intro wd_882 wd_60) wd_879 wd_881 wd_20 cy_X10_kind (by omega) (by decide) (Nat.le_of_ble_eq_true rfl) rfl ?_
    obtain ⟨x7, gx7, h⟩ := Option.bind_eq_some_iff.mp h
    refine ax_iald dX10_isParameter_19 gx7 ?_
    refine ax_iconst (v := (1)) dX10_isParameter_20 rfl ?_
    refine ax_isub dX10_isParameter_21 ?_
    obtain ⟨q8, gq8, h⟩ := Option.bind_eq_some_iff.mp h
    refine ax_cS (As := [av_i a2, av_i (0), av_i (x7 - (1))]) dX10_isParameter_22 (th_X10_in gq8) (And.intro wd_856 wd_60) wd_854 wd_855 cy_X10_in (by omega) (by decide) (Nat.le_of_ble_eq_true rfl) rfl ?_
    refine ax_if_eq (tgt := 32) dX10_isParameter_25 (by decide) (fun c9 => ?_) (fun c9 => ?_)
    · rw [if_pos c9] at h
      refine ax_iconst (v := (0)) dX10_isParameter_32 rfl ?_
      exact ax_reti dX10_isParameter_33 h
    · rw [if_neg c9] at h
      refine ax_iconst (v := (1)) dX10_isParameter_28 rfl ?_
      refine ax_goto (tgt := 33) dX10_isParameter_29 (by decide) ?_
      exact ax_reti dX10_isParameter_33 h
def fn_X10_isParameter (a0 : Option Nat) (a1 : Int32) (a2 : Int32) (s : ax_S) : Option (Int32 × ax_S) := ax_bz (fi_X10_isParameter a0 a1 a2 s)
set_option maxRecDepth 100000 in
set_option maxHeartbeats 4000000 in
theorem th_X10_isParameter {q : Int32 × ax_S} {a0 : Option Nat} {a1 : Int32} {a2 : Int32} {s : ax_S} (h : fn_X10_isParameter a0 a1 a2 s = some q) : AC mm_X10_isParameter yX10_isParameter 2 0 0 [av_r a0, av_i a1, av_i a2] s (some (av_i q.1), q.2) := by
  obtain ⟨h, hz⟩ := ax_bz_of h
  exact ax_met (L0 := [some (av_r a0), some (av_i a1), some (av_i a2)]) (by decide +kernel) rfl (fun h => absurd h (by decide)) ⟨rfl, rfl, rfl, trivial⟩ (Nat.le_of_ble_eq_true rfl) hz (tw_X10_isParameter h)
/-! X10_parameter -/
abbrev mm_X10_parameter : ax_M := (RX10, cX10_parameter, (some .int), 3, false)
def fn_X10_parameter (a0 : Option Nat) (a1 : Int32) (a2 : Int32) (s : ax_S) : Option (Int32 × ax_S) :=
  (ax_sh s 7 a0).bind fun w1 =>
  (fn_X10_isParameter a0 a1 a2 s).bind fun q2 =>
  if q2.1 = 0 then
    some ((-1001), q2.2)
  else
    (ax_gr q2.2 7 0 a0).bind fun r4 =>
    (fn_X10_at a1 ((6) + a2) q2.2).bind fun q5 =>
    (ax_al q5.2 9 r4 q5.1).bind fun x6 =>
    some (x6, q5.2)
set_option maxRecDepth 100000 in
set_option maxHeartbeats 4000000 in
theorem tw_X10_parameter {q : Int32 × ax_S} {a0 : Option Nat} {a1 : Int32} {a2 : Int32} {s : ax_S} (h : fn_X10_parameter a0 a1 a2 s = some q) : AW mm_X10_parameter 3 0 0 0 [some (av_r a0), some (av_i a1), some (av_i a2)] [] s (some (av_i q.1), q.2) := by
  unfold fn_X10_parameter at h
  refine ax_aload_n (i := 0) dX10_parameter_0 rfl rfl ?_
  refine ax_iload_n (i := 1) dX10_parameter_1 rfl rfl ?_
  refine ax_iload_n (i := 2) dX10_parameter_2 rfl rfl ?_
  obtain ⟨w1, gw1, h⟩ := Option.bind_eq_some_iff.mp h
  obtain ⟨q2, gq2, h⟩ := Option.bind_eq_some_iff.mp h
  refine ax_cV (As := [av_i a1, av_i a2]) (t := 7) dX10_parameter_3 gw1 (th_X10_isParameter gq2) rfl (And.intro wd_902 wd_60) wd_899 wd_901 wd_24 cy_X10_isParameter (by omega) (by decide) (Nat.le_of_ble_eq_true rfl) rfl ?_
  refine ax_if_eq (tgt := 25) dX10_parameter_6 (by decide) (fun c3 => ?_) (fun c3 => ?_)
  · rw [if_pos c3] at h
    refine ax_sipush (v := (-1001)) dX10_parameter_25 rfl ?_
    exact ax_reti dX10_parameter_28 h
  · rw [if_neg c3] at h
    refine ax_aload_n (i := 0) dX10_parameter_9 rfl rfl ?_
    obtain ⟨r4, gr4, h⟩ := Option.bind_eq_some_iff.mp h
    refine ax_getR (q := (RX10, TX10, 28)) (t := 7) (k := 0) dX10_parameter_10 rfl (by decide) wd_761 rfl gr4 ?_
    refine ax_iload_n (i := 1) dX10_parameter_13 rfl rfl ?_
    refine ax_bipush (v := (6)) dX10_parameter_14 rfl ?_
    refine ax_iload_n (i := 2) dX10_parameter_16 rfl rfl ?_
    refine ax_iadd dX10_parameter_17 ?_
    obtain ⟨q5, gq5, h⟩ := Option.bind_eq_some_iff.mp h
    refine ax_cS (As := [av_i a1, av_i ((6) + a2)]) dX10_parameter_18 (th_X10_at gq5) (And.intro wd_863 wd_60) wd_861 wd_862 cy_X10_at (by omega) (by decide) (Nat.le_of_ble_eq_true rfl) rfl ?_
    obtain ⟨x6, gx6, h⟩ := Option.bind_eq_some_iff.mp h
    refine ax_iald dX10_parameter_21 gx6 ?_
    refine ax_goto (tgt := 28) dX10_parameter_22 (by decide) ?_
    exact ax_reti dX10_parameter_28 h
set_option maxRecDepth 100000 in
set_option maxHeartbeats 4000000 in
theorem th_X10_parameter {q : Int32 × ax_S} {a0 : Option Nat} {a1 : Int32} {a2 : Int32} {s : ax_S} (h : fn_X10_parameter a0 a1 a2 s = some q) : AC mm_X10_parameter yX10_parameter 3 0 0 [av_r a0, av_i a1, av_i a2] s (some (av_i q.1), q.2) := by
  exact ax_met (L0 := [some (av_r a0), some (av_i a1), some (av_i a2)]) (by decide +kernel) rfl (fun h => absurd h (by decide)) ⟨rfl, rfl, rfl, trivial⟩ (Nat.le_of_ble_eq_true rfl) trivial (tw_X10_parameter h)
/-! X10_restore -/
abbrev mm_X10_restore : ax_M := (RX10, cX10_restore, (some .int), 3, false)
def fb_X10_restore_28 : Nat → Option Nat → Int32 → Int32 → ax_S → Option (Int32 × ax_S)
  | 0, _, _, _, _ => none
  | n + 1, a0, a1, a2, s =>
    if (121) ≤ a2 then
      (ax_pi s 7 4 a0 (0)).bind fun s2 =>
      (ax_gr s2 7 0 a0).bind fun r3 =>
      (ax_al s2 9 r3 (0)).bind fun x4 =>
      some (x4, s2)
    else
      (ax_gr s 7 0 a0).bind fun r5 =>
      (ax_gr s 7 1 a0).bind fun r6 =>
      (ax_al s 9 r6 (((121) * a1) + a2)).bind fun x7 =>
      (ax_as s 9 r5 a2 x7).bind fun s8 =>
      (fb_X10_restore_28 n) a0 a1 (a2 + (1)) s8
set_option maxRecDepth 100000 in
set_option maxHeartbeats 4000000 in
theorem tb_X10_restore_28 {q : Int32 × ax_S} : ∀ (n : Nat) (a0 : Option Nat) (a1 : Int32) (a2 : Int32) (s : ax_S) (h : fb_X10_restore_28 n a0 a1 a2 s = some q), AW mm_X10_restore 1 0 0 28 [(some (av_r a0)), (some (av_i a1)), (some (av_i a2))] [] s (some (av_i q.1), q.2) := by
  intro n
  induction n with
  | zero =>
    intro a0 a1 a2 s h
    exact ax_no h
  | succ n ih =>
    intro a0 a1 a2 s h
    unfold fb_X10_restore_28 at h
    refine ax_iload_n (i := 2) dX10_restore_28 rfl rfl ?_
    refine ax_bipush (v := (121)) dX10_restore_29 rfl ?_
    refine ax_icmp_ge (tgt := 57) dX10_restore_31 (by decide) (fun c1 => ?_) (fun c1 => ?_)
    · rw [if_pos c1] at h
      refine ax_aload_n (i := 0) dX10_restore_57 rfl rfl ?_
      refine ax_iconst (v := (0)) dX10_restore_58 rfl ?_
      obtain ⟨s2, gs2, h⟩ := Option.bind_eq_some_iff.mp h
      refine ax_putI (q := (RX10, TX10, 28)) (t := 7) (k := 4) dX10_restore_59 rfl (by decide) wd_765 rfl rfl ⟨rfl, rfl⟩ gs2 ?_
      refine ax_aload_n (i := 0) dX10_restore_62 rfl rfl ?_
      obtain ⟨r3, gr3, h⟩ := Option.bind_eq_some_iff.mp h
      refine ax_getR (q := (RX10, TX10, 28)) (t := 7) (k := 0) dX10_restore_63 rfl (by decide) wd_761 rfl gr3 ?_
      refine ax_iconst (v := (0)) dX10_restore_66 rfl ?_
      obtain ⟨x4, gx4, h⟩ := Option.bind_eq_some_iff.mp h
      refine ax_iald dX10_restore_67 gx4 ?_
      exact ax_reti dX10_restore_68 h
    · rw [if_neg c1] at h
      refine ax_aload_n (i := 0) dX10_restore_34 rfl rfl ?_
      obtain ⟨r5, gr5, h⟩ := Option.bind_eq_some_iff.mp h
      refine ax_getR (q := (RX10, TX10, 28)) (t := 7) (k := 0) dX10_restore_35 rfl (by decide) wd_761 rfl gr5 ?_
      refine ax_iload_n (i := 2) dX10_restore_38 rfl rfl ?_
      refine ax_aload_n (i := 0) dX10_restore_39 rfl rfl ?_
      obtain ⟨r6, gr6, h⟩ := Option.bind_eq_some_iff.mp h
      refine ax_getR (q := (RX10, TX10, 28)) (t := 7) (k := 1) dX10_restore_40 rfl (by decide) wd_762 rfl gr6 ?_
      refine ax_bipush (v := (121)) dX10_restore_43 rfl ?_
      refine ax_iload_n (i := 1) dX10_restore_45 rfl rfl ?_
      refine ax_imul dX10_restore_46 ?_
      refine ax_iload_n (i := 2) dX10_restore_47 rfl rfl ?_
      refine ax_iadd dX10_restore_48 ?_
      obtain ⟨x7, gx7, h⟩ := Option.bind_eq_some_iff.mp h
      refine ax_iald dX10_restore_49 gx7 ?_
      obtain ⟨s8, gs8, h⟩ := Option.bind_eq_some_iff.mp h
      refine ax_iast dX10_restore_50 gs8 ?_
      refine ax_iinc (i := 2) (v := (a2 + (1))) (L2 := [some (av_r a0), some (av_i a1), some (av_i (a2 + (1)))]) dX10_restore_51 rfl rfl (by decide) rfl rfl ?_
      refine ax_goto (tgt := 28) dX10_restore_54 (by decide) ?_
      exact ax_less (L' := [(some (av_r a0)), (some (av_i a1)), (some (av_i (a2 + (1))))]) ⟨rfl, rfl, rfl, trivial⟩ (ih _ _ _ _ h)
def fn_X10_restore (a0 : Option Nat) (a1 : Int32) (s : ax_S) : Option (Int32 × ax_S) :=
  (fn_X10_in a1 (0) (1) s).bind fun q9 =>
  if q9.1 = 0 then
    some ((-1001), q9.2)
  else
    (ax_gr q9.2 7 2 a0).bind fun r11 =>
    (ax_al q9.2 10 r11 a1).bind fun x12 =>
    if x12 = 0 then
      some ((-1003), q9.2)
    else
      fb_X10_restore_28 10000 a0 a1 (0) q9.2
set_option maxRecDepth 100000 in
set_option maxHeartbeats 4000000 in
theorem tw_X10_restore {q : Int32 × ax_S} {a0 : Option Nat} {a1 : Int32} {s : ax_S} (h : fn_X10_restore a0 a1 s = some q) : AW mm_X10_restore 1 0 0 0 [some (av_r a0), some (av_i a1), none] [] s (some (av_i q.1), q.2) := by
  unfold fn_X10_restore at h
  refine ax_iload_n (i := 1) dX10_restore_0 rfl rfl ?_
  refine ax_iconst (v := (0)) dX10_restore_1 rfl ?_
  refine ax_iconst (v := (1)) dX10_restore_2 rfl ?_
  obtain ⟨q9, gq9, h⟩ := Option.bind_eq_some_iff.mp h
  refine ax_cS (As := [av_i a1, av_i (0), av_i (1)]) dX10_restore_3 (th_X10_in gq9) (And.intro wd_856 wd_60) wd_854 wd_855 cy_X10_in (by omega) (by decide) (Nat.le_of_ble_eq_true rfl) rfl ?_
  refine ax_if_ne (tgt := 13) dX10_restore_6 (by decide) (fun c10 => ?_) (fun c10 => ?_)
  · rw [if_neg c10] at h
    refine ax_aload_n (i := 0) dX10_restore_13 rfl rfl ?_
    obtain ⟨r11, gr11, h⟩ := Option.bind_eq_some_iff.mp h
    refine ax_getR (q := (RX10, TX10, 28)) (t := 7) (k := 2) dX10_restore_14 rfl (by decide) wd_763 rfl gr11 ?_
    refine ax_iload_n (i := 1) dX10_restore_17 rfl rfl ?_
    obtain ⟨x12, gx12, h⟩ := Option.bind_eq_some_iff.mp h
    refine ax_zald dX10_restore_18 gx12 ?_
    refine ax_if_ne (tgt := 26) dX10_restore_19 (by decide) (fun c13 => ?_) (fun c13 => ?_)
    · rw [if_neg c13] at h
      refine ax_iconst (v := (0)) dX10_restore_26 rfl ?_
      refine ax_istore_n (i := 2) (L2 := [some (av_r a0), some (av_i a1), some (av_i (0))]) dX10_restore_27 rfl (by decide) rfl rfl ?_
      exact ax_less (L' := [(some (av_r a0)), (some (av_i a1)), (some (av_i (0)))]) ⟨rfl, rfl, rfl, trivial⟩ (tb_X10_restore_28  _ _ _ _ _ h)
    · rw [if_pos c13] at h
      refine ax_sipush (v := (-1003)) dX10_restore_22 rfl ?_
      exact ax_reti dX10_restore_25 h
  · rw [if_pos c10] at h
    refine ax_sipush (v := (-1001)) dX10_restore_9 rfl ?_
    exact ax_reti dX10_restore_12 h
set_option maxRecDepth 100000 in
set_option maxHeartbeats 4000000 in
theorem th_X10_restore {q : Int32 × ax_S} {a0 : Option Nat} {a1 : Int32} {s : ax_S} (h : fn_X10_restore a0 a1 s = some q) : AC mm_X10_restore yX10_restore 1 0 0 [av_r a0, av_i a1] s (some (av_i q.1), q.2) := by
  exact ax_met (L0 := [some (av_r a0), some (av_i a1), none]) (by decide +kernel) rfl (fun h => absurd h (by decide)) ⟨rfl, rfl, trivial⟩ (Nat.le_of_ble_eq_true rfl) trivial (tw_X10_restore h)
/-! X10_save -/
abbrev mm_X10_save : ax_M := (RX10, cX10_save, (some .int), 3, false)
def fb_X10_save_15 : Nat → Option Nat → Int32 → Int32 → ax_S → Option (Int32 × ax_S)
  | 0, _, _, _, _ => none
  | n + 1, a0, a1, a2, s =>
    if (121) ≤ a2 then
      (ax_gr s 7 2 a0).bind fun r2 =>
      (ax_as s 10 r2 a1 (1)).bind fun s3 =>
      (ax_gr s3 7 0 a0).bind fun r4 =>
      (ax_al s3 9 r4 (0)).bind fun x5 =>
      some (x5, s3)
    else
      (ax_gr s 7 1 a0).bind fun r6 =>
      (ax_gr s 7 0 a0).bind fun r7 =>
      (ax_al s 9 r7 a2).bind fun x8 =>
      (ax_as s 9 r6 (((121) * a1) + a2) x8).bind fun s9 =>
      (fb_X10_save_15 n) a0 a1 (a2 + (1)) s9
set_option maxRecDepth 100000 in
set_option maxHeartbeats 4000000 in
theorem tb_X10_save_15 {q : Int32 × ax_S} : ∀ (n : Nat) (a0 : Option Nat) (a1 : Int32) (a2 : Int32) (s : ax_S) (h : fb_X10_save_15 n a0 a1 a2 s = some q), AW mm_X10_save 1 0 0 15 [(some (av_r a0)), (some (av_i a1)), (some (av_i a2))] [] s (some (av_i q.1), q.2) := by
  intro n
  induction n with
  | zero =>
    intro a0 a1 a2 s h
    exact ax_no h
  | succ n ih =>
    intro a0 a1 a2 s h
    unfold fb_X10_save_15 at h
    refine ax_iload_n (i := 2) dX10_save_15 rfl rfl ?_
    refine ax_bipush (v := (121)) dX10_save_16 rfl ?_
    refine ax_icmp_ge (tgt := 44) dX10_save_18 (by decide) (fun c1 => ?_) (fun c1 => ?_)
    · rw [if_pos c1] at h
      refine ax_aload_n (i := 0) dX10_save_44 rfl rfl ?_
      obtain ⟨r2, gr2, h⟩ := Option.bind_eq_some_iff.mp h
      refine ax_getR (q := (RX10, TX10, 28)) (t := 7) (k := 2) dX10_save_45 rfl (by decide) wd_763 rfl gr2 ?_
      refine ax_iload_n (i := 1) dX10_save_48 rfl rfl ?_
      refine ax_iconst (v := (1)) dX10_save_49 rfl ?_
      obtain ⟨s3, gs3, h⟩ := Option.bind_eq_some_iff.mp h
      refine ax_zast dX10_save_50 rfl gs3 ?_
      refine ax_aload_n (i := 0) dX10_save_51 rfl rfl ?_
      obtain ⟨r4, gr4, h⟩ := Option.bind_eq_some_iff.mp h
      refine ax_getR (q := (RX10, TX10, 28)) (t := 7) (k := 0) dX10_save_52 rfl (by decide) wd_761 rfl gr4 ?_
      refine ax_iconst (v := (0)) dX10_save_55 rfl ?_
      obtain ⟨x5, gx5, h⟩ := Option.bind_eq_some_iff.mp h
      refine ax_iald dX10_save_56 gx5 ?_
      exact ax_reti dX10_save_57 h
    · rw [if_neg c1] at h
      refine ax_aload_n (i := 0) dX10_save_21 rfl rfl ?_
      obtain ⟨r6, gr6, h⟩ := Option.bind_eq_some_iff.mp h
      refine ax_getR (q := (RX10, TX10, 28)) (t := 7) (k := 1) dX10_save_22 rfl (by decide) wd_762 rfl gr6 ?_
      refine ax_bipush (v := (121)) dX10_save_25 rfl ?_
      refine ax_iload_n (i := 1) dX10_save_27 rfl rfl ?_
      refine ax_imul dX10_save_28 ?_
      refine ax_iload_n (i := 2) dX10_save_29 rfl rfl ?_
      refine ax_iadd dX10_save_30 ?_
      refine ax_aload_n (i := 0) dX10_save_31 rfl rfl ?_
      obtain ⟨r7, gr7, h⟩ := Option.bind_eq_some_iff.mp h
      refine ax_getR (q := (RX10, TX10, 28)) (t := 7) (k := 0) dX10_save_32 rfl (by decide) wd_761 rfl gr7 ?_
      refine ax_iload_n (i := 2) dX10_save_35 rfl rfl ?_
      obtain ⟨x8, gx8, h⟩ := Option.bind_eq_some_iff.mp h
      refine ax_iald dX10_save_36 gx8 ?_
      obtain ⟨s9, gs9, h⟩ := Option.bind_eq_some_iff.mp h
      refine ax_iast dX10_save_37 gs9 ?_
      refine ax_iinc (i := 2) (v := (a2 + (1))) (L2 := [some (av_r a0), some (av_i a1), some (av_i (a2 + (1)))]) dX10_save_38 rfl rfl (by decide) rfl rfl ?_
      refine ax_goto (tgt := 15) dX10_save_41 (by decide) ?_
      exact ax_less (L' := [(some (av_r a0)), (some (av_i a1)), (some (av_i (a2 + (1))))]) ⟨rfl, rfl, rfl, trivial⟩ (ih _ _ _ _ h)
def fn_X10_save (a0 : Option Nat) (a1 : Int32) (s : ax_S) : Option (Int32 × ax_S) :=
  (fn_X10_in a1 (0) (1) s).bind fun q10 =>
  if q10.1 = 0 then
    some ((-1001), q10.2)
  else
    fb_X10_save_15 10000 a0 a1 (0) q10.2
set_option maxRecDepth 100000 in
set_option maxHeartbeats 4000000 in
theorem tw_X10_save {q : Int32 × ax_S} {a0 : Option Nat} {a1 : Int32} {s : ax_S} (h : fn_X10_save a0 a1 s = some q) : AW mm_X10_save 1 0 0 0 [some (av_r a0), some (av_i a1), none] [] s (some (av_i q.1), q.2) := by
  unfold fn_X10_save at h
  refine ax_iload_n (i := 1) dX10_save_0 rfl rfl ?_
  refine ax_iconst (v := (0)) dX10_save_1 rfl ?_
  refine ax_iconst (v := (1)) dX10_save_2 rfl ?_
  obtain ⟨q10, gq10, h⟩ := Option.bind_eq_some_iff.mp h
  refine ax_cS (As := [av_i a1, av_i (0), av_i (1)]) dX10_save_3 (th_X10_in gq10) (And.intro wd_856 wd_60) wd_854 wd_855 cy_X10_in (by omega) (by decide) (Nat.le_of_ble_eq_true rfl) rfl ?_
  refine ax_if_ne (tgt := 13) dX10_save_6 (by decide) (fun c11 => ?_) (fun c11 => ?_)
  · rw [if_neg c11] at h
    refine ax_iconst (v := (0)) dX10_save_13 rfl ?_
    refine ax_istore_n (i := 2) (L2 := [some (av_r a0), some (av_i a1), some (av_i (0))]) dX10_save_14 rfl (by decide) rfl rfl ?_
    exact ax_less (L' := [(some (av_r a0)), (some (av_i a1)), (some (av_i (0)))]) ⟨rfl, rfl, rfl, trivial⟩ (tb_X10_save_15  _ _ _ _ _ h)
  · rw [if_pos c11] at h
    refine ax_sipush (v := (-1001)) dX10_save_9 rfl ?_
    exact ax_reti dX10_save_12 h
set_option maxRecDepth 100000 in
set_option maxHeartbeats 4000000 in
theorem th_X10_save {q : Int32 × ax_S} {a0 : Option Nat} {a1 : Int32} {s : ax_S} (h : fn_X10_save a0 a1 s = some q) : AC mm_X10_save yX10_save 1 0 0 [av_r a0, av_i a1] s (some (av_i q.1), q.2) := by
  exact ax_met (L0 := [some (av_r a0), some (av_i a1), none]) (by decide +kernel) rfl (fun h => absurd h (by decide)) ⟨rfl, rfl, trivial⟩ (Nat.le_of_ble_eq_true rfl) trivial (tw_X10_save h)
/-! X10_scope -/
abbrev mm_X10_scope : ax_M := (RX10, cX10_scope, (some .int), 8, false)
def fb_X10_scope_87 (k55 : Option Nat → Int32 → Int32 → Int32 → Int32 → ax_S → Option (Int32 × ax_S)) (a0 : Option Nat) (a4 : Int32) (a5 : Int32) (a7 : Int32) (b0 : Int32) (b1 : Int32) (s : ax_S) : Option (Int32 × ax_S) :=
  ax_bd ((b0 + b1)) fun v1 =>
  k55 a0 a4 a5 v1 (a7 + (1)) s
set_option maxRecDepth 100000 in
set_option maxHeartbeats 4000000 in
theorem tb_X10_scope_87 {q : Int32 × ax_S} {k55 : Option Nat → Int32 → Int32 → Int32 → Int32 → ax_S → Option (Int32 × ax_S)} (hk55 : ∀ (a0 : Option Nat) (a4 : Int32) (a5 : Int32) (a6 : Int32) (a7 : Int32) (s : ax_S), k55 a0 a4 a5 a6 a7 s = some q → AW mm_X10_scope 6 0 0 55 [(some (av_r a0)), none, none, none, (some (av_i a4)), (some (av_i a5)), (some (av_i a6)), (some (av_i a7))] [] s (some (av_i q.1), q.2)) {a0 : Option Nat} {a4 : Int32} {a5 : Int32} {a7 : Int32} {b0 : Int32} {b1 : Int32} {s : ax_S} (h : fb_X10_scope_87 k55 a0 a4 a5 a7 b0 b1 s = some q) : AW mm_X10_scope 6 0 0 87 [(some (av_r a0)), none, none, none, (some (av_i a4)), (some (av_i a5)), none, (some (av_i a7))] [av_i b1, av_i b0] s (some (av_i q.1), q.2) := by
  unfold fb_X10_scope_87 at h
  refine ax_iadd dX10_scope_87 ?_
  refine ax_bdI h (fun v1 h => ?_)
  refine ax_istore (i := 6) (L2 := [some (av_r a0), none, none, none, some (av_i a4), some (av_i a5), some (av_i v1), some (av_i a7)]) dX10_scope_88 (by decide) rfl rfl ?_
  refine ax_iinc (i := 7) (v := (a7 + (1))) (L2 := [some (av_r a0), none, none, none, some (av_i a4), some (av_i a5), some (av_i v1), some (av_i (a7 + (1)))]) dX10_scope_90 rfl rfl (by decide) rfl rfl ?_
  refine ax_goto (tgt := 55) dX10_scope_93 (by decide) ?_
  exact ax_less (L' := [(some (av_r a0)), none, none, none, (some (av_i a4)), (some (av_i a5)), (some (av_i v1)), (some (av_i (a7 + (1))))]) ⟨rfl, rfl, rfl, rfl, rfl, trivial⟩ (hk55 _ _ _ _ _ _ h)
def fb_X10_scope_55 : Nat → Option Nat → Int32 → Int32 → Int32 → Int32 → ax_S → Option (Int32 × ax_S)
  | 0, _, _, _, _, _, _ => none
  | n + 1, a0, a4, a5, a6, a7, s =>
    if (32) ≤ a7 then
      some (a6, s)
    else
      (ax_gr s 7 8 a0).bind fun r3 =>
      (ax_al s 9 r3 (a5 + a7)).bind fun x4 =>
      if (x4 / (16)) = a4 then
        fb_X10_scope_87 (fb_X10_scope_55 n) a0 a4 a5 a7 a6 (1) s
      else
        fb_X10_scope_87 (fb_X10_scope_55 n) a0 a4 a5 a7 a6 (0) s
set_option maxRecDepth 100000 in
set_option maxHeartbeats 4000000 in
theorem tb_X10_scope_55 {q : Int32 × ax_S} : ∀ (n : Nat) (a0 : Option Nat) (a4 : Int32) (a5 : Int32) (a6 : Int32) (a7 : Int32) (s : ax_S) (h : fb_X10_scope_55 n a0 a4 a5 a6 a7 s = some q), AW mm_X10_scope 6 0 0 55 [(some (av_r a0)), none, none, none, (some (av_i a4)), (some (av_i a5)), (some (av_i a6)), (some (av_i a7))] [] s (some (av_i q.1), q.2) := by
  intro n
  induction n with
  | zero =>
    intro a0 a4 a5 a6 a7 s h
    exact ax_no h
  | succ n ih =>
    intro a0 a4 a5 a6 a7 s h
    unfold fb_X10_scope_55 at h
    refine ax_iload (i := 7) dX10_scope_55 rfl ?_
    refine ax_bipush (v := (32)) dX10_scope_57 rfl ?_
    refine ax_icmp_ge (tgt := 96) dX10_scope_59 (by decide) (fun c2 => ?_) (fun c2 => ?_)
    · rw [if_pos c2] at h
      refine ax_iload (i := 6) dX10_scope_96 rfl ?_
      exact ax_reti dX10_scope_98 h
    · rw [if_neg c2] at h
      refine ax_iload (i := 6) dX10_scope_62 rfl ?_
      refine ax_aload_n (i := 0) dX10_scope_64 rfl rfl ?_
      obtain ⟨r3, gr3, h⟩ := Option.bind_eq_some_iff.mp h
      refine ax_getR (q := (RX10, TX10, 28)) (t := 7) (k := 8) dX10_scope_65 rfl (by decide) wd_769 rfl gr3 ?_
      refine ax_iload (i := 5) dX10_scope_68 rfl ?_
      refine ax_iload (i := 7) dX10_scope_70 rfl ?_
      refine ax_iadd dX10_scope_72 ?_
      obtain ⟨x4, gx4, h⟩ := Option.bind_eq_some_iff.mp h
      refine ax_iald dX10_scope_73 gx4 ?_
      refine ax_bipush (v := (16)) dX10_scope_74 rfl ?_
      refine ax_idiv dX10_scope_76 (by decide) ?_
      refine ax_iload (i := 4) dX10_scope_77 rfl ?_
      refine ax_icmp_ne (tgt := 86) dX10_scope_79 (by decide) (fun c5 => ?_) (fun c5 => ?_)
      · rw [if_neg c5] at h
        refine ax_iconst (v := (0)) dX10_scope_86 rfl ?_
        exact ax_less (L' := [(some (av_r a0)), none, none, none, (some (av_i a4)), (some (av_i a5)), none, (some (av_i a7))]) ⟨rfl, rfl, rfl, rfl, trivial⟩ (tb_X10_scope_87 ih h)
      · rw [if_pos c5] at h
        refine ax_iconst (v := (1)) dX10_scope_82 rfl ?_
        refine ax_goto (tgt := 87) dX10_scope_83 (by decide) ?_
        exact ax_less (L' := [(some (av_r a0)), none, none, none, (some (av_i a4)), (some (av_i a5)), none, (some (av_i a7))]) ⟨rfl, rfl, rfl, rfl, trivial⟩ (tb_X10_scope_87 ih h)
def fn_X10_scope (a0 : Option Nat) (a1 : Int32) (a2 : Int32) (a3 : Int32) (a4 : Int32) (s : ax_S) : Option (Int32 × ax_S) :=
  (ax_sh s 7 a0).bind fun w6 =>
  (fn_X10_isPicture a0 a1 a2 s).bind fun q7 =>
  if q7.1 = 0 then
    some ((-1001), q7.2)
  else
    (fn_X10_in a3 (0) (2) q7.2).bind fun q9 =>
    if q9.1 = 0 then
      some ((-1001), q9.2)
    else
      (fn_X10_in a4 (0) (15) q9.2).bind fun q11 =>
      if q11.1 = 0 then
        some ((-1001), q11.2)
      else
        (ax_sh q11.2 7 a0).bind fun w13 =>
        (fn_X10_picture a0 a1 a2 q11.2).bind fun q14 =>
        ax_bd ((((96) * q14.1) + ((32) * a3))) fun v15 =>
        fb_X10_scope_55 10000 a0 a4 v15 (0) (0) q14.2
set_option maxRecDepth 100000 in
set_option maxHeartbeats 4000000 in
theorem tw_X10_scope {q : Int32 × ax_S} {a0 : Option Nat} {a1 : Int32} {a2 : Int32} {a3 : Int32} {a4 : Int32} {s : ax_S} (h : fn_X10_scope a0 a1 a2 a3 a4 s = some q) : AW mm_X10_scope 6 0 0 0 [some (av_r a0), some (av_i a1), some (av_i a2), some (av_i a3), some (av_i a4), none, none, none] [] s (some (av_i q.1), q.2) := by
  unfold fn_X10_scope at h
  refine ax_aload_n (i := 0) dX10_scope_0 rfl rfl ?_
  refine ax_iload_n (i := 1) dX10_scope_1 rfl rfl ?_
  refine ax_iload_n (i := 2) dX10_scope_2 rfl rfl ?_
  obtain ⟨w6, gw6, h⟩ := Option.bind_eq_some_iff.mp h
  obtain ⟨q7, gq7, h⟩ := Option.bind_eq_some_iff.mp h
  refine ax_cV (As := [av_i a1, av_i a2]) (t := 7) dX10_scope_3 gw6 (th_X10_isPicture gq7) rfl (And.intro wd_955 wd_60) wd_952 wd_954 wd_29 cy_X10_isPicture (by omega) (by decide) (Nat.le_of_ble_eq_true rfl) rfl ?_
  refine ax_if_eq (tgt := 29) dX10_scope_6 (by decide) (fun c8 => ?_) (fun c8 => ?_)
  · rw [if_pos c8] at h
    refine ax_sipush (v := (-1001)) dX10_scope_29 rfl ?_
    exact ax_reti dX10_scope_32 h
  · rw [if_neg c8] at h
    refine ax_iload_n (i := 3) dX10_scope_9 rfl rfl ?_
    refine ax_iconst (v := (0)) dX10_scope_10 rfl ?_
    refine ax_iconst (v := (2)) dX10_scope_11 rfl ?_
    obtain ⟨q9, gq9, h⟩ := Option.bind_eq_some_iff.mp h
    refine ax_cS (As := [av_i a3, av_i (0), av_i (2)]) dX10_scope_12 (th_X10_in gq9) (And.intro wd_856 wd_60) wd_854 wd_855 cy_X10_in (by omega) (by decide) (Nat.le_of_ble_eq_true rfl) rfl ?_
    refine ax_if_eq (tgt := 29) dX10_scope_15 (by decide) (fun c10 => ?_) (fun c10 => ?_)
    · rw [if_pos c10] at h
      refine ax_sipush (v := (-1001)) dX10_scope_29 rfl ?_
      exact ax_reti dX10_scope_32 h
    · rw [if_neg c10] at h
      refine ax_iload (i := 4) dX10_scope_18 rfl ?_
      refine ax_iconst (v := (0)) dX10_scope_20 rfl ?_
      refine ax_bipush (v := (15)) dX10_scope_21 rfl ?_
      obtain ⟨q11, gq11, h⟩ := Option.bind_eq_some_iff.mp h
      refine ax_cS (As := [av_i a4, av_i (0), av_i (15)]) dX10_scope_23 (th_X10_in gq11) (And.intro wd_856 wd_60) wd_854 wd_855 cy_X10_in (by omega) (by decide) (Nat.le_of_ble_eq_true rfl) rfl ?_
      refine ax_if_ne (tgt := 33) dX10_scope_26 (by decide) (fun c12 => ?_) (fun c12 => ?_)
      · rw [if_neg c12] at h
        refine ax_bipush (v := (96)) dX10_scope_33 rfl ?_
        refine ax_aload_n (i := 0) dX10_scope_35 rfl rfl ?_
        refine ax_iload_n (i := 1) dX10_scope_36 rfl rfl ?_
        refine ax_iload_n (i := 2) dX10_scope_37 rfl rfl ?_
        obtain ⟨w13, gw13, h⟩ := Option.bind_eq_some_iff.mp h
        obtain ⟨q14, gq14, h⟩ := Option.bind_eq_some_iff.mp h
        refine ax_cV (As := [av_i a1, av_i a2]) (t := 7) dX10_scope_38 gw13 (th_X10_picture gq14) rfl (And.intro wd_959 wd_60) wd_956 wd_958 wd_30 cy_X10_picture (by omega) (by decide) (Nat.le_of_ble_eq_true rfl) rfl ?_
        refine ax_imul dX10_scope_41 ?_
        refine ax_bipush (v := (32)) dX10_scope_42 rfl ?_
        refine ax_iload_n (i := 3) dX10_scope_44 rfl rfl ?_
        refine ax_imul dX10_scope_45 ?_
        refine ax_iadd dX10_scope_46 ?_
        refine ax_bdI h (fun v15 h => ?_)
        refine ax_istore (i := 5) (L2 := [some (av_r a0), some (av_i a1), some (av_i a2), some (av_i a3), some (av_i a4), some (av_i v15), none, none]) dX10_scope_47 (by decide) rfl rfl ?_
        refine ax_iconst (v := (0)) dX10_scope_49 rfl ?_
        refine ax_istore (i := 6) (L2 := [some (av_r a0), some (av_i a1), some (av_i a2), some (av_i a3), some (av_i a4), some (av_i v15), some (av_i (0)), none]) dX10_scope_50 (by decide) rfl rfl ?_
        refine ax_iconst (v := (0)) dX10_scope_52 rfl ?_
        refine ax_istore (i := 7) (L2 := [some (av_r a0), some (av_i a1), some (av_i a2), some (av_i a3), some (av_i a4), some (av_i v15), some (av_i (0)), some (av_i (0))]) dX10_scope_53 (by decide) rfl rfl ?_
        exact ax_less (L' := [(some (av_r a0)), none, none, none, (some (av_i a4)), (some (av_i v15)), (some (av_i (0))), (some (av_i (0)))]) ⟨rfl, rfl, rfl, rfl, rfl, trivial⟩ (tb_X10_scope_55  _ _ _ _ _ _ _ h)
      · rw [if_pos c12] at h
        refine ax_sipush (v := (-1001)) dX10_scope_29 rfl ?_
        exact ax_reti dX10_scope_32 h
set_option maxRecDepth 100000 in
set_option maxHeartbeats 4000000 in
theorem th_X10_scope {q : Int32 × ax_S} {a0 : Option Nat} {a1 : Int32} {a2 : Int32} {a3 : Int32} {a4 : Int32} {s : ax_S} (h : fn_X10_scope a0 a1 a2 a3 a4 s = some q) : AC mm_X10_scope yX10_scope 6 0 0 [av_r a0, av_i a1, av_i a2, av_i a3, av_i a4] s (some (av_i q.1), q.2) := by
  exact ax_met (L0 := [some (av_r a0), some (av_i a1), some (av_i a2), some (av_i a3), some (av_i a4), none, none, none]) (by decide +kernel) rfl (fun h => absurd h (by decide)) ⟨rfl, rfl, rfl, rfl, rfl, trivial⟩ (Nat.le_of_ble_eq_true rfl) trivial (tw_X10_scope h)
/-! X10_low -/
abbrev mm_X10_low : ax_M := (RX10, cX10_low, (some .int), 1, false)
def fn_X10_low (a0 : Int32) (s : ax_S) : Option (Int32 × ax_S) :=
  if a0 = (2) then
    some ((-255), s)
  else
    some ((0), s)
set_option maxRecDepth 100000 in
set_option maxHeartbeats 4000000 in
theorem tw_X10_low {q : Int32 × ax_S} {a0 : Int32} {s : ax_S} (h : fn_X10_low a0 s = some q) : AW mm_X10_low 0 0 0 0 [some (av_i a0)] [] s (some (av_i q.1), q.2) := by
  unfold fn_X10_low at h
  refine ax_iload_n (i := 0) dX10_low_0 rfl rfl ?_
  refine ax_iconst (v := (2)) dX10_low_1 rfl ?_
  refine ax_icmp_ne (tgt := 11) dX10_low_2 (by decide) (fun c1 => ?_) (fun c1 => ?_)
  · rw [if_neg c1] at h
    refine ax_iconst (v := (0)) dX10_low_11 rfl ?_
    exact ax_reti dX10_low_12 h
  · rw [if_pos c1] at h
    refine ax_sipush (v := (-255)) dX10_low_5 rfl ?_
    refine ax_goto (tgt := 12) dX10_low_8 (by decide) ?_
    exact ax_reti dX10_low_12 h
set_option maxRecDepth 100000 in
set_option maxHeartbeats 4000000 in
theorem th_X10_low {q : Int32 × ax_S} {a0 : Int32} {s : ax_S} (h : fn_X10_low a0 s = some q) : AC mm_X10_low yX10_low 0 0 0 [av_i a0] s (some (av_i q.1), q.2) := by
  exact ax_met (L0 := [some (av_i a0)]) (by decide +kernel) rfl (fun h => absurd h (by decide)) ⟨rfl, trivial⟩ (Nat.le_of_ble_eq_true rfl) trivial (tw_X10_low h)
/-! X10_set -/
abbrev mm_X10_set : ax_M := (RX10, cX10_set, (some .int), 4, false)
def fn_X10_set (a0 : Option Nat) (a1 : Int32) (a2 : Int32) (a3 : Int32) (s : ax_S) : Option (Int32 × ax_S) :=
  (ax_sh s 7 a0).bind fun w1 =>
  (fn_X10_isParameter a0 a1 a2 s).bind fun q2 =>
  if q2.1 = 0 then
    some ((-1001), q2.2)
  else
    (ax_sh q2.2 7 a0).bind fun w4 =>
    (fn_X10_kind a0 a1 q2.2).bind fun q5 =>
    (fn_X10_low q5.1 q5.2).bind fun q6 =>
    (ax_sh q6.2 7 a0).bind fun w7 =>
    (fn_X10_kind a0 a1 q6.2).bind fun q8 =>
    (fn_X10_high q8.1 a2 q8.2).bind fun q9 =>
    (fn_X10_in a3 q6.1 q9.1 q9.2).bind fun q10 =>
    if q10.1 = 0 then
      some ((-1002), q10.2)
    else
      (ax_gr q10.2 7 0 a0).bind fun r12 =>
      (fn_X10_at a1 ((6) + a2) q10.2).bind fun q13 =>
      (ax_as q13.2 9 r12 q13.1 a3).bind fun s14 =>
      (ax_gr s14 7 0 a0).bind fun r15 =>
      (fn_X10_at a1 (1) s14).bind fun q16 =>
      (ax_al q16.2 9 r15 q16.1).bind fun x17 =>
      (ax_gr q16.2 7 0 a0).bind fun r18 =>
      (fn_X10_at a1 (2) q16.2).bind fun q19 =>
      (ax_al q19.2 9 r18 q19.1).bind fun x20 =>
      (ax_sh q19.2 7 a0).bind fun w21 =>
      (fn_X10_voids a0 a1 x17 x20 (1) (0) q19.2).bind fun q22 =>
      some (q22.1, q22.2)
set_option maxRecDepth 100000 in
set_option maxHeartbeats 4000000 in
theorem tw_X10_set {q : Int32 × ax_S} {a0 : Option Nat} {a1 : Int32} {a2 : Int32} {a3 : Int32} {s : ax_S} (h : fn_X10_set a0 a1 a2 a3 s = some q) : AW mm_X10_set 3 0 0 0 [some (av_r a0), some (av_i a1), some (av_i a2), some (av_i a3)] [] s (some (av_i q.1), q.2) := by
  unfold fn_X10_set at h
  refine ax_aload_n (i := 0) dX10_set_0 rfl rfl ?_
  refine ax_iload_n (i := 1) dX10_set_1 rfl rfl ?_
  refine ax_iload_n (i := 2) dX10_set_2 rfl rfl ?_
  obtain ⟨w1, gw1, h⟩ := Option.bind_eq_some_iff.mp h
  obtain ⟨q2, gq2, h⟩ := Option.bind_eq_some_iff.mp h
  refine ax_cV (As := [av_i a1, av_i a2]) (t := 7) dX10_set_3 gw1 (th_X10_isParameter gq2) rfl (And.intro wd_902 wd_60) wd_899 wd_901 wd_24 cy_X10_isParameter (by omega) (by decide) (Nat.le_of_ble_eq_true rfl) rfl ?_
  refine ax_if_ne (tgt := 13) dX10_set_6 (by decide) (fun c3 => ?_) (fun c3 => ?_)
  · rw [if_neg c3] at h
    refine ax_iload_n (i := 3) dX10_set_13 rfl rfl ?_
    refine ax_aload_n (i := 0) dX10_set_14 rfl rfl ?_
    refine ax_iload_n (i := 1) dX10_set_15 rfl rfl ?_
    obtain ⟨w4, gw4, h⟩ := Option.bind_eq_some_iff.mp h
    obtain ⟨q5, gq5, h⟩ := Option.bind_eq_some_iff.mp h
    refine ax_cV (As := [av_i a1]) (t := 7) dX10_set_16 gw4 (th_X10_kind gq5) rfl (And.intro wd_882 wd_60) wd_879 wd_881 wd_20 cy_X10_kind (by omega) (by decide) (Nat.le_of_ble_eq_true rfl) rfl ?_
    obtain ⟨q6, gq6, h⟩ := Option.bind_eq_some_iff.mp h
    refine ax_cS (As := [av_i q5.1]) dX10_set_19 (th_X10_low gq6) (And.intro wd_905 wd_60) wd_903 wd_904 cy_X10_low (by omega) (by decide) (Nat.le_of_ble_eq_true rfl) rfl ?_
    refine ax_aload_n (i := 0) dX10_set_22 rfl rfl ?_
    refine ax_iload_n (i := 1) dX10_set_23 rfl rfl ?_
    obtain ⟨w7, gw7, h⟩ := Option.bind_eq_some_iff.mp h
    obtain ⟨q8, gq8, h⟩ := Option.bind_eq_some_iff.mp h
    refine ax_cV (As := [av_i a1]) (t := 7) dX10_set_24 gw7 (th_X10_kind gq8) rfl (And.intro wd_882 wd_60) wd_879 wd_881 wd_20 cy_X10_kind (by omega) (by decide) (Nat.le_of_ble_eq_true rfl) rfl ?_
    refine ax_iload_n (i := 2) dX10_set_27 rfl rfl ?_
    obtain ⟨q9, gq9, h⟩ := Option.bind_eq_some_iff.mp h
    refine ax_cS (As := [av_i q8.1, av_i a2]) dX10_set_28 (th_X10_high gq9) (And.intro wd_908 wd_60) wd_906 wd_907 cy_X10_high (by omega) (by decide) (Nat.le_of_ble_eq_true rfl) rfl ?_
    obtain ⟨q10, gq10, h⟩ := Option.bind_eq_some_iff.mp h
    refine ax_cS (As := [av_i a3, av_i q6.1, av_i q9.1]) dX10_set_31 (th_X10_in gq10) (And.intro wd_856 wd_60) wd_854 wd_855 cy_X10_in (by omega) (by decide) (Nat.le_of_ble_eq_true rfl) rfl ?_
    refine ax_if_ne (tgt := 41) dX10_set_34 (by decide) (fun c11 => ?_) (fun c11 => ?_)
    · rw [if_neg c11] at h
      refine ax_aload_n (i := 0) dX10_set_41 rfl rfl ?_
      obtain ⟨r12, gr12, h⟩ := Option.bind_eq_some_iff.mp h
      refine ax_getR (q := (RX10, TX10, 28)) (t := 7) (k := 0) dX10_set_42 rfl (by decide) wd_761 rfl gr12 ?_
      refine ax_iload_n (i := 1) dX10_set_45 rfl rfl ?_
      refine ax_bipush (v := (6)) dX10_set_46 rfl ?_
      refine ax_iload_n (i := 2) dX10_set_48 rfl rfl ?_
      refine ax_iadd dX10_set_49 ?_
      obtain ⟨q13, gq13, h⟩ := Option.bind_eq_some_iff.mp h
      refine ax_cS (As := [av_i a1, av_i ((6) + a2)]) dX10_set_50 (th_X10_at gq13) (And.intro wd_863 wd_60) wd_861 wd_862 cy_X10_at (by omega) (by decide) (Nat.le_of_ble_eq_true rfl) rfl ?_
      refine ax_iload_n (i := 3) dX10_set_53 rfl rfl ?_
      obtain ⟨s14, gs14, h⟩ := Option.bind_eq_some_iff.mp h
      refine ax_iast dX10_set_54 gs14 ?_
      refine ax_aload_n (i := 0) dX10_set_55 rfl rfl ?_
      refine ax_iload_n (i := 1) dX10_set_56 rfl rfl ?_
      refine ax_aload_n (i := 0) dX10_set_57 rfl rfl ?_
      obtain ⟨r15, gr15, h⟩ := Option.bind_eq_some_iff.mp h
      refine ax_getR (q := (RX10, TX10, 28)) (t := 7) (k := 0) dX10_set_58 rfl (by decide) wd_761 rfl gr15 ?_
      refine ax_iload_n (i := 1) dX10_set_61 rfl rfl ?_
      refine ax_iconst (v := (1)) dX10_set_62 rfl ?_
      obtain ⟨q16, gq16, h⟩ := Option.bind_eq_some_iff.mp h
      refine ax_cS (As := [av_i a1, av_i (1)]) dX10_set_63 (th_X10_at gq16) (And.intro wd_863 wd_60) wd_861 wd_862 cy_X10_at (by omega) (by decide) (Nat.le_of_ble_eq_true rfl) rfl ?_
      obtain ⟨x17, gx17, h⟩ := Option.bind_eq_some_iff.mp h
      refine ax_iald dX10_set_66 gx17 ?_
      refine ax_aload_n (i := 0) dX10_set_67 rfl rfl ?_
      obtain ⟨r18, gr18, h⟩ := Option.bind_eq_some_iff.mp h
      refine ax_getR (q := (RX10, TX10, 28)) (t := 7) (k := 0) dX10_set_68 rfl (by decide) wd_761 rfl gr18 ?_
      refine ax_iload_n (i := 1) dX10_set_71 rfl rfl ?_
      refine ax_iconst (v := (2)) dX10_set_72 rfl ?_
      obtain ⟨q19, gq19, h⟩ := Option.bind_eq_some_iff.mp h
      refine ax_cS (As := [av_i a1, av_i (2)]) dX10_set_73 (th_X10_at gq19) (And.intro wd_863 wd_60) wd_861 wd_862 cy_X10_at (by omega) (by decide) (Nat.le_of_ble_eq_true rfl) rfl ?_
      obtain ⟨x20, gx20, h⟩ := Option.bind_eq_some_iff.mp h
      refine ax_iald dX10_set_76 gx20 ?_
      refine ax_iconst (v := (1)) dX10_set_77 rfl ?_
      refine ax_iconst (v := (0)) dX10_set_78 rfl ?_
      obtain ⟨w21, gw21, h⟩ := Option.bind_eq_some_iff.mp h
      obtain ⟨q22, gq22, h⟩ := Option.bind_eq_some_iff.mp h
      refine ax_cV (As := [av_i a1, av_i x17, av_i x20, av_i (1), av_i (0)]) (t := 7) dX10_set_79 gw21 (th_X10_voids gq22) rfl (And.intro wd_890 wd_60) wd_887 wd_889 wd_22 cy_X10_voids (by omega) (by decide) (Nat.le_of_ble_eq_true rfl) rfl ?_
      exact ax_reti dX10_set_82 h
    · rw [if_pos c11] at h
      refine ax_sipush (v := (-1002)) dX10_set_37 rfl ?_
      exact ax_reti dX10_set_40 h
  · rw [if_pos c3] at h
    refine ax_sipush (v := (-1001)) dX10_set_9 rfl ?_
    exact ax_reti dX10_set_12 h
set_option maxRecDepth 100000 in
set_option maxHeartbeats 4000000 in
theorem th_X10_set {q : Int32 × ax_S} {a0 : Option Nat} {a1 : Int32} {a2 : Int32} {a3 : Int32} {s : ax_S} (h : fn_X10_set a0 a1 a2 a3 s = some q) : AC mm_X10_set yX10_set 3 0 0 [av_r a0, av_i a1, av_i a2, av_i a3] s (some (av_i q.1), q.2) := by
  exact ax_met (L0 := [some (av_r a0), some (av_i a1), some (av_i a2), some (av_i a3)]) (by decide +kernel) rfl (fun h => absurd h (by decide)) ⟨rfl, rfl, rfl, rfl, trivial⟩ (Nat.le_of_ble_eq_true rfl) trivial (tw_X10_set h)
/-! X10_setRange -/
abbrev mm_X10_setRange : ax_M := (RX10, cX10_setRange, (some .int), 6, false)
def fn_X10_setRange (a0 : Option Nat) (a1 : Int32) (a2 : Int32) (a3 : Int32) (s : ax_S) : Option (Int32 × ax_S) :=
  (ax_sh s 7 a0).bind fun w1 =>
  (fn_X10_isNode a0 a1 s).bind fun q2 =>
  if q2.1 = 0 then
    some ((-1001), q2.2)
  else
    (fn_X10_in a2 (0) (99) q2.2).bind fun q4 =>
    if q4.1 = 0 then
      some ((-1002), q4.2)
    else
      (fn_X10_in a3 a2 (99) q4.2).bind fun q6 =>
      if q6.1 = 0 then
        some ((-1002), q6.2)
      else
        (ax_gr q6.2 7 0 a0).bind fun r8 =>
        (fn_X10_at a1 (1) q6.2).bind fun q9 =>
        (ax_al q9.2 9 r8 q9.1).bind fun x10 =>
        (ax_gr q9.2 7 0 a0).bind fun r11 =>
        (fn_X10_at a1 (2) q9.2).bind fun q12 =>
        (ax_al q12.2 9 r11 q12.1).bind fun x13 =>
        (ax_gr q12.2 7 0 a0).bind fun r14 =>
        (fn_X10_at a1 (1) q12.2).bind fun q15 =>
        (ax_as q15.2 9 r14 q15.1 a2).bind fun s16 =>
        (ax_gr s16 7 0 a0).bind fun r17 =>
        (fn_X10_at a1 (2) s16).bind fun q18 =>
        (ax_as q18.2 9 r17 q18.1 a3).bind fun s19 =>
        (ax_sh s19 7 a0).bind fun w20 =>
        (fn_X10_voids a0 a1 x10 x13 a2 a3 s19).bind fun q21 =>
        (ax_sh q21.2 7 a0).bind fun w22 =>
        (fn_X10_voids a0 a1 a2 a3 x10 x13 q21.2).bind fun q23 =>
        some ((q21.1 + q23.1), q23.2)
set_option maxRecDepth 100000 in
set_option maxHeartbeats 4000000 in
theorem tw_X10_setRange {q : Int32 × ax_S} {a0 : Option Nat} {a1 : Int32} {a2 : Int32} {a3 : Int32} {s : ax_S} (h : fn_X10_setRange a0 a1 a2 a3 s = some q) : AW mm_X10_setRange 3 0 0 0 [some (av_r a0), some (av_i a1), some (av_i a2), some (av_i a3), none, none] [] s (some (av_i q.1), q.2) := by
  unfold fn_X10_setRange at h
  refine ax_aload_n (i := 0) dX10_setRange_0 rfl rfl ?_
  refine ax_iload_n (i := 1) dX10_setRange_1 rfl rfl ?_
  obtain ⟨w1, gw1, h⟩ := Option.bind_eq_some_iff.mp h
  obtain ⟨q2, gq2, h⟩ := Option.bind_eq_some_iff.mp h
  refine ax_cV (As := [av_i a1]) (t := 7) dX10_setRange_2 gw1 (th_X10_isNode gq2) rfl (And.intro wd_878 wd_60) wd_875 wd_877 wd_19 cy_X10_isNode (by omega) (by decide) (Nat.le_of_ble_eq_true rfl) rfl ?_
  refine ax_if_ne (tgt := 12) dX10_setRange_5 (by decide) (fun c3 => ?_) (fun c3 => ?_)
  · rw [if_neg c3] at h
    refine ax_iload_n (i := 2) dX10_setRange_12 rfl rfl ?_
    refine ax_iconst (v := (0)) dX10_setRange_13 rfl ?_
    refine ax_bipush (v := (99)) dX10_setRange_14 rfl ?_
    obtain ⟨q4, gq4, h⟩ := Option.bind_eq_some_iff.mp h
    refine ax_cS (As := [av_i a2, av_i (0), av_i (99)]) dX10_setRange_16 (th_X10_in gq4) (And.intro wd_856 wd_60) wd_854 wd_855 cy_X10_in (by omega) (by decide) (Nat.le_of_ble_eq_true rfl) rfl ?_
    refine ax_if_eq (tgt := 32) dX10_setRange_19 (by decide) (fun c5 => ?_) (fun c5 => ?_)
    · rw [if_pos c5] at h
      refine ax_sipush (v := (-1002)) dX10_setRange_32 rfl ?_
      exact ax_reti dX10_setRange_35 h
    · rw [if_neg c5] at h
      refine ax_iload_n (i := 3) dX10_setRange_22 rfl rfl ?_
      refine ax_iload_n (i := 2) dX10_setRange_23 rfl rfl ?_
      refine ax_bipush (v := (99)) dX10_setRange_24 rfl ?_
      obtain ⟨q6, gq6, h⟩ := Option.bind_eq_some_iff.mp h
      refine ax_cS (As := [av_i a3, av_i a2, av_i (99)]) dX10_setRange_26 (th_X10_in gq6) (And.intro wd_856 wd_60) wd_854 wd_855 cy_X10_in (by omega) (by decide) (Nat.le_of_ble_eq_true rfl) rfl ?_
      refine ax_if_ne (tgt := 36) dX10_setRange_29 (by decide) (fun c7 => ?_) (fun c7 => ?_)
      · rw [if_neg c7] at h
        refine ax_aload_n (i := 0) dX10_setRange_36 rfl rfl ?_
        obtain ⟨r8, gr8, h⟩ := Option.bind_eq_some_iff.mp h
        refine ax_getR (q := (RX10, TX10, 28)) (t := 7) (k := 0) dX10_setRange_37 rfl (by decide) wd_761 rfl gr8 ?_
        refine ax_iload_n (i := 1) dX10_setRange_40 rfl rfl ?_
        refine ax_iconst (v := (1)) dX10_setRange_41 rfl ?_
        obtain ⟨q9, gq9, h⟩ := Option.bind_eq_some_iff.mp h
        refine ax_cS (As := [av_i a1, av_i (1)]) dX10_setRange_42 (th_X10_at gq9) (And.intro wd_863 wd_60) wd_861 wd_862 cy_X10_at (by omega) (by decide) (Nat.le_of_ble_eq_true rfl) rfl ?_
        obtain ⟨x10, gx10, h⟩ := Option.bind_eq_some_iff.mp h
        refine ax_iald dX10_setRange_45 gx10 ?_
        refine ax_istore (i := 4) (L2 := [some (av_r a0), some (av_i a1), some (av_i a2), some (av_i a3), some (av_i x10), none]) dX10_setRange_46 (by decide) rfl rfl ?_
        refine ax_aload_n (i := 0) dX10_setRange_48 rfl rfl ?_
        obtain ⟨r11, gr11, h⟩ := Option.bind_eq_some_iff.mp h
        refine ax_getR (q := (RX10, TX10, 28)) (t := 7) (k := 0) dX10_setRange_49 rfl (by decide) wd_761 rfl gr11 ?_
        refine ax_iload_n (i := 1) dX10_setRange_52 rfl rfl ?_
        refine ax_iconst (v := (2)) dX10_setRange_53 rfl ?_
        obtain ⟨q12, gq12, h⟩ := Option.bind_eq_some_iff.mp h
        refine ax_cS (As := [av_i a1, av_i (2)]) dX10_setRange_54 (th_X10_at gq12) (And.intro wd_863 wd_60) wd_861 wd_862 cy_X10_at (by omega) (by decide) (Nat.le_of_ble_eq_true rfl) rfl ?_
        obtain ⟨x13, gx13, h⟩ := Option.bind_eq_some_iff.mp h
        refine ax_iald dX10_setRange_57 gx13 ?_
        refine ax_istore (i := 5) (L2 := [some (av_r a0), some (av_i a1), some (av_i a2), some (av_i a3), some (av_i x10), some (av_i x13)]) dX10_setRange_58 (by decide) rfl rfl ?_
        refine ax_aload_n (i := 0) dX10_setRange_60 rfl rfl ?_
        obtain ⟨r14, gr14, h⟩ := Option.bind_eq_some_iff.mp h
        refine ax_getR (q := (RX10, TX10, 28)) (t := 7) (k := 0) dX10_setRange_61 rfl (by decide) wd_761 rfl gr14 ?_
        refine ax_iload_n (i := 1) dX10_setRange_64 rfl rfl ?_
        refine ax_iconst (v := (1)) dX10_setRange_65 rfl ?_
        obtain ⟨q15, gq15, h⟩ := Option.bind_eq_some_iff.mp h
        refine ax_cS (As := [av_i a1, av_i (1)]) dX10_setRange_66 (th_X10_at gq15) (And.intro wd_863 wd_60) wd_861 wd_862 cy_X10_at (by omega) (by decide) (Nat.le_of_ble_eq_true rfl) rfl ?_
        refine ax_iload_n (i := 2) dX10_setRange_69 rfl rfl ?_
        obtain ⟨s16, gs16, h⟩ := Option.bind_eq_some_iff.mp h
        refine ax_iast dX10_setRange_70 gs16 ?_
        refine ax_aload_n (i := 0) dX10_setRange_71 rfl rfl ?_
        obtain ⟨r17, gr17, h⟩ := Option.bind_eq_some_iff.mp h
        refine ax_getR (q := (RX10, TX10, 28)) (t := 7) (k := 0) dX10_setRange_72 rfl (by decide) wd_761 rfl gr17 ?_
        refine ax_iload_n (i := 1) dX10_setRange_75 rfl rfl ?_
        refine ax_iconst (v := (2)) dX10_setRange_76 rfl ?_
        obtain ⟨q18, gq18, h⟩ := Option.bind_eq_some_iff.mp h
        refine ax_cS (As := [av_i a1, av_i (2)]) dX10_setRange_77 (th_X10_at gq18) (And.intro wd_863 wd_60) wd_861 wd_862 cy_X10_at (by omega) (by decide) (Nat.le_of_ble_eq_true rfl) rfl ?_
        refine ax_iload_n (i := 3) dX10_setRange_80 rfl rfl ?_
        obtain ⟨s19, gs19, h⟩ := Option.bind_eq_some_iff.mp h
        refine ax_iast dX10_setRange_81 gs19 ?_
        refine ax_aload_n (i := 0) dX10_setRange_82 rfl rfl ?_
        refine ax_iload_n (i := 1) dX10_setRange_83 rfl rfl ?_
        refine ax_iload (i := 4) dX10_setRange_84 rfl ?_
        refine ax_iload (i := 5) dX10_setRange_86 rfl ?_
        refine ax_iload_n (i := 2) dX10_setRange_88 rfl rfl ?_
        refine ax_iload_n (i := 3) dX10_setRange_89 rfl rfl ?_
        obtain ⟨w20, gw20, h⟩ := Option.bind_eq_some_iff.mp h
        obtain ⟨q21, gq21, h⟩ := Option.bind_eq_some_iff.mp h
        refine ax_cV (As := [av_i a1, av_i x10, av_i x13, av_i a2, av_i a3]) (t := 7) dX10_setRange_90 gw20 (th_X10_voids gq21) rfl (And.intro wd_890 wd_60) wd_887 wd_889 wd_22 cy_X10_voids (by omega) (by decide) (Nat.le_of_ble_eq_true rfl) rfl ?_
        refine ax_aload_n (i := 0) dX10_setRange_93 rfl rfl ?_
        refine ax_iload_n (i := 1) dX10_setRange_94 rfl rfl ?_
        refine ax_iload_n (i := 2) dX10_setRange_95 rfl rfl ?_
        refine ax_iload_n (i := 3) dX10_setRange_96 rfl rfl ?_
        refine ax_iload (i := 4) dX10_setRange_97 rfl ?_
        refine ax_iload (i := 5) dX10_setRange_99 rfl ?_
        obtain ⟨w22, gw22, h⟩ := Option.bind_eq_some_iff.mp h
        obtain ⟨q23, gq23, h⟩ := Option.bind_eq_some_iff.mp h
        refine ax_cV (As := [av_i a1, av_i a2, av_i a3, av_i x10, av_i x13]) (t := 7) dX10_setRange_101 gw22 (th_X10_voids gq23) rfl (And.intro wd_890 wd_60) wd_887 wd_889 wd_22 cy_X10_voids (by omega) (by decide) (Nat.le_of_ble_eq_true rfl) rfl ?_
        refine ax_iadd dX10_setRange_104 ?_
        exact ax_reti dX10_setRange_105 h
      · rw [if_pos c7] at h
        refine ax_sipush (v := (-1002)) dX10_setRange_32 rfl ?_
        exact ax_reti dX10_setRange_35 h
  · rw [if_pos c3] at h
    refine ax_sipush (v := (-1001)) dX10_setRange_8 rfl ?_
    exact ax_reti dX10_setRange_11 h
set_option maxRecDepth 100000 in
set_option maxHeartbeats 4000000 in
theorem th_X10_setRange {q : Int32 × ax_S} {a0 : Option Nat} {a1 : Int32} {a2 : Int32} {a3 : Int32} {s : ax_S} (h : fn_X10_setRange a0 a1 a2 a3 s = some q) : AC mm_X10_setRange yX10_setRange 3 0 0 [av_r a0, av_i a1, av_i a2, av_i a3] s (some (av_i q.1), q.2) := by
  exact ax_met (L0 := [some (av_r a0), some (av_i a1), some (av_i a2), some (av_i a3), none, none]) (by decide +kernel) rfl (fun h => absurd h (by decide)) ⟨rfl, rfl, rfl, rfl, trivial⟩ (Nat.le_of_ble_eq_true rfl) trivial (tw_X10_setRange h)
/-! X10_setRoom -/
abbrev mm_X10_setRoom : ax_M := (RX10, cX10_setRoom, (some .int), 3, false)
def fn_X10_setRoom (a0 : Option Nat) (a1 : Int32) (s : ax_S) : Option (Int32 × ax_S) :=
  (fn_X10_in a1 (12) (48) s).bind fun q1 =>
  if q1.1 = 0 then
    some ((-1002), q1.2)
  else
    (ax_gi q1.2 7 3 a0).bind fun x3 =>
    (ax_pi q1.2 7 3 a0 a1).bind fun s4 =>
    (ax_sh s4 7 a0).bind fun w5 =>
    (fn_X10_makesRoom a0 a1 s4).bind fun q6 =>
    some (x3, q6)
set_option maxRecDepth 100000 in
set_option maxHeartbeats 4000000 in
theorem tw_X10_setRoom {q : Int32 × ax_S} {a0 : Option Nat} {a1 : Int32} {s : ax_S} (h : fn_X10_setRoom a0 a1 s = some q) : AW mm_X10_setRoom 2 0 0 0 [some (av_r a0), some (av_i a1), none] [] s (some (av_i q.1), q.2) := by
  unfold fn_X10_setRoom at h
  refine ax_iload_n (i := 1) dX10_setRoom_0 rfl rfl ?_
  refine ax_bipush (v := (12)) dX10_setRoom_1 rfl ?_
  refine ax_bipush (v := (48)) dX10_setRoom_3 rfl ?_
  obtain ⟨q1, gq1, h⟩ := Option.bind_eq_some_iff.mp h
  refine ax_cS (As := [av_i a1, av_i (12), av_i (48)]) dX10_setRoom_5 (th_X10_in gq1) (And.intro wd_856 wd_60) wd_854 wd_855 cy_X10_in (by omega) (by decide) (Nat.le_of_ble_eq_true rfl) rfl ?_
  refine ax_if_ne (tgt := 15) dX10_setRoom_8 (by decide) (fun c2 => ?_) (fun c2 => ?_)
  · rw [if_neg c2] at h
    refine ax_aload_n (i := 0) dX10_setRoom_15 rfl rfl ?_
    obtain ⟨x3, gx3, h⟩ := Option.bind_eq_some_iff.mp h
    refine ax_getI (q := (RX10, TX10, 28)) (t := 7) (k := 3) dX10_setRoom_16 rfl (by decide) wd_764 rfl gx3 ?_
    refine ax_istore_n (i := 2) (L2 := [some (av_r a0), some (av_i a1), some (av_i x3)]) dX10_setRoom_19 rfl (by decide) rfl rfl ?_
    refine ax_aload_n (i := 0) dX10_setRoom_20 rfl rfl ?_
    refine ax_iload_n (i := 1) dX10_setRoom_21 rfl rfl ?_
    obtain ⟨s4, gs4, h⟩ := Option.bind_eq_some_iff.mp h
    refine ax_putI (q := (RX10, TX10, 28)) (t := 7) (k := 3) dX10_setRoom_22 rfl (by decide) wd_764 rfl rfl ⟨rfl, rfl⟩ gs4 ?_
    refine ax_aload_n (i := 0) dX10_setRoom_25 rfl rfl ?_
    refine ax_iload_n (i := 1) dX10_setRoom_26 rfl rfl ?_
    obtain ⟨w5, gw5, h⟩ := Option.bind_eq_some_iff.mp h
    obtain ⟨q6, gq6, h⟩ := Option.bind_eq_some_iff.mp h
    refine ax_cV (As := [av_i a1]) (t := 7) dX10_setRoom_27 gw5 (th_X10_makesRoom gq6) rfl (And.intro wd_983 wd_60) wd_980 wd_982 wd_36 cy_X10_makesRoom (by omega) (by decide) (Nat.le_of_ble_eq_true rfl) rfl ?_
    refine ax_iload_n (i := 2) dX10_setRoom_30 rfl rfl ?_
    exact ax_reti dX10_setRoom_31 h
  · rw [if_pos c2] at h
    refine ax_sipush (v := (-1002)) dX10_setRoom_11 rfl ?_
    exact ax_reti dX10_setRoom_14 h
set_option maxRecDepth 100000 in
set_option maxHeartbeats 4000000 in
theorem th_X10_setRoom {q : Int32 × ax_S} {a0 : Option Nat} {a1 : Int32} {s : ax_S} (h : fn_X10_setRoom a0 a1 s = some q) : AC mm_X10_setRoom yX10_setRoom 2 0 0 [av_r a0, av_i a1] s (some (av_i q.1), q.2) := by
  exact ax_met (L0 := [some (av_r a0), some (av_i a1), none]) (by decide +kernel) rfl (fun h => absurd h (by decide)) ⟨rfl, rfl, trivial⟩ (Nat.le_of_ble_eq_true rfl) trivial (tw_X10_setRoom h)
/-! X10_sums -/
abbrev mm_X10_sums : ax_M := (RX10, cX10_sums, (some .int), 11, false)
def fb_X10_sums_127 (k16 : Option Nat → Int32 → Int32 → Int32 → Int32 → Int32 → Int32 → Int32 → ax_S → Option (Int32 × ax_S)) (a0 : Option Nat) (a1 : Int32) (a2 : Int32) (a3 : Int32) (a4 : Int32) (a5 : Int32) (a7 : Int32) (b0 : Int32) (b1 : Int32) (s : ax_S) : Option (Int32 × ax_S) :=
  ax_bd ((b0 + b1)) fun v1 =>
  k16 a0 a1 a2 a3 a4 a5 v1 (a7 + (1)) s
set_option maxRecDepth 100000 in
set_option maxHeartbeats 4000000 in
theorem tb_X10_sums_127 {q : Int32 × ax_S} {k16 : Option Nat → Int32 → Int32 → Int32 → Int32 → Int32 → Int32 → Int32 → ax_S → Option (Int32 × ax_S)} (hk16 : ∀ (a0 : Option Nat) (a1 : Int32) (a2 : Int32) (a3 : Int32) (a4 : Int32) (a5 : Int32) (a6 : Int32) (a7 : Int32) (s : ax_S), k16 a0 a1 a2 a3 a4 a5 a6 a7 s = some q → AW mm_X10_sums 0 0 0 16 [(some (av_r a0)), (some (av_i a1)), (some (av_i a2)), (some (av_i a3)), (some (av_i a4)), (some (av_i a5)), (some (av_i a6)), (some (av_i a7)), none, none, none] [] s (some (av_i q.1), q.2)) {a0 : Option Nat} {a1 : Int32} {a2 : Int32} {a3 : Int32} {a4 : Int32} {a5 : Int32} {a7 : Int32} {b0 : Int32} {b1 : Int32} {s : ax_S} (h : fb_X10_sums_127 k16 a0 a1 a2 a3 a4 a5 a7 b0 b1 s = some q) : AW mm_X10_sums 0 0 0 127 [(some (av_r a0)), (some (av_i a1)), (some (av_i a2)), (some (av_i a3)), (some (av_i a4)), (some (av_i a5)), none, (some (av_i a7)), none, none, none] [av_i b1, av_i b0] s (some (av_i q.1), q.2) := by
  unfold fb_X10_sums_127 at h
  refine ax_iadd dX10_sums_127 ?_
  refine ax_bdI h (fun v1 h => ?_)
  refine ax_istore (i := 6) (L2 := [some (av_r a0), some (av_i a1), some (av_i a2), some (av_i a3), some (av_i a4), some (av_i a5), some (av_i v1), some (av_i a7), none, none, none]) dX10_sums_128 (by decide) rfl rfl ?_
  refine ax_iinc (i := 7) (v := (a7 + (1))) (L2 := [some (av_r a0), some (av_i a1), some (av_i a2), some (av_i a3), some (av_i a4), some (av_i a5), some (av_i v1), some (av_i (a7 + (1))), none, none, none]) dX10_sums_130 rfl rfl (by decide) rfl rfl ?_
  refine ax_goto (tgt := 16) dX10_sums_133 (by decide) ?_
  exact ax_less (L' := [(some (av_r a0)), (some (av_i a1)), (some (av_i a2)), (some (av_i a3)), (some (av_i a4)), (some (av_i a5)), (some (av_i v1)), (some (av_i (a7 + (1)))), none, none, none]) ⟨rfl, rfl, rfl, rfl, rfl, rfl, rfl, rfl, trivial⟩ (hk16 _ _ _ _ _ _ _ _ _ h)
def fb_X10_sums_106 (k16 : Option Nat → Int32 → Int32 → Int32 → Int32 → Int32 → Int32 → Int32 → ax_S → Option (Int32 × ax_S)) (k76 : Option Nat → Int32 → Int32 → Int32 → Int32 → Int32 → Int32 → Int32 → Int32 → Int32 → Int32 → ax_S → Option (Int32 × ax_S)) (a0 : Option Nat) (a1 : Int32) (a2 : Int32) (a3 : Int32) (a4 : Int32) (a5 : Int32) (a6 : Int32) (a7 : Int32) (a8 : Int32) (a10 : Int32) (s : ax_S) : Option (Int32 × ax_S) :=
  k76 a0 a1 a2 a3 a4 a5 a6 a7 a8 (0) (a10 + (1)) s
set_option maxRecDepth 100000 in
set_option maxHeartbeats 4000000 in
theorem tb_X10_sums_106 {q : Int32 × ax_S} {k16 : Option Nat → Int32 → Int32 → Int32 → Int32 → Int32 → Int32 → Int32 → ax_S → Option (Int32 × ax_S)} {k76 : Option Nat → Int32 → Int32 → Int32 → Int32 → Int32 → Int32 → Int32 → Int32 → Int32 → Int32 → ax_S → Option (Int32 × ax_S)} (hk16 : ∀ (a0 : Option Nat) (a1 : Int32) (a2 : Int32) (a3 : Int32) (a4 : Int32) (a5 : Int32) (a6 : Int32) (a7 : Int32) (s : ax_S), k16 a0 a1 a2 a3 a4 a5 a6 a7 s = some q → AW mm_X10_sums 0 0 0 16 [(some (av_r a0)), (some (av_i a1)), (some (av_i a2)), (some (av_i a3)), (some (av_i a4)), (some (av_i a5)), (some (av_i a6)), (some (av_i a7)), none, none, none] [] s (some (av_i q.1), q.2)) (hk76 : ∀ (a0 : Option Nat) (a1 : Int32) (a2 : Int32) (a3 : Int32) (a4 : Int32) (a5 : Int32) (a6 : Int32) (a7 : Int32) (a8 : Int32) (a9 : Int32) (a10 : Int32) (s : ax_S), k76 a0 a1 a2 a3 a4 a5 a6 a7 a8 a9 a10 s = some q → AW mm_X10_sums 0 0 0 76 [(some (av_r a0)), (some (av_i a1)), (some (av_i a2)), (some (av_i a3)), (some (av_i a4)), (some (av_i a5)), (some (av_i a6)), (some (av_i a7)), (some (av_i a8)), (some (av_i a9)), (some (av_i a10))] [] s (some (av_i q.1), q.2)) {a0 : Option Nat} {a1 : Int32} {a2 : Int32} {a3 : Int32} {a4 : Int32} {a5 : Int32} {a6 : Int32} {a7 : Int32} {a8 : Int32} {a10 : Int32} {s : ax_S} (h : fb_X10_sums_106 k16 k76 a0 a1 a2 a3 a4 a5 a6 a7 a8 a10 s = some q) : AW mm_X10_sums 0 0 0 106 [(some (av_r a0)), (some (av_i a1)), (some (av_i a2)), (some (av_i a3)), (some (av_i a4)), (some (av_i a5)), (some (av_i a6)), (some (av_i a7)), (some (av_i a8)), none, (some (av_i a10))] [] s (some (av_i q.1), q.2) := by
  unfold fb_X10_sums_106 at h
  refine ax_iconst (v := (0)) dX10_sums_106 rfl ?_
  refine ax_istore (i := 9) (L2 := [some (av_r a0), some (av_i a1), some (av_i a2), some (av_i a3), some (av_i a4), some (av_i a5), some (av_i a6), some (av_i a7), some (av_i a8), some (av_i (0)), some (av_i a10)]) dX10_sums_107 (by decide) rfl rfl ?_
  refine ax_iinc (i := 10) (v := (a10 + (1))) (L2 := [some (av_r a0), some (av_i a1), some (av_i a2), some (av_i a3), some (av_i a4), some (av_i a5), some (av_i a6), some (av_i a7), some (av_i a8), some (av_i (0)), some (av_i (a10 + (1)))]) dX10_sums_109 rfl rfl (by decide) rfl rfl ?_
  refine ax_goto (tgt := 76) dX10_sums_112 (by decide) ?_
  exact ax_less (L' := [(some (av_r a0)), (some (av_i a1)), (some (av_i a2)), (some (av_i a3)), (some (av_i a4)), (some (av_i a5)), (some (av_i a6)), (some (av_i a7)), (some (av_i a8)), (some (av_i (0))), (some (av_i (a10 + (1))))]) ⟨rfl, rfl, rfl, rfl, rfl, rfl, rfl, rfl, rfl, rfl, rfl, trivial⟩ (hk76 _ _ _ _ _ _ _ _ _ _ _ _ h)
def fb_X10_sums_76 (k16 : Option Nat → Int32 → Int32 → Int32 → Int32 → Int32 → Int32 → Int32 → ax_S → Option (Int32 × ax_S)) : Nat → Option Nat → Int32 → Int32 → Int32 → Int32 → Int32 → Int32 → Int32 → Int32 → Int32 → Int32 → ax_S → Option (Int32 × ax_S)
  | 0, _, _, _, _, _, _, _, _, _, _, _, _ => none
  | n + 1, a0, a1, a2, a3, a4, a5, a6, a7, a8, a9, a10, s =>
    if a7 ≤ a10 then
      if a9 = 0 then
        fb_X10_sums_127 k16 a0 a1 a2 a3 a4 a5 a7 a6 (0) s
      else
        fb_X10_sums_127 k16 a0 a1 a2 a3 a4 a5 a7 a6 (1) s
    else
      if a9 = 0 then
        fb_X10_sums_106 k16 (fb_X10_sums_76 k16 n) a0 a1 a2 a3 a4 a5 a6 a7 a8 a10 s
      else
        (ax_gr s 7 8 a0).bind fun r5 =>
        (ax_al s 9 r5 (a1 + a10)).bind fun x6 =>
        if x6 = a8 then
          fb_X10_sums_106 k16 (fb_X10_sums_76 k16 n) a0 a1 a2 a3 a4 a5 a6 a7 a8 a10 s
        else
          (fb_X10_sums_76 k16 n) a0 a1 a2 a3 a4 a5 a6 a7 a8 (1) (a10 + (1)) s
set_option maxRecDepth 100000 in
set_option maxHeartbeats 4000000 in
theorem tb_X10_sums_76 {q : Int32 × ax_S} {k16 : Option Nat → Int32 → Int32 → Int32 → Int32 → Int32 → Int32 → Int32 → ax_S → Option (Int32 × ax_S)} (hk16 : ∀ (a0 : Option Nat) (a1 : Int32) (a2 : Int32) (a3 : Int32) (a4 : Int32) (a5 : Int32) (a6 : Int32) (a7 : Int32) (s : ax_S), k16 a0 a1 a2 a3 a4 a5 a6 a7 s = some q → AW mm_X10_sums 0 0 0 16 [(some (av_r a0)), (some (av_i a1)), (some (av_i a2)), (some (av_i a3)), (some (av_i a4)), (some (av_i a5)), (some (av_i a6)), (some (av_i a7)), none, none, none] [] s (some (av_i q.1), q.2)) : ∀ (n : Nat) (a0 : Option Nat) (a1 : Int32) (a2 : Int32) (a3 : Int32) (a4 : Int32) (a5 : Int32) (a6 : Int32) (a7 : Int32) (a8 : Int32) (a9 : Int32) (a10 : Int32) (s : ax_S) (h : fb_X10_sums_76 k16 n a0 a1 a2 a3 a4 a5 a6 a7 a8 a9 a10 s = some q), AW mm_X10_sums 0 0 0 76 [(some (av_r a0)), (some (av_i a1)), (some (av_i a2)), (some (av_i a3)), (some (av_i a4)), (some (av_i a5)), (some (av_i a6)), (some (av_i a7)), (some (av_i a8)), (some (av_i a9)), (some (av_i a10))] [] s (some (av_i q.1), q.2) := by
  intro n
  induction n with
  | zero =>
    intro a0 a1 a2 a3 a4 a5 a6 a7 a8 a9 a10 s h
    exact ax_no h
  | succ n ih =>
    intro a0 a1 a2 a3 a4 a5 a6 a7 a8 a9 a10 s h
    unfold fb_X10_sums_76 at h
    refine ax_iload (i := 10) dX10_sums_76 rfl ?_
    refine ax_iload (i := 7) dX10_sums_78 rfl ?_
    refine ax_icmp_ge (tgt := 115) dX10_sums_80 (by decide) (fun c2 => ?_) (fun c2 => ?_)
    · rw [if_pos c2] at h
      refine ax_iload (i := 6) dX10_sums_115 rfl ?_
      refine ax_iload (i := 9) dX10_sums_117 rfl ?_
      refine ax_if_eq (tgt := 126) dX10_sums_119 (by decide) (fun c3 => ?_) (fun c3 => ?_)
      · rw [if_pos c3] at h
        refine ax_iconst (v := (0)) dX10_sums_126 rfl ?_
        exact ax_less (L' := [(some (av_r a0)), (some (av_i a1)), (some (av_i a2)), (some (av_i a3)), (some (av_i a4)), (some (av_i a5)), none, (some (av_i a7)), none, none, none]) ⟨rfl, rfl, rfl, rfl, rfl, rfl, rfl, trivial⟩ (tb_X10_sums_127 hk16 h)
      · rw [if_neg c3] at h
        refine ax_iconst (v := (1)) dX10_sums_122 rfl ?_
        refine ax_goto (tgt := 127) dX10_sums_123 (by decide) ?_
        exact ax_less (L' := [(some (av_r a0)), (some (av_i a1)), (some (av_i a2)), (some (av_i a3)), (some (av_i a4)), (some (av_i a5)), none, (some (av_i a7)), none, none, none]) ⟨rfl, rfl, rfl, rfl, rfl, rfl, rfl, trivial⟩ (tb_X10_sums_127 hk16 h)
    · rw [if_neg c2] at h
      refine ax_iload (i := 9) dX10_sums_83 rfl ?_
      refine ax_if_eq (tgt := 106) dX10_sums_85 (by decide) (fun c4 => ?_) (fun c4 => ?_)
      · rw [if_pos c4] at h
        exact ax_less (L' := [(some (av_r a0)), (some (av_i a1)), (some (av_i a2)), (some (av_i a3)), (some (av_i a4)), (some (av_i a5)), (some (av_i a6)), (some (av_i a7)), (some (av_i a8)), none, (some (av_i a10))]) ⟨rfl, rfl, rfl, rfl, rfl, rfl, rfl, rfl, rfl, rfl, trivial⟩ (tb_X10_sums_106 hk16 ih h)
      · rw [if_neg c4] at h
        refine ax_aload_n (i := 0) dX10_sums_88 rfl rfl ?_
        obtain ⟨r5, gr5, h⟩ := Option.bind_eq_some_iff.mp h
        refine ax_getR (q := (RX10, TX10, 28)) (t := 7) (k := 8) dX10_sums_89 rfl (by decide) wd_769 rfl gr5 ?_
        refine ax_iload_n (i := 1) dX10_sums_92 rfl rfl ?_
        refine ax_iload (i := 10) dX10_sums_93 rfl ?_
        refine ax_iadd dX10_sums_95 ?_
        obtain ⟨x6, gx6, h⟩ := Option.bind_eq_some_iff.mp h
        refine ax_iald dX10_sums_96 gx6 ?_
        refine ax_iload (i := 8) dX10_sums_97 rfl ?_
        refine ax_icmp_eq (tgt := 106) dX10_sums_99 (by decide) (fun c7 => ?_) (fun c7 => ?_)
        · rw [if_pos c7] at h
          exact ax_less (L' := [(some (av_r a0)), (some (av_i a1)), (some (av_i a2)), (some (av_i a3)), (some (av_i a4)), (some (av_i a5)), (some (av_i a6)), (some (av_i a7)), (some (av_i a8)), none, (some (av_i a10))]) ⟨rfl, rfl, rfl, rfl, rfl, rfl, rfl, rfl, rfl, rfl, trivial⟩ (tb_X10_sums_106 hk16 ih h)
        · rw [if_neg c7] at h
          refine ax_iconst (v := (1)) dX10_sums_102 rfl ?_
          refine ax_goto (tgt := 107) dX10_sums_103 (by decide) ?_
          refine ax_istore (i := 9) (L2 := [some (av_r a0), some (av_i a1), some (av_i a2), some (av_i a3), some (av_i a4), some (av_i a5), some (av_i a6), some (av_i a7), some (av_i a8), some (av_i (1)), some (av_i a10)]) dX10_sums_107 (by decide) rfl rfl ?_
          refine ax_iinc (i := 10) (v := (a10 + (1))) (L2 := [some (av_r a0), some (av_i a1), some (av_i a2), some (av_i a3), some (av_i a4), some (av_i a5), some (av_i a6), some (av_i a7), some (av_i a8), some (av_i (1)), some (av_i (a10 + (1)))]) dX10_sums_109 rfl rfl (by decide) rfl rfl ?_
          refine ax_goto (tgt := 76) dX10_sums_112 (by decide) ?_
          exact ax_less (L' := [(some (av_r a0)), (some (av_i a1)), (some (av_i a2)), (some (av_i a3)), (some (av_i a4)), (some (av_i a5)), (some (av_i a6)), (some (av_i a7)), (some (av_i a8)), (some (av_i (1))), (some (av_i (a10 + (1))))]) ⟨rfl, rfl, rfl, rfl, rfl, rfl, rfl, rfl, rfl, rfl, rfl, trivial⟩ (ih _ _ _ _ _ _ _ _ _ _ _ _ h)
def fb_X10_sums_61 (k16 : Option Nat → Int32 → Int32 → Int32 → Int32 → Int32 → Int32 → Int32 → ax_S → Option (Int32 × ax_S)) (a0 : Option Nat) (a1 : Int32) (a2 : Int32) (a3 : Int32) (a5 : Int32) (a6 : Int32) (a7 : Int32) (a8 : Int32) (b0 : Int32) (s : ax_S) : Option (Int32 × ax_S) :=
  ax_bd ((a5 + a8)) fun v8 =>
  fb_X10_sums_76 k16 10000 a0 a1 a2 a3 b0 v8 a6 a7 a8 (1) (0) s
set_option maxRecDepth 100000 in
set_option maxHeartbeats 4000000 in
theorem tb_X10_sums_61 {q : Int32 × ax_S} {k16 : Option Nat → Int32 → Int32 → Int32 → Int32 → Int32 → Int32 → Int32 → ax_S → Option (Int32 × ax_S)} (hk16 : ∀ (a0 : Option Nat) (a1 : Int32) (a2 : Int32) (a3 : Int32) (a4 : Int32) (a5 : Int32) (a6 : Int32) (a7 : Int32) (s : ax_S), k16 a0 a1 a2 a3 a4 a5 a6 a7 s = some q → AW mm_X10_sums 0 0 0 16 [(some (av_r a0)), (some (av_i a1)), (some (av_i a2)), (some (av_i a3)), (some (av_i a4)), (some (av_i a5)), (some (av_i a6)), (some (av_i a7)), none, none, none] [] s (some (av_i q.1), q.2)) {a0 : Option Nat} {a1 : Int32} {a2 : Int32} {a3 : Int32} {a5 : Int32} {a6 : Int32} {a7 : Int32} {a8 : Int32} {b0 : Int32} {s : ax_S} (h : fb_X10_sums_61 k16 a0 a1 a2 a3 a5 a6 a7 a8 b0 s = some q) : AW mm_X10_sums 0 0 0 61 [(some (av_r a0)), (some (av_i a1)), (some (av_i a2)), (some (av_i a3)), none, (some (av_i a5)), (some (av_i a6)), (some (av_i a7)), (some (av_i a8)), none, none] [av_i b0] s (some (av_i q.1), q.2) := by
  unfold fb_X10_sums_61 at h
  refine ax_istore (i := 4) (L2 := [some (av_r a0), some (av_i a1), some (av_i a2), some (av_i a3), some (av_i b0), some (av_i a5), some (av_i a6), some (av_i a7), some (av_i a8), none, none]) dX10_sums_61 (by decide) rfl rfl ?_
  refine ax_iload (i := 5) dX10_sums_63 rfl ?_
  refine ax_iload (i := 8) dX10_sums_65 rfl ?_
  refine ax_iadd dX10_sums_67 ?_
  refine ax_bdI h (fun v8 h => ?_)
  refine ax_istore (i := 5) (L2 := [some (av_r a0), some (av_i a1), some (av_i a2), some (av_i a3), some (av_i b0), some (av_i v8), some (av_i a6), some (av_i a7), some (av_i a8), none, none]) dX10_sums_68 (by decide) rfl rfl ?_
  refine ax_iconst (v := (1)) dX10_sums_70 rfl ?_
  refine ax_istore (i := 9) (L2 := [some (av_r a0), some (av_i a1), some (av_i a2), some (av_i a3), some (av_i b0), some (av_i v8), some (av_i a6), some (av_i a7), some (av_i a8), some (av_i (1)), none]) dX10_sums_71 (by decide) rfl rfl ?_
  refine ax_iconst (v := (0)) dX10_sums_73 rfl ?_
  refine ax_istore (i := 10) (L2 := [some (av_r a0), some (av_i a1), some (av_i a2), some (av_i a3), some (av_i b0), some (av_i v8), some (av_i a6), some (av_i a7), some (av_i a8), some (av_i (1)), some (av_i (0))]) dX10_sums_74 (by decide) rfl rfl ?_
  exact ax_less (L' := [(some (av_r a0)), (some (av_i a1)), (some (av_i a2)), (some (av_i a3)), (some (av_i b0)), (some (av_i v8)), (some (av_i a6)), (some (av_i a7)), (some (av_i a8)), (some (av_i (1))), (some (av_i (0)))]) ⟨rfl, rfl, rfl, rfl, rfl, rfl, rfl, rfl, rfl, rfl, rfl, trivial⟩ (tb_X10_sums_76 hk16 _ _ _ _ _ _ _ _ _ _ _ _ _ h)
def fb_X10_sums_46 (k16 : Option Nat → Int32 → Int32 → Int32 → Int32 → Int32 → Int32 → Int32 → ax_S → Option (Int32 × ax_S)) (a0 : Option Nat) (a1 : Int32) (a2 : Int32) (a4 : Int32) (a5 : Int32) (a6 : Int32) (a7 : Int32) (a8 : Int32) (b0 : Int32) (s : ax_S) : Option (Int32 × ax_S) :=
  if a8 ≤ a4 then
    fb_X10_sums_61 k16 a0 a1 a2 b0 a5 a6 a7 a8 a4 s
  else
    fb_X10_sums_61 k16 a0 a1 a2 b0 a5 a6 a7 a8 a8 s
set_option maxRecDepth 100000 in
set_option maxHeartbeats 4000000 in
theorem tb_X10_sums_46 {q : Int32 × ax_S} {k16 : Option Nat → Int32 → Int32 → Int32 → Int32 → Int32 → Int32 → Int32 → ax_S → Option (Int32 × ax_S)} (hk16 : ∀ (a0 : Option Nat) (a1 : Int32) (a2 : Int32) (a3 : Int32) (a4 : Int32) (a5 : Int32) (a6 : Int32) (a7 : Int32) (s : ax_S), k16 a0 a1 a2 a3 a4 a5 a6 a7 s = some q → AW mm_X10_sums 0 0 0 16 [(some (av_r a0)), (some (av_i a1)), (some (av_i a2)), (some (av_i a3)), (some (av_i a4)), (some (av_i a5)), (some (av_i a6)), (some (av_i a7)), none, none, none] [] s (some (av_i q.1), q.2)) {a0 : Option Nat} {a1 : Int32} {a2 : Int32} {a4 : Int32} {a5 : Int32} {a6 : Int32} {a7 : Int32} {a8 : Int32} {b0 : Int32} {s : ax_S} (h : fb_X10_sums_46 k16 a0 a1 a2 a4 a5 a6 a7 a8 b0 s = some q) : AW mm_X10_sums 0 0 0 46 [(some (av_r a0)), (some (av_i a1)), (some (av_i a2)), none, (some (av_i a4)), (some (av_i a5)), (some (av_i a6)), (some (av_i a7)), (some (av_i a8)), none, none] [av_i b0] s (some (av_i q.1), q.2) := by
  unfold fb_X10_sums_46 at h
  refine ax_istore_n (i := 3) (L2 := [some (av_r a0), some (av_i a1), some (av_i a2), some (av_i b0), some (av_i a4), some (av_i a5), some (av_i a6), some (av_i a7), some (av_i a8), none, none]) dX10_sums_46 rfl (by decide) rfl rfl ?_
  refine ax_iload (i := 8) dX10_sums_47 rfl ?_
  refine ax_iload (i := 4) dX10_sums_49 rfl ?_
  refine ax_icmp_le (tgt := 59) dX10_sums_51 (by decide) (fun c9 => ?_) (fun c9 => ?_)
  · rw [if_pos c9] at h
    refine ax_iload (i := 4) dX10_sums_59 rfl ?_
    exact ax_less (L' := [(some (av_r a0)), (some (av_i a1)), (some (av_i a2)), (some (av_i b0)), none, (some (av_i a5)), (some (av_i a6)), (some (av_i a7)), (some (av_i a8)), none, none]) ⟨rfl, rfl, rfl, rfl, rfl, rfl, rfl, rfl, trivial⟩ (tb_X10_sums_61 hk16 h)
  · rw [if_neg c9] at h
    refine ax_iload (i := 8) dX10_sums_54 rfl ?_
    refine ax_goto (tgt := 61) dX10_sums_56 (by decide) ?_
    exact ax_less (L' := [(some (av_r a0)), (some (av_i a1)), (some (av_i a2)), (some (av_i b0)), none, (some (av_i a5)), (some (av_i a6)), (some (av_i a7)), (some (av_i a8)), none, none]) ⟨rfl, rfl, rfl, rfl, rfl, rfl, rfl, rfl, trivial⟩ (tb_X10_sums_61 hk16 h)
def fb_X10_sums_16 : Nat → Option Nat → Int32 → Int32 → Int32 → Int32 → Int32 → Int32 → Int32 → ax_S → Option (Int32 × ax_S)
  | 0, _, _, _, _, _, _, _, _, _ => none
  | n + 1, a0, a1, a2, a3, a4, a5, a6, a7, s =>
    if (32) ≤ a7 then
      if a2 = 0 then
        some (a3, s)
      else
        if a2 = (1) then
          some (a4, s)
        else
          if a2 = (2) then
            some (a5, s)
          else
            some (a6, s)
    else
      (ax_gr s 7 8 a0).bind fun r14 =>
      (ax_al s 9 r14 (a1 + a7)).bind fun x15 =>
      if a3 ≤ x15 then
        fb_X10_sums_46 (fb_X10_sums_16 n) a0 a1 a2 a4 a5 a6 a7 x15 a3 s
      else
        fb_X10_sums_46 (fb_X10_sums_16 n) a0 a1 a2 a4 a5 a6 a7 x15 x15 s
set_option maxRecDepth 100000 in
set_option maxHeartbeats 4000000 in
theorem tb_X10_sums_16 {q : Int32 × ax_S} : ∀ (n : Nat) (a0 : Option Nat) (a1 : Int32) (a2 : Int32) (a3 : Int32) (a4 : Int32) (a5 : Int32) (a6 : Int32) (a7 : Int32) (s : ax_S) (h : fb_X10_sums_16 n a0 a1 a2 a3 a4 a5 a6 a7 s = some q), AW mm_X10_sums 0 0 0 16 [(some (av_r a0)), (some (av_i a1)), (some (av_i a2)), (some (av_i a3)), (some (av_i a4)), (some (av_i a5)), (some (av_i a6)), (some (av_i a7)), none, none, none] [] s (some (av_i q.1), q.2) := by
  intro n
  induction n with
  | zero =>
    intro a0 a1 a2 a3 a4 a5 a6 a7 s h
    exact ax_no h
  | succ n ih =>
    intro a0 a1 a2 a3 a4 a5 a6 a7 s h
    unfold fb_X10_sums_16 at h
    refine ax_iload (i := 7) dX10_sums_16 rfl ?_
    refine ax_bipush (v := (32)) dX10_sums_18 rfl ?_
    refine ax_icmp_ge (tgt := 136) dX10_sums_20 (by decide) (fun c10 => ?_) (fun c10 => ?_)
    · rw [if_pos c10] at h
      refine ax_iload_n (i := 2) dX10_sums_136 rfl rfl ?_
      refine ax_if_ne (tgt := 144) dX10_sums_137 (by decide) (fun c11 => ?_) (fun c11 => ?_)
      · rw [if_neg c11] at h
        refine ax_iload_n (i := 2) dX10_sums_144 rfl rfl ?_
        refine ax_iconst (v := (1)) dX10_sums_145 rfl ?_
        refine ax_icmp_ne (tgt := 154) dX10_sums_146 (by decide) (fun c12 => ?_) (fun c12 => ?_)
        · rw [if_neg c12] at h
          refine ax_iload_n (i := 2) dX10_sums_154 rfl rfl ?_
          refine ax_iconst (v := (2)) dX10_sums_155 rfl ?_
          refine ax_icmp_ne (tgt := 164) dX10_sums_156 (by decide) (fun c13 => ?_) (fun c13 => ?_)
          · rw [if_neg c13] at h
            refine ax_iload (i := 6) dX10_sums_164 rfl ?_
            exact ax_reti dX10_sums_166 h
          · rw [if_pos c13] at h
            refine ax_iload (i := 5) dX10_sums_159 rfl ?_
            refine ax_goto (tgt := 166) dX10_sums_161 (by decide) ?_
            exact ax_reti dX10_sums_166 h
        · rw [if_pos c12] at h
          refine ax_iload (i := 4) dX10_sums_149 rfl ?_
          refine ax_goto (tgt := 166) dX10_sums_151 (by decide) ?_
          exact ax_reti dX10_sums_166 h
      · rw [if_pos c11] at h
        refine ax_iload_n (i := 3) dX10_sums_140 rfl rfl ?_
        refine ax_goto (tgt := 166) dX10_sums_141 (by decide) ?_
        exact ax_reti dX10_sums_166 h
    · rw [if_neg c10] at h
      refine ax_aload_n (i := 0) dX10_sums_23 rfl rfl ?_
      obtain ⟨r14, gr14, h⟩ := Option.bind_eq_some_iff.mp h
      refine ax_getR (q := (RX10, TX10, 28)) (t := 7) (k := 8) dX10_sums_24 rfl (by decide) wd_769 rfl gr14 ?_
      refine ax_iload_n (i := 1) dX10_sums_27 rfl rfl ?_
      refine ax_iload (i := 7) dX10_sums_28 rfl ?_
      refine ax_iadd dX10_sums_30 ?_
      obtain ⟨x15, gx15, h⟩ := Option.bind_eq_some_iff.mp h
      refine ax_iald dX10_sums_31 gx15 ?_
      refine ax_istore (i := 8) (L2 := [some (av_r a0), some (av_i a1), some (av_i a2), some (av_i a3), some (av_i a4), some (av_i a5), some (av_i a6), some (av_i a7), some (av_i x15), none, none]) dX10_sums_32 (by decide) rfl rfl ?_
      refine ax_iload (i := 8) dX10_sums_34 rfl ?_
      refine ax_iload_n (i := 3) dX10_sums_36 rfl rfl ?_
      refine ax_icmp_ge (tgt := 45) dX10_sums_37 (by decide) (fun c16 => ?_) (fun c16 => ?_)
      · rw [if_pos c16] at h
        refine ax_iload_n (i := 3) dX10_sums_45 rfl rfl ?_
        exact ax_less (L' := [(some (av_r a0)), (some (av_i a1)), (some (av_i a2)), none, (some (av_i a4)), (some (av_i a5)), (some (av_i a6)), (some (av_i a7)), (some (av_i x15)), none, none]) ⟨rfl, rfl, rfl, rfl, rfl, rfl, rfl, rfl, trivial⟩ (tb_X10_sums_46 ih h)
      · rw [if_neg c16] at h
        refine ax_iload (i := 8) dX10_sums_40 rfl ?_
        refine ax_goto (tgt := 46) dX10_sums_42 (by decide) ?_
        exact ax_less (L' := [(some (av_r a0)), (some (av_i a1)), (some (av_i a2)), none, (some (av_i a4)), (some (av_i a5)), (some (av_i a6)), (some (av_i a7)), (some (av_i x15)), none, none]) ⟨rfl, rfl, rfl, rfl, rfl, rfl, rfl, rfl, trivial⟩ (tb_X10_sums_46 ih h)
def fn_X10_sums (a0 : Option Nat) (a1 : Int32) (a2 : Int32) (s : ax_S) : Option (Int32 × ax_S) :=
  fb_X10_sums_16 10000 a0 a1 a2 (255) (0) (0) (0) (0) s
set_option maxRecDepth 100000 in
set_option maxHeartbeats 4000000 in
theorem tw_X10_sums {q : Int32 × ax_S} {a0 : Option Nat} {a1 : Int32} {a2 : Int32} {s : ax_S} (h : fn_X10_sums a0 a1 a2 s = some q) : AW mm_X10_sums 0 0 0 0 [some (av_r a0), some (av_i a1), some (av_i a2), none, none, none, none, none, none, none, none] [] s (some (av_i q.1), q.2) := by
  unfold fn_X10_sums at h
  refine ax_sipush (v := (255)) dX10_sums_0 rfl ?_
  refine ax_istore_n (i := 3) (L2 := [some (av_r a0), some (av_i a1), some (av_i a2), some (av_i (255)), none, none, none, none, none, none, none]) dX10_sums_3 rfl (by decide) rfl rfl ?_
  refine ax_iconst (v := (0)) dX10_sums_4 rfl ?_
  refine ax_istore (i := 4) (L2 := [some (av_r a0), some (av_i a1), some (av_i a2), some (av_i (255)), some (av_i (0)), none, none, none, none, none, none]) dX10_sums_5 (by decide) rfl rfl ?_
  refine ax_iconst (v := (0)) dX10_sums_7 rfl ?_
  refine ax_istore (i := 5) (L2 := [some (av_r a0), some (av_i a1), some (av_i a2), some (av_i (255)), some (av_i (0)), some (av_i (0)), none, none, none, none, none]) dX10_sums_8 (by decide) rfl rfl ?_
  refine ax_iconst (v := (0)) dX10_sums_10 rfl ?_
  refine ax_istore (i := 6) (L2 := [some (av_r a0), some (av_i a1), some (av_i a2), some (av_i (255)), some (av_i (0)), some (av_i (0)), some (av_i (0)), none, none, none, none]) dX10_sums_11 (by decide) rfl rfl ?_
  refine ax_iconst (v := (0)) dX10_sums_13 rfl ?_
  refine ax_istore (i := 7) (L2 := [some (av_r a0), some (av_i a1), some (av_i a2), some (av_i (255)), some (av_i (0)), some (av_i (0)), some (av_i (0)), some (av_i (0)), none, none, none]) dX10_sums_14 (by decide) rfl rfl ?_
  exact ax_less (L' := [(some (av_r a0)), (some (av_i a1)), (some (av_i a2)), (some (av_i (255))), (some (av_i (0))), (some (av_i (0))), (some (av_i (0))), (some (av_i (0))), none, none, none]) ⟨rfl, rfl, rfl, rfl, rfl, rfl, rfl, rfl, trivial⟩ (tb_X10_sums_16  _ _ _ _ _ _ _ _ _ _ h)
set_option maxRecDepth 100000 in
set_option maxHeartbeats 4000000 in
theorem th_X10_sums {q : Int32 × ax_S} {a0 : Option Nat} {a1 : Int32} {a2 : Int32} {s : ax_S} (h : fn_X10_sums a0 a1 a2 s = some q) : AC mm_X10_sums yX10_sums 0 0 0 [av_r a0, av_i a1, av_i a2] s (some (av_i q.1), q.2) := by
  exact ax_met (L0 := [some (av_r a0), some (av_i a1), some (av_i a2), none, none, none, none, none, none, none, none]) (by decide +kernel) rfl (fun h => absurd h (by decide)) ⟨rfl, rfl, rfl, trivial⟩ (Nat.le_of_ble_eq_true rfl) trivial (tw_X10_sums h)
/-! X10_sum -/
abbrev mm_X10_sum : ax_M := (RX10, cX10_sum, (some .int), 5, false)
def fn_X10_sum (a0 : Option Nat) (a1 : Int32) (a2 : Int32) (a3 : Int32) (a4 : Int32) (s : ax_S) : Option (Int32 × ax_S) :=
  (ax_sh s 7 a0).bind fun w1 =>
  (fn_X10_isPicture a0 a1 a2 s).bind fun q2 =>
  if q2.1 = 0 then
    some ((-1001), q2.2)
  else
    (fn_X10_in a3 (0) (2) q2.2).bind fun q4 =>
    if q4.1 = 0 then
      some ((-1001), q4.2)
    else
      (fn_X10_in a4 (0) (3) q4.2).bind fun q6 =>
      if q6.1 = 0 then
        some ((-1002), q6.2)
      else
        (ax_sh q6.2 7 a0).bind fun w8 =>
        (fn_X10_picture a0 a1 a2 q6.2).bind fun q9 =>
        (ax_sh q9.2 7 a0).bind fun w10 =>
        (fn_X10_sums a0 (((96) * q9.1) + ((32) * a3)) a4 q9.2).bind fun q11 =>
        some (q11.1, q11.2)
set_option maxRecDepth 100000 in
set_option maxHeartbeats 4000000 in
theorem tw_X10_sum {q : Int32 × ax_S} {a0 : Option Nat} {a1 : Int32} {a2 : Int32} {a3 : Int32} {a4 : Int32} {s : ax_S} (h : fn_X10_sum a0 a1 a2 a3 a4 s = some q) : AW mm_X10_sum 6 0 0 0 [some (av_r a0), some (av_i a1), some (av_i a2), some (av_i a3), some (av_i a4)] [] s (some (av_i q.1), q.2) := by
  unfold fn_X10_sum at h
  refine ax_aload_n (i := 0) dX10_sum_0 rfl rfl ?_
  refine ax_iload_n (i := 1) dX10_sum_1 rfl rfl ?_
  refine ax_iload_n (i := 2) dX10_sum_2 rfl rfl ?_
  obtain ⟨w1, gw1, h⟩ := Option.bind_eq_some_iff.mp h
  obtain ⟨q2, gq2, h⟩ := Option.bind_eq_some_iff.mp h
  refine ax_cV (As := [av_i a1, av_i a2]) (t := 7) dX10_sum_3 gw1 (th_X10_isPicture gq2) rfl (And.intro wd_955 wd_60) wd_952 wd_954 wd_29 cy_X10_isPicture (by omega) (by decide) (Nat.le_of_ble_eq_true rfl) rfl ?_
  refine ax_if_eq (tgt := 18) dX10_sum_6 (by decide) (fun c3 => ?_) (fun c3 => ?_)
  · rw [if_pos c3] at h
    refine ax_sipush (v := (-1001)) dX10_sum_18 rfl ?_
    exact ax_reti dX10_sum_21 h
  · rw [if_neg c3] at h
    refine ax_iload_n (i := 3) dX10_sum_9 rfl rfl ?_
    refine ax_iconst (v := (0)) dX10_sum_10 rfl ?_
    refine ax_iconst (v := (2)) dX10_sum_11 rfl ?_
    obtain ⟨q4, gq4, h⟩ := Option.bind_eq_some_iff.mp h
    refine ax_cS (As := [av_i a3, av_i (0), av_i (2)]) dX10_sum_12 (th_X10_in gq4) (And.intro wd_856 wd_60) wd_854 wd_855 cy_X10_in (by omega) (by decide) (Nat.le_of_ble_eq_true rfl) rfl ?_
    refine ax_if_ne (tgt := 22) dX10_sum_15 (by decide) (fun c5 => ?_) (fun c5 => ?_)
    · rw [if_neg c5] at h
      refine ax_iload (i := 4) dX10_sum_22 rfl ?_
      refine ax_iconst (v := (0)) dX10_sum_24 rfl ?_
      refine ax_iconst (v := (3)) dX10_sum_25 rfl ?_
      obtain ⟨q6, gq6, h⟩ := Option.bind_eq_some_iff.mp h
      refine ax_cS (As := [av_i a4, av_i (0), av_i (3)]) dX10_sum_26 (th_X10_in gq6) (And.intro wd_856 wd_60) wd_854 wd_855 cy_X10_in (by omega) (by decide) (Nat.le_of_ble_eq_true rfl) rfl ?_
      refine ax_if_eq (tgt := 55) dX10_sum_29 (by decide) (fun c7 => ?_) (fun c7 => ?_)
      · rw [if_pos c7] at h
        refine ax_sipush (v := (-1002)) dX10_sum_55 rfl ?_
        exact ax_reti dX10_sum_58 h
      · rw [if_neg c7] at h
        refine ax_aload_n (i := 0) dX10_sum_32 rfl rfl ?_
        refine ax_bipush (v := (96)) dX10_sum_33 rfl ?_
        refine ax_aload_n (i := 0) dX10_sum_35 rfl rfl ?_
        refine ax_iload_n (i := 1) dX10_sum_36 rfl rfl ?_
        refine ax_iload_n (i := 2) dX10_sum_37 rfl rfl ?_
        obtain ⟨w8, gw8, h⟩ := Option.bind_eq_some_iff.mp h
        obtain ⟨q9, gq9, h⟩ := Option.bind_eq_some_iff.mp h
        refine ax_cV (As := [av_i a1, av_i a2]) (t := 7) dX10_sum_38 gw8 (th_X10_picture gq9) rfl (And.intro wd_959 wd_60) wd_956 wd_958 wd_30 cy_X10_picture (by omega) (by decide) (Nat.le_of_ble_eq_true rfl) rfl ?_
        refine ax_imul dX10_sum_41 ?_
        refine ax_bipush (v := (32)) dX10_sum_42 rfl ?_
        refine ax_iload_n (i := 3) dX10_sum_44 rfl rfl ?_
        refine ax_imul dX10_sum_45 ?_
        refine ax_iadd dX10_sum_46 ?_
        refine ax_iload (i := 4) dX10_sum_47 rfl ?_
        obtain ⟨w10, gw10, h⟩ := Option.bind_eq_some_iff.mp h
        obtain ⟨q11, gq11, h⟩ := Option.bind_eq_some_iff.mp h
        refine ax_cV (As := [av_i (((96) * q9.1) + ((32) * a3)), av_i a4]) (t := 7) dX10_sum_49 gw10 (th_X10_sums gq11) rfl (And.intro wd_1017 wd_60) wd_1014 wd_1016 wd_41 cy_X10_sums (by omega) (by decide) (Nat.le_of_ble_eq_true rfl) rfl ?_
        refine ax_goto (tgt := 58) dX10_sum_52 (by decide) ?_
        exact ax_reti dX10_sum_58 h
    · rw [if_pos c5] at h
      refine ax_sipush (v := (-1001)) dX10_sum_18 rfl ?_
      exact ax_reti dX10_sum_21 h
set_option maxRecDepth 100000 in
set_option maxHeartbeats 4000000 in
theorem th_X10_sum {q : Int32 × ax_S} {a0 : Option Nat} {a1 : Int32} {a2 : Int32} {a3 : Int32} {a4 : Int32} {s : ax_S} (h : fn_X10_sum a0 a1 a2 a3 a4 s = some q) : AC mm_X10_sum yX10_sum 6 0 0 [av_r a0, av_i a1, av_i a2, av_i a3, av_i a4] s (some (av_i q.1), q.2) := by
  exact ax_met (L0 := [some (av_r a0), some (av_i a1), some (av_i a2), some (av_i a3), some (av_i a4)]) (by decide +kernel) rfl (fun h => absurd h (by decide)) ⟨rfl, rfl, rfl, rfl, rfl, trivial⟩ (Nat.le_of_ble_eq_true rfl) trivial (tw_X10_sum h)
/-! X10_value -/
abbrev mm_X10_value : ax_M := (RX10, cX10_value, (some .int), 6, false)
def fn_X10_value (a0 : Option Nat) (a1 : Int32) (a2 : Int32) (a3 : Int32) (a4 : Int32) (a5 : Int32) (s : ax_S) : Option (Int32 × ax_S) :=
  (ax_sh s 7 a0).bind fun w1 =>
  (fn_X10_isPicture a0 a1 a2 s).bind fun q2 =>
  if q2.1 = 0 then
    some ((-1001), q2.2)
  else
    (fn_X10_in a3 (0) (7) q2.2).bind fun q4 =>
    if q4.1 = 0 then
      some ((-1001), q4.2)
    else
      (fn_X10_in a4 (0) (3) q4.2).bind fun q6 =>
      if q6.1 = 0 then
        some ((-1001), q6.2)
      else
        (fn_X10_in a5 (0) (2) q6.2).bind fun q8 =>
        if q8.1 = 0 then
          some ((-1001), q8.2)
        else
          (ax_gr q8.2 7 8 a0).bind fun r10 =>
          (ax_sh q8.2 7 a0).bind fun w11 =>
          (fn_X10_picture a0 a1 a2 q8.2).bind fun q12 =>
          (ax_al q12.2 9 r10 (((((96) * q12.1) + ((32) * a5)) + ((8) * a4)) + a3)).bind fun x13 =>
          some (x13, q12.2)
set_option maxRecDepth 100000 in
set_option maxHeartbeats 4000000 in
theorem tw_X10_value {q : Int32 × ax_S} {a0 : Option Nat} {a1 : Int32} {a2 : Int32} {a3 : Int32} {a4 : Int32} {a5 : Int32} {s : ax_S} (h : fn_X10_value a0 a1 a2 a3 a4 a5 s = some q) : AW mm_X10_value 6 0 0 0 [some (av_r a0), some (av_i a1), some (av_i a2), some (av_i a3), some (av_i a4), some (av_i a5)] [] s (some (av_i q.1), q.2) := by
  unfold fn_X10_value at h
  refine ax_aload_n (i := 0) dX10_value_0 rfl rfl ?_
  refine ax_iload_n (i := 1) dX10_value_1 rfl rfl ?_
  refine ax_iload_n (i := 2) dX10_value_2 rfl rfl ?_
  obtain ⟨w1, gw1, h⟩ := Option.bind_eq_some_iff.mp h
  obtain ⟨q2, gq2, h⟩ := Option.bind_eq_some_iff.mp h
  refine ax_cV (As := [av_i a1, av_i a2]) (t := 7) dX10_value_3 gw1 (th_X10_isPicture gq2) rfl (And.intro wd_955 wd_60) wd_952 wd_954 wd_29 cy_X10_isPicture (by omega) (by decide) (Nat.le_of_ble_eq_true rfl) rfl ?_
  refine ax_if_eq (tgt := 39) dX10_value_6 (by decide) (fun c3 => ?_) (fun c3 => ?_)
  · rw [if_pos c3] at h
    refine ax_sipush (v := (-1001)) dX10_value_39 rfl ?_
    exact ax_reti dX10_value_42 h
  · rw [if_neg c3] at h
    refine ax_iload_n (i := 3) dX10_value_9 rfl rfl ?_
    refine ax_iconst (v := (0)) dX10_value_10 rfl ?_
    refine ax_bipush (v := (7)) dX10_value_11 rfl ?_
    obtain ⟨q4, gq4, h⟩ := Option.bind_eq_some_iff.mp h
    refine ax_cS (As := [av_i a3, av_i (0), av_i (7)]) dX10_value_13 (th_X10_in gq4) (And.intro wd_856 wd_60) wd_854 wd_855 cy_X10_in (by omega) (by decide) (Nat.le_of_ble_eq_true rfl) rfl ?_
    refine ax_if_eq (tgt := 39) dX10_value_16 (by decide) (fun c5 => ?_) (fun c5 => ?_)
    · rw [if_pos c5] at h
      refine ax_sipush (v := (-1001)) dX10_value_39 rfl ?_
      exact ax_reti dX10_value_42 h
    · rw [if_neg c5] at h
      refine ax_iload (i := 4) dX10_value_19 rfl ?_
      refine ax_iconst (v := (0)) dX10_value_21 rfl ?_
      refine ax_iconst (v := (3)) dX10_value_22 rfl ?_
      obtain ⟨q6, gq6, h⟩ := Option.bind_eq_some_iff.mp h
      refine ax_cS (As := [av_i a4, av_i (0), av_i (3)]) dX10_value_23 (th_X10_in gq6) (And.intro wd_856 wd_60) wd_854 wd_855 cy_X10_in (by omega) (by decide) (Nat.le_of_ble_eq_true rfl) rfl ?_
      refine ax_if_eq (tgt := 39) dX10_value_26 (by decide) (fun c7 => ?_) (fun c7 => ?_)
      · rw [if_pos c7] at h
        refine ax_sipush (v := (-1001)) dX10_value_39 rfl ?_
        exact ax_reti dX10_value_42 h
      · rw [if_neg c7] at h
        refine ax_iload (i := 5) dX10_value_29 rfl ?_
        refine ax_iconst (v := (0)) dX10_value_31 rfl ?_
        refine ax_iconst (v := (2)) dX10_value_32 rfl ?_
        obtain ⟨q8, gq8, h⟩ := Option.bind_eq_some_iff.mp h
        refine ax_cS (As := [av_i a5, av_i (0), av_i (2)]) dX10_value_33 (th_X10_in gq8) (And.intro wd_856 wd_60) wd_854 wd_855 cy_X10_in (by omega) (by decide) (Nat.le_of_ble_eq_true rfl) rfl ?_
        refine ax_if_ne (tgt := 43) dX10_value_36 (by decide) (fun c9 => ?_) (fun c9 => ?_)
        · rw [if_neg c9] at h
          refine ax_aload_n (i := 0) dX10_value_43 rfl rfl ?_
          obtain ⟨r10, gr10, h⟩ := Option.bind_eq_some_iff.mp h
          refine ax_getR (q := (RX10, TX10, 28)) (t := 7) (k := 8) dX10_value_44 rfl (by decide) wd_769 rfl gr10 ?_
          refine ax_bipush (v := (96)) dX10_value_47 rfl ?_
          refine ax_aload_n (i := 0) dX10_value_49 rfl rfl ?_
          refine ax_iload_n (i := 1) dX10_value_50 rfl rfl ?_
          refine ax_iload_n (i := 2) dX10_value_51 rfl rfl ?_
          obtain ⟨w11, gw11, h⟩ := Option.bind_eq_some_iff.mp h
          obtain ⟨q12, gq12, h⟩ := Option.bind_eq_some_iff.mp h
          refine ax_cV (As := [av_i a1, av_i a2]) (t := 7) dX10_value_52 gw11 (th_X10_picture gq12) rfl (And.intro wd_959 wd_60) wd_956 wd_958 wd_30 cy_X10_picture (by omega) (by decide) (Nat.le_of_ble_eq_true rfl) rfl ?_
          refine ax_imul dX10_value_55 ?_
          refine ax_bipush (v := (32)) dX10_value_56 rfl ?_
          refine ax_iload (i := 5) dX10_value_58 rfl ?_
          refine ax_imul dX10_value_60 ?_
          refine ax_iadd dX10_value_61 ?_
          refine ax_bipush (v := (8)) dX10_value_62 rfl ?_
          refine ax_iload (i := 4) dX10_value_64 rfl ?_
          refine ax_imul dX10_value_66 ?_
          refine ax_iadd dX10_value_67 ?_
          refine ax_iload_n (i := 3) dX10_value_68 rfl rfl ?_
          refine ax_iadd dX10_value_69 ?_
          obtain ⟨x13, gx13, h⟩ := Option.bind_eq_some_iff.mp h
          refine ax_iald dX10_value_70 gx13 ?_
          exact ax_reti dX10_value_71 h
        · rw [if_pos c9] at h
          refine ax_sipush (v := (-1001)) dX10_value_39 rfl ?_
          exact ax_reti dX10_value_42 h
set_option maxRecDepth 100000 in
set_option maxHeartbeats 4000000 in
theorem th_X10_value {q : Int32 × ax_S} {a0 : Option Nat} {a1 : Int32} {a2 : Int32} {a3 : Int32} {a4 : Int32} {a5 : Int32} {s : ax_S} (h : fn_X10_value a0 a1 a2 a3 a4 a5 s = some q) : AC mm_X10_value yX10_value 6 0 0 [av_r a0, av_i a1, av_i a2, av_i a3, av_i a4, av_i a5] s (some (av_i q.1), q.2) := by
  exact ax_met (L0 := [some (av_r a0), some (av_i a1), some (av_i a2), some (av_i a3), some (av_i a4), some (av_i a5)]) (by decide +kernel) rfl (fun h => absurd h (by decide)) ⟨rfl, rfl, rfl, rfl, rfl, rfl, trivial⟩ (Nat.le_of_ble_eq_true rfl) trivial (tw_X10_value h)
