/-! X10_here -/
abbrev mm_X10_here : ax_M := (RX10, cX10_here, (some .int), 1, false)
def fn_X10_here (a0 : Option Nat) (s : ax_S) : Option (Int32 × ax_S) :=
  (ax_gi s 7 19 a0).bind fun x1 =>
  (ax_gi s 7 12 a0).bind fun x2 =>
  if x2 ≤ x1 then
    some ((-1), s)
  else
    (ax_gr s 7 11 a0).bind fun r4 =>
    (ax_gi s 7 19 a0).bind fun x5 =>
    (ax_al s 9 r4 x5).bind fun x6 =>
    some (x6, s)
set_option maxRecDepth 100000 in
set_option maxHeartbeats 4000000 in
theorem tw_X10_here {q : Int32 × ax_S} {a0 : Option Nat} {s : ax_S} (h : fn_X10_here a0 s = some q) : AW mm_X10_here 0 0 0 0 [some (av_r a0)] [] s (some (av_i q.1), q.2) := by
  unfold fn_X10_here at h
  refine ax_aload_n (i := 0) dX10_here_0 rfl rfl ?_
  obtain ⟨x1, gx1, h⟩ := Option.bind_eq_some_iff.mp h
  refine ax_getI (q := (RX10, TX10, 28)) (t := 7) (k := 19) dX10_here_1 rfl (by decide) wd_775 rfl gx1 ?_
  refine ax_aload_n (i := 0) dX10_here_4 rfl rfl ?_
  obtain ⟨x2, gx2, h⟩ := Option.bind_eq_some_iff.mp h
  refine ax_getI (q := (RX10, TX10, 28)) (t := 7) (k := 12) dX10_here_5 rfl (by decide) wd_768 rfl gx2 ?_
  refine ax_icmp_ge (tgt := 23) dX10_here_8 (by decide) (fun c3 => ?_) (fun c3 => ?_)
  · rw [if_pos c3] at h
    refine ax_iconst (v := (-1)) dX10_here_23 rfl ?_
    exact ax_reti dX10_here_24 h
  · rw [if_neg c3] at h
    refine ax_aload_n (i := 0) dX10_here_11 rfl rfl ?_
    obtain ⟨r4, gr4, h⟩ := Option.bind_eq_some_iff.mp h
    refine ax_getR (q := (RX10, TX10, 28)) (t := 7) (k := 11) dX10_here_12 rfl (by decide) wd_767 rfl gr4 ?_
    refine ax_aload_n (i := 0) dX10_here_15 rfl rfl ?_
    obtain ⟨x5, gx5, h⟩ := Option.bind_eq_some_iff.mp h
    refine ax_getI (q := (RX10, TX10, 28)) (t := 7) (k := 19) dX10_here_16 rfl (by decide) wd_775 rfl gx5 ?_
    obtain ⟨x6, gx6, h⟩ := Option.bind_eq_some_iff.mp h
    refine ax_iald dX10_here_19 gx6 ?_
    refine ax_goto (tgt := 24) dX10_here_20 (by decide) ?_
    exact ax_reti dX10_here_24 h
set_option maxRecDepth 100000 in
set_option maxHeartbeats 4000000 in
theorem th_X10_here {q : Int32 × ax_S} {a0 : Option Nat} {s : ax_S} (h : fn_X10_here a0 s = some q) : AC mm_X10_here yX10_here 0 0 0 [av_r a0] s (some (av_i q.1), q.2) := by
  exact ax_met (L0 := [some (av_r a0)]) (by decide +kernel) rfl (fun h => absurd h (by decide)) ⟨rfl, trivial⟩ (Nat.le_of_ble_eq_true rfl) trivial (tw_X10_here h)
/-! X10_takes -/
abbrev mm_X10_takes : ax_M := (RX10, cX10_takes, (some .boolean), 3, false)
def fb_X10_takes_13 (a0 : Option Nat) (b0 : Int32) (s : ax_S) : Option (Int32 × ax_S) :=
  (ax_gi s 7 19 a0).bind fun x1 =>
  if b0 = 0 then
    (ax_pi s 7 19 a0 (x1 + (0))).bind fun s3 =>
    some (b0, s3)
  else
    (ax_pi s 7 19 a0 (x1 + (1))).bind fun s4 =>
    some (b0, s4)
set_option maxRecDepth 100000 in
set_option maxHeartbeats 4000000 in
theorem tb_X10_takes_13 {q : Int32 × ax_S} {a0 : Option Nat} {b0 : Int32} {s : ax_S} (h : fb_X10_takes_13 a0 b0 s = some q) : AW mm_X10_takes 1 0 0 13 [(some (av_r a0)), none, none] [av_i b0] s (some (av_i q.1), q.2) := by
  unfold fb_X10_takes_13 at h
  refine ax_istore_n (i := 2) (L2 := [some (av_r a0), none, some (av_i b0)]) dX10_takes_13 rfl (by decide) rfl rfl ?_
  refine ax_aload_n (i := 0) dX10_takes_14 rfl rfl ?_
  refine ax_dup dX10_takes_15 trivial ?_
  obtain ⟨x1, gx1, h⟩ := Option.bind_eq_some_iff.mp h
  refine ax_getI (q := (RX10, TX10, 28)) (t := 7) (k := 19) dX10_takes_16 rfl (by decide) wd_775 rfl gx1 ?_
  refine ax_iload_n (i := 2) dX10_takes_19 rfl rfl ?_
  refine ax_if_eq (tgt := 27) dX10_takes_20 (by decide) (fun c2 => ?_) (fun c2 => ?_)
  · rw [if_pos c2] at h
    refine ax_iconst (v := (0)) dX10_takes_27 rfl ?_
    refine ax_iadd dX10_takes_28 ?_
    obtain ⟨s3, gs3, h⟩ := Option.bind_eq_some_iff.mp h
    refine ax_putI (q := (RX10, TX10, 28)) (t := 7) (k := 19) dX10_takes_29 rfl (by decide) wd_775 rfl rfl ⟨rfl, rfl⟩ gs3 ?_
    refine ax_iload_n (i := 2) dX10_takes_32 rfl rfl ?_
    exact ax_reti dX10_takes_33 h
  · rw [if_neg c2] at h
    refine ax_iconst (v := (1)) dX10_takes_23 rfl ?_
    refine ax_goto (tgt := 28) dX10_takes_24 (by decide) ?_
    refine ax_iadd dX10_takes_28 ?_
    obtain ⟨s4, gs4, h⟩ := Option.bind_eq_some_iff.mp h
    refine ax_putI (q := (RX10, TX10, 28)) (t := 7) (k := 19) dX10_takes_29 rfl (by decide) wd_775 rfl rfl ⟨rfl, rfl⟩ gs4 ?_
    refine ax_iload_n (i := 2) dX10_takes_32 rfl rfl ?_
    exact ax_reti dX10_takes_33 h
def fi_X10_takes (a0 : Option Nat) (a1 : Int32) (s : ax_S) : Option (Int32 × ax_S) :=
  (ax_sh s 7 a0).bind fun w5 =>
  (fn_X10_here a0 s).bind fun q6 =>
  if q6.1 = a1 then
    fb_X10_takes_13 a0 (1) q6.2
  else
    fb_X10_takes_13 a0 (0) q6.2
set_option maxRecDepth 100000 in
set_option maxHeartbeats 4000000 in
theorem tw_X10_takes {q : Int32 × ax_S} {a0 : Option Nat} {a1 : Int32} {s : ax_S} (h : fi_X10_takes a0 a1 s = some q) : AW mm_X10_takes 1 0 0 0 [some (av_r a0), some (av_i a1), none] [] s (some (av_i q.1), q.2) := by
  unfold fi_X10_takes at h
  refine ax_aload_n (i := 0) dX10_takes_0 rfl rfl ?_
  obtain ⟨w5, gw5, h⟩ := Option.bind_eq_some_iff.mp h
  obtain ⟨q6, gq6, h⟩ := Option.bind_eq_some_iff.mp h
  refine ax_cV (As := []) (t := 7) dX10_takes_1 gw5 (th_X10_here gq6) rfl (And.intro wd_1060 wd_59) wd_1057 wd_1059 wd_45 cy_X10_here (by omega) (by decide) (Nat.le_of_ble_eq_true rfl) rfl ?_
  refine ax_iload_n (i := 1) dX10_takes_4 rfl rfl ?_
  refine ax_icmp_ne (tgt := 12) dX10_takes_5 (by decide) (fun c7 => ?_) (fun c7 => ?_)
  · rw [if_neg c7] at h
    refine ax_iconst (v := (0)) dX10_takes_12 rfl ?_
    exact ax_less (L' := [(some (av_r a0)), none, none]) ⟨rfl, trivial⟩ (tb_X10_takes_13  h)
  · rw [if_pos c7] at h
    refine ax_iconst (v := (1)) dX10_takes_8 rfl ?_
    refine ax_goto (tgt := 13) dX10_takes_9 (by decide) ?_
    exact ax_less (L' := [(some (av_r a0)), none, none]) ⟨rfl, trivial⟩ (tb_X10_takes_13  h)
def fn_X10_takes (a0 : Option Nat) (a1 : Int32) (s : ax_S) : Option (Int32 × ax_S) := ax_bz (fi_X10_takes a0 a1 s)
set_option maxRecDepth 100000 in
set_option maxHeartbeats 4000000 in
theorem th_X10_takes {q : Int32 × ax_S} {a0 : Option Nat} {a1 : Int32} {s : ax_S} (h : fn_X10_takes a0 a1 s = some q) : AC mm_X10_takes yX10_takes 1 0 0 [av_r a0, av_i a1] s (some (av_i q.1), q.2) := by
  obtain ⟨h, hz⟩ := ax_bz_of h
  exact ax_met (L0 := [some (av_r a0), some (av_i a1), none]) (by decide +kernel) rfl (fun h => absurd h (by decide)) ⟨rfl, rfl, trivial⟩ (Nat.le_of_ble_eq_true rfl) hz (tw_X10_takes h)
/-! X10_kindHere -/
abbrev mm_X10_kindHere : ax_M := (RX10, cX10_kindHere, (some .int), 1, false)
def fn_X10_kindHere (a0 : Option Nat) (s : ax_S) : Option (Int32 × ax_S) :=
  (ax_sh s 7 a0).bind fun w1 =>
  (fn_X10_here a0 s).bind fun q2 =>
  if q2.1 = 98 then
    some ((6), q2.2)
  else
  if q2.1 = 103 then
    some ((1), q2.2)
  else
  if q2.1 = 105 then
    some ((3), q2.2)
  else
  if q2.1 = 107 then
    some ((5), q2.2)
  else
  if q2.1 = 108 then
    some ((4), q2.2)
  else
  if q2.1 = 110 then
    some ((7), q2.2)
  else
  if q2.1 = 115 then
    some ((0), q2.2)
  else
  if q2.1 = 116 then
    some ((2), q2.2)
  else
  some ((-1), q2.2)
set_option maxRecDepth 100000 in
set_option maxHeartbeats 4000000 in
theorem tw_X10_kindHere {q : Int32 × ax_S} {a0 : Option Nat} {s : ax_S} (h : fn_X10_kindHere a0 s = some q) : AW mm_X10_kindHere 1 0 0 0 [some (av_r a0)] [] s (some (av_i q.1), q.2) := by
  unfold fn_X10_kindHere at h
  refine ax_aload_n (i := 0) dX10_kindHere_0 rfl rfl ?_
  obtain ⟨w1, gw1, h⟩ := Option.bind_eq_some_iff.mp h
  obtain ⟨q2, gq2, h⟩ := Option.bind_eq_some_iff.mp h
  refine ax_cV (As := []) (t := 7) dX10_kindHere_1 gw1 (th_X10_here gq2) rfl (And.intro wd_1060 wd_59) wd_1057 wd_1059 wd_45 cy_X10_here (by omega) (by decide) (Nat.le_of_ble_eq_true rfl) rfl ?_
  by_cases c3 : q2.1 = 98
  · rw [if_pos c3] at h
    refine ax_swC (c := 98) (off := 104) (tgt := 108) dX10_kindHere_4 c3 (by decide) (by decide) (by decide) rfl (by decide) ?_
    refine ax_bipush (v := (6)) dX10_kindHere_108 rfl ?_
    exact ax_reti dX10_kindHere_110 h
  rw [if_neg c3] at h
  by_cases c4 : q2.1 = 103
  · rw [if_pos c4] at h
    refine ax_swC (c := 103) (off := 94) (tgt := 98) dX10_kindHere_4 c4 (by decide) (by decide) (by decide) rfl (by decide) ?_
    refine ax_iconst (v := (1)) dX10_kindHere_98 rfl ?_
    exact ax_reti dX10_kindHere_99 h
  rw [if_neg c4] at h
  by_cases c5 : q2.1 = 105
  · rw [if_pos c5] at h
    refine ax_swC (c := 105) (off := 98) (tgt := 102) dX10_kindHere_4 c5 (by decide) (by decide) (by decide) rfl (by decide) ?_
    refine ax_iconst (v := (3)) dX10_kindHere_102 rfl ?_
    exact ax_reti dX10_kindHere_103 h
  rw [if_neg c5] at h
  by_cases c6 : q2.1 = 107
  · rw [if_pos c6] at h
    refine ax_swC (c := 107) (off := 102) (tgt := 106) dX10_kindHere_4 c6 (by decide) (by decide) (by decide) rfl (by decide) ?_
    refine ax_iconst (v := (5)) dX10_kindHere_106 rfl ?_
    exact ax_reti dX10_kindHere_107 h
  rw [if_neg c6] at h
  by_cases c7 : q2.1 = 108
  · rw [if_pos c7] at h
    refine ax_swC (c := 108) (off := 100) (tgt := 104) dX10_kindHere_4 c7 (by decide) (by decide) (by decide) rfl (by decide) ?_
    refine ax_iconst (v := (4)) dX10_kindHere_104 rfl ?_
    exact ax_reti dX10_kindHere_105 h
  rw [if_neg c7] at h
  by_cases c8 : q2.1 = 110
  · rw [if_pos c8] at h
    refine ax_swC (c := 110) (off := 107) (tgt := 111) dX10_kindHere_4 c8 (by decide) (by decide) (by decide) rfl (by decide) ?_
    refine ax_bipush (v := (7)) dX10_kindHere_111 rfl ?_
    exact ax_reti dX10_kindHere_113 h
  rw [if_neg c8] at h
  by_cases c9 : q2.1 = 115
  · rw [if_pos c9] at h
    refine ax_swC (c := 115) (off := 92) (tgt := 96) dX10_kindHere_4 c9 (by decide) (by decide) (by decide) rfl (by decide) ?_
    refine ax_iconst (v := (0)) dX10_kindHere_96 rfl ?_
    exact ax_reti dX10_kindHere_97 h
  rw [if_neg c9] at h
  by_cases c10 : q2.1 = 116
  · rw [if_pos c10] at h
    refine ax_swC (c := 116) (off := 96) (tgt := 100) dX10_kindHere_4 c10 (by decide) (by decide) (by decide) rfl (by decide) ?_
    refine ax_iconst (v := (2)) dX10_kindHere_100 rfl ?_
    exact ax_reti dX10_kindHere_101 h
  rw [if_neg c10] at h
  refine ax_swD (tgt := 114) dX10_kindHere_4 (fun c hc1 hc2 => ?_) (by decide) ?_
  · have hcc : c = 98 ∨ c = 99 ∨ c = 100 ∨ c = 101 ∨ c = 102 ∨ c = 103 ∨ c = 104 ∨ c = 105 ∨ c = 106 ∨ c = 107 ∨ c = 108 ∨ c = 109 ∨ c = 110 ∨ c = 111 ∨ c = 112 ∨ c = 113 ∨ c = 114 ∨ c = 115 ∨ c = 116 := by omega
    rcases hcc with rfl | rfl | rfl | rfl | rfl | rfl | rfl | rfl | rfl | rfl | rfl | rfl | rfl | rfl | rfl | rfl | rfl | rfl | rfl
    · exact Or.inr (fun e => c3 (e.trans (by decide)))
    · exact Or.inl rfl
    · exact Or.inl rfl
    · exact Or.inl rfl
    · exact Or.inl rfl
    · exact Or.inr (fun e => c4 (e.trans (by decide)))
    · exact Or.inl rfl
    · exact Or.inr (fun e => c5 (e.trans (by decide)))
    · exact Or.inl rfl
    · exact Or.inr (fun e => c6 (e.trans (by decide)))
    · exact Or.inr (fun e => c7 (e.trans (by decide)))
    · exact Or.inl rfl
    · exact Or.inr (fun e => c8 (e.trans (by decide)))
    · exact Or.inl rfl
    · exact Or.inl rfl
    · exact Or.inl rfl
    · exact Or.inl rfl
    · exact Or.inr (fun e => c9 (e.trans (by decide)))
    · exact Or.inr (fun e => c10 (e.trans (by decide)))
  refine ax_iconst (v := (-1)) dX10_kindHere_114 rfl ?_
  exact ax_reti dX10_kindHere_115 h
set_option maxRecDepth 100000 in
set_option maxHeartbeats 4000000 in
theorem th_X10_kindHere {q : Int32 × ax_S} {a0 : Option Nat} {s : ax_S} (h : fn_X10_kindHere a0 s = some q) : AC mm_X10_kindHere yX10_kindHere 1 0 0 [av_r a0] s (some (av_i q.1), q.2) := by
  exact ax_met (L0 := [some (av_r a0)]) (by decide +kernel) rfl (fun h => absurd h (by decide)) ⟨rfl, trivial⟩ (Nat.le_of_ble_eq_true rfl) trivial (tw_X10_kindHere h)
/-! X10_begins -/
abbrev mm_X10_begins : ax_M := (RX10, cX10_begins, (some .boolean), 2, false)
def fi_X10_begins (a0 : Option Nat) (s : ax_S) : Option (Int32 × ax_S) :=
  (ax_sh s 7 a0).bind fun w1 =>
  (fn_X10_kindHere a0 s).bind fun q2 =>
  if q2.1 < 0 then
    some ((0), q2.2)
  else
    (ax_gi q2.2 7 20 a0).bind fun x4 =>
    if x4 = (6) then
      some ((0), q2.2)
    else
      (ax_gi q2.2 7 19 a0).bind fun x6 =>
      (ax_pi q2.2 7 19 a0 (x6 + (1))).bind fun s7 =>
      (ax_sh s7 7 a0).bind fun w8 =>
      (fn_X10_takes a0 (40) s7).bind fun q9 =>
      if q9.1 = 0 then
        some ((0), q9.2)
      else
        (ax_gr q9.2 7 22 a0).bind fun r11 =>
        (ax_gi q9.2 7 20 a0).bind fun x12 =>
        (ax_as q9.2 9 r11 x12 q2.1).bind fun s13 =>
        (ax_gr s13 7 23 a0).bind fun r14 =>
        (ax_gi s13 7 20 a0).bind fun x15 =>
        (ax_as s13 9 r14 x15 (0)).bind fun s16 =>
        (ax_gi s16 7 20 a0).bind fun x17 =>
        (ax_pi s16 7 20 a0 (x17 + (1))).bind fun s18 =>
        some ((1), s18)
set_option maxRecDepth 100000 in
set_option maxHeartbeats 4000000 in
theorem tw_X10_begins {q : Int32 × ax_S} {a0 : Option Nat} {s : ax_S} (h : fi_X10_begins a0 s = some q) : AW mm_X10_begins 2 0 0 0 [some (av_r a0), none] [] s (some (av_i q.1), q.2) := by
  unfold fi_X10_begins at h
  refine ax_aload_n (i := 0) dX10_begins_0 rfl rfl ?_
  obtain ⟨w1, gw1, h⟩ := Option.bind_eq_some_iff.mp h
  obtain ⟨q2, gq2, h⟩ := Option.bind_eq_some_iff.mp h
  refine ax_cV (As := []) (t := 7) dX10_begins_1 gw1 (th_X10_kindHere gq2) rfl (And.intro wd_1056 wd_59) wd_1053 wd_1055 wd_44 cy_X10_kindHere (by omega) (by decide) (Nat.le_of_ble_eq_true rfl) rfl ?_
  refine ax_istore_n (i := 1) (L2 := [some (av_r a0), some (av_i q2.1)]) dX10_begins_4 rfl (by decide) rfl rfl ?_
  refine ax_iload_n (i := 1) dX10_begins_5 rfl rfl ?_
  refine ax_if_lt (tgt := 18) dX10_begins_6 (by decide) (fun c3 => ?_) (fun c3 => ?_)
  · rw [if_pos c3] at h
    refine ax_iconst (v := (0)) dX10_begins_18 rfl ?_
    exact ax_reti dX10_begins_19 h
  · rw [if_neg c3] at h
    refine ax_aload_n (i := 0) dX10_begins_9 rfl rfl ?_
    obtain ⟨x4, gx4, h⟩ := Option.bind_eq_some_iff.mp h
    refine ax_getI (q := (RX10, TX10, 28)) (t := 7) (k := 20) dX10_begins_10 rfl (by decide) wd_776 rfl gx4 ?_
    refine ax_bipush (v := (6)) dX10_begins_13 rfl ?_
    refine ax_icmp_ne (tgt := 20) dX10_begins_15 (by decide) (fun c5 => ?_) (fun c5 => ?_)
    · rw [if_neg c5] at h
      refine ax_aload_n (i := 0) dX10_begins_20 rfl rfl ?_
      refine ax_dup dX10_begins_21 trivial ?_
      obtain ⟨x6, gx6, h⟩ := Option.bind_eq_some_iff.mp h
      refine ax_getI (q := (RX10, TX10, 28)) (t := 7) (k := 19) dX10_begins_22 rfl (by decide) wd_775 rfl gx6 ?_
      refine ax_iconst (v := (1)) dX10_begins_25 rfl ?_
      refine ax_iadd dX10_begins_26 ?_
      obtain ⟨s7, gs7, h⟩ := Option.bind_eq_some_iff.mp h
      refine ax_putI (q := (RX10, TX10, 28)) (t := 7) (k := 19) dX10_begins_27 rfl (by decide) wd_775 rfl rfl ⟨rfl, rfl⟩ gs7 ?_
      refine ax_aload_n (i := 0) dX10_begins_30 rfl rfl ?_
      refine ax_bipush (v := (40)) dX10_begins_31 rfl ?_
      obtain ⟨w8, gw8, h⟩ := Option.bind_eq_some_iff.mp h
      obtain ⟨q9, gq9, h⟩ := Option.bind_eq_some_iff.mp h
      refine ax_cV (As := [av_i (40)]) (t := 7) dX10_begins_33 gw8 (th_X10_takes gq9) rfl (And.intro wd_1064 wd_59) wd_1061 wd_1063 wd_46 cy_X10_takes (by omega) (by decide) (Nat.le_of_ble_eq_true rfl) rfl ?_
      refine ax_if_ne (tgt := 41) dX10_begins_36 (by decide) (fun c10 => ?_) (fun c10 => ?_)
      · rw [if_neg c10] at h
        refine ax_aload_n (i := 0) dX10_begins_41 rfl rfl ?_
        obtain ⟨r11, gr11, h⟩ := Option.bind_eq_some_iff.mp h
        refine ax_getR (q := (RX10, TX10, 28)) (t := 7) (k := 22) dX10_begins_42 rfl (by decide) wd_778 rfl gr11 ?_
        refine ax_aload_n (i := 0) dX10_begins_45 rfl rfl ?_
        obtain ⟨x12, gx12, h⟩ := Option.bind_eq_some_iff.mp h
        refine ax_getI (q := (RX10, TX10, 28)) (t := 7) (k := 20) dX10_begins_46 rfl (by decide) wd_776 rfl gx12 ?_
        refine ax_iload_n (i := 1) dX10_begins_49 rfl rfl ?_
        obtain ⟨s13, gs13, h⟩ := Option.bind_eq_some_iff.mp h
        refine ax_iast dX10_begins_50 gs13 ?_
        refine ax_aload_n (i := 0) dX10_begins_51 rfl rfl ?_
        obtain ⟨r14, gr14, h⟩ := Option.bind_eq_some_iff.mp h
        refine ax_getR (q := (RX10, TX10, 28)) (t := 7) (k := 23) dX10_begins_52 rfl (by decide) wd_779 rfl gr14 ?_
        refine ax_aload_n (i := 0) dX10_begins_55 rfl rfl ?_
        obtain ⟨x15, gx15, h⟩ := Option.bind_eq_some_iff.mp h
        refine ax_getI (q := (RX10, TX10, 28)) (t := 7) (k := 20) dX10_begins_56 rfl (by decide) wd_776 rfl gx15 ?_
        refine ax_iconst (v := (0)) dX10_begins_59 rfl ?_
        obtain ⟨s16, gs16, h⟩ := Option.bind_eq_some_iff.mp h
        refine ax_iast dX10_begins_60 gs16 ?_
        refine ax_aload_n (i := 0) dX10_begins_61 rfl rfl ?_
        refine ax_dup dX10_begins_62 trivial ?_
        obtain ⟨x17, gx17, h⟩ := Option.bind_eq_some_iff.mp h
        refine ax_getI (q := (RX10, TX10, 28)) (t := 7) (k := 20) dX10_begins_63 rfl (by decide) wd_776 rfl gx17 ?_
        refine ax_iconst (v := (1)) dX10_begins_66 rfl ?_
        refine ax_iadd dX10_begins_67 ?_
        obtain ⟨s18, gs18, h⟩ := Option.bind_eq_some_iff.mp h
        refine ax_putI (q := (RX10, TX10, 28)) (t := 7) (k := 20) dX10_begins_68 rfl (by decide) wd_776 rfl rfl ⟨rfl, rfl⟩ gs18 ?_
        refine ax_iconst (v := (1)) dX10_begins_71 rfl ?_
        exact ax_reti dX10_begins_72 h
      · rw [if_pos c10] at h
        refine ax_iconst (v := (0)) dX10_begins_39 rfl ?_
        exact ax_reti dX10_begins_40 h
    · rw [if_pos c5] at h
      refine ax_iconst (v := (0)) dX10_begins_18 rfl ?_
      exact ax_reti dX10_begins_19 h
def fn_X10_begins (a0 : Option Nat) (s : ax_S) : Option (Int32 × ax_S) := ax_bz (fi_X10_begins a0 s)
set_option maxRecDepth 100000 in
set_option maxHeartbeats 4000000 in
theorem th_X10_begins {q : Int32 × ax_S} {a0 : Option Nat} {s : ax_S} (h : fn_X10_begins a0 s = some q) : AC mm_X10_begins yX10_begins 2 0 0 [av_r a0] s (some (av_i q.1), q.2) := by
  obtain ⟨h, hz⟩ := ax_bz_of h
  exact ax_met (L0 := [some (av_r a0), none]) (by decide +kernel) rfl (fun h => absurd h (by decide)) ⟨rfl, trivial⟩ (Nat.le_of_ble_eq_true rfl) hz (tw_X10_begins h)
/-! X10_first -/
abbrev mm_X10_first : ax_M := (RX10, cX10_first, (some .int), 2, false)
def fn_X10_first (a0 : Int32) (a1 : Int32) (s : ax_S) : Option (Int32 × ax_S) :=
  if a0 = (1) then
    some ((16), s)
  else
    if a0 = (4) then
      some ((1), s)
    else
      if a0 = (5) then
        if a1 = (2) then
          some ((255), s)
        else
          some ((0), s)
      else
        some ((0), s)
set_option maxRecDepth 100000 in
set_option maxHeartbeats 4000000 in
theorem tw_X10_first {q : Int32 × ax_S} {a0 : Int32} {a1 : Int32} {s : ax_S} (h : fn_X10_first a0 a1 s = some q) : AW mm_X10_first 0 0 0 0 [some (av_i a0), some (av_i a1)] [] s (some (av_i q.1), q.2) := by
  unfold fn_X10_first at h
  refine ax_iload_n (i := 0) dX10_first_0 rfl rfl ?_
  refine ax_iconst (v := (1)) dX10_first_1 rfl ?_
  refine ax_icmp_ne (tgt := 10) dX10_first_2 (by decide) (fun c1 => ?_) (fun c1 => ?_)
  · rw [if_neg c1] at h
    refine ax_iload_n (i := 0) dX10_first_10 rfl rfl ?_
    refine ax_iconst (v := (4)) dX10_first_11 rfl ?_
    refine ax_icmp_ne (tgt := 19) dX10_first_12 (by decide) (fun c2 => ?_) (fun c2 => ?_)
    · rw [if_neg c2] at h
      refine ax_iload_n (i := 0) dX10_first_19 rfl rfl ?_
      refine ax_iconst (v := (5)) dX10_first_20 rfl ?_
      refine ax_icmp_ne (tgt := 35) dX10_first_21 (by decide) (fun c3 => ?_) (fun c3 => ?_)
      · rw [if_neg c3] at h
        refine ax_iconst (v := (0)) dX10_first_35 rfl ?_
        exact ax_reti dX10_first_36 h
      · rw [if_pos c3] at h
        refine ax_iload_n (i := 1) dX10_first_24 rfl rfl ?_
        refine ax_iconst (v := (2)) dX10_first_25 rfl ?_
        refine ax_icmp_ne (tgt := 35) dX10_first_26 (by decide) (fun c4 => ?_) (fun c4 => ?_)
        · rw [if_neg c4] at h
          refine ax_iconst (v := (0)) dX10_first_35 rfl ?_
          exact ax_reti dX10_first_36 h
        · rw [if_pos c4] at h
          refine ax_sipush (v := (255)) dX10_first_29 rfl ?_
          refine ax_goto (tgt := 36) dX10_first_32 (by decide) ?_
          exact ax_reti dX10_first_36 h
    · rw [if_pos c2] at h
      refine ax_iconst (v := (1)) dX10_first_15 rfl ?_
      refine ax_goto (tgt := 36) dX10_first_16 (by decide) ?_
      exact ax_reti dX10_first_36 h
  · rw [if_pos c1] at h
    refine ax_bipush (v := (16)) dX10_first_5 rfl ?_
    refine ax_goto (tgt := 36) dX10_first_7 (by decide) ?_
    exact ax_reti dX10_first_36 h
set_option maxRecDepth 100000 in
set_option maxHeartbeats 4000000 in
theorem th_X10_first {q : Int32 × ax_S} {a0 : Int32} {a1 : Int32} {s : ax_S} (h : fn_X10_first a0 a1 s = some q) : AC mm_X10_first yX10_first 0 0 0 [av_i a0, av_i a1] s (some (av_i q.1), q.2) := by
  exact ax_met (L0 := [some (av_i a0), some (av_i a1)]) (by decide +kernel) rfl (fun h => absurd h (by decide)) ⟨rfl, rfl, trivial⟩ (Nat.le_of_ble_eq_true rfl) trivial (tw_X10_first h)
/-! X10_tells -/
abbrev mm_X10_tells : ax_M := (RX10, cX10_tells, none, 5, false)
def fb_X10_tells_79 : Nat → Option Nat → Int32 → Int32 → Int32 → ax_S → Option (ax_S)
  | 0, _, _, _, _, _ => none
  | n + 1, a0, a2, a3, a4, s =>
    if a3 ≤ a4 then
      (ax_gi s 7 27 a0).bind fun x2 =>
      (ax_pi s 7 27 a0 (x2 - a3)).bind fun s3 =>
      (ax_gr s3 7 26 a0).bind fun r4 =>
      (ax_gi s3 7 27 a0).bind fun x5 =>
      (ax_gi s3 7 25 a0).bind fun x6 =>
      (ax_as s3 9 r4 x5 ((100) + x6)).bind fun s7 =>
      (ax_gi s7 7 27 a0).bind fun x8 =>
      (ax_pi s7 7 27 a0 (x8 + (1))).bind fun s9 =>
      (ax_gi s9 7 25 a0).bind fun x10 =>
      (ax_pi s9 7 25 a0 (x10 + (1))).bind fun s11 =>
      some s11
    else
      (ax_gr s 7 24 a0).bind fun r12 =>
      (ax_gr s 7 26 a0).bind fun r13 =>
      (ax_gi s 7 27 a0).bind fun x14 =>
      (ax_al s 9 r13 ((x14 - a3) + a4)).bind fun x15 =>
      (ax_as s 9 r12 ((a2 + (1)) + a4) x15).bind fun s16 =>
      (fb_X10_tells_79 n) a0 a2 a3 (a4 + (1)) s16
set_option maxRecDepth 100000 in
set_option maxHeartbeats 4000000 in
theorem tb_X10_tells_79 {q : ax_S} : ∀ (n : Nat) (a0 : Option Nat) (a2 : Int32) (a3 : Int32) (a4 : Int32) (s : ax_S) (h : fb_X10_tells_79 n a0 a2 a3 a4 s = some q), AW mm_X10_tells 1 0 0 79 [(some (av_r a0)), none, (some (av_i a2)), (some (av_i a3)), (some (av_i a4))] [] s (none, q) := by
  intro n
  induction n with
  | zero =>
    intro a0 a2 a3 a4 s h
    exact ax_no h
  | succ n ih =>
    intro a0 a2 a3 a4 s h
    unfold fb_X10_tells_79 at h
    refine ax_iload (i := 4) dX10_tells_79 rfl ?_
    refine ax_iload_n (i := 3) dX10_tells_81 rfl rfl ?_
    refine ax_icmp_ge (tgt := 116) dX10_tells_82 (by decide) (fun c1 => ?_) (fun c1 => ?_)
    · rw [if_pos c1] at h
      refine ax_aload_n (i := 0) dX10_tells_116 rfl rfl ?_
      refine ax_dup dX10_tells_117 trivial ?_
      obtain ⟨x2, gx2, h⟩ := Option.bind_eq_some_iff.mp h
      refine ax_getI (q := (RX10, TX10, 28)) (t := 7) (k := 27) dX10_tells_118 rfl (by decide) wd_783 rfl gx2 ?_
      refine ax_iload_n (i := 3) dX10_tells_121 rfl rfl ?_
      refine ax_isub dX10_tells_122 ?_
      obtain ⟨s3, gs3, h⟩ := Option.bind_eq_some_iff.mp h
      refine ax_putI (q := (RX10, TX10, 28)) (t := 7) (k := 27) dX10_tells_123 rfl (by decide) wd_783 rfl rfl ⟨rfl, rfl⟩ gs3 ?_
      refine ax_aload_n (i := 0) dX10_tells_126 rfl rfl ?_
      obtain ⟨r4, gr4, h⟩ := Option.bind_eq_some_iff.mp h
      refine ax_getR (q := (RX10, TX10, 28)) (t := 7) (k := 26) dX10_tells_127 rfl (by decide) wd_782 rfl gr4 ?_
      refine ax_aload_n (i := 0) dX10_tells_130 rfl rfl ?_
      obtain ⟨x5, gx5, h⟩ := Option.bind_eq_some_iff.mp h
      refine ax_getI (q := (RX10, TX10, 28)) (t := 7) (k := 27) dX10_tells_131 rfl (by decide) wd_783 rfl gx5 ?_
      refine ax_bipush (v := (100)) dX10_tells_134 rfl ?_
      refine ax_aload_n (i := 0) dX10_tells_136 rfl rfl ?_
      obtain ⟨x6, gx6, h⟩ := Option.bind_eq_some_iff.mp h
      refine ax_getI (q := (RX10, TX10, 28)) (t := 7) (k := 25) dX10_tells_137 rfl (by decide) wd_781 rfl gx6 ?_
      refine ax_iadd dX10_tells_140 ?_
      obtain ⟨s7, gs7, h⟩ := Option.bind_eq_some_iff.mp h
      refine ax_iast dX10_tells_141 gs7 ?_
      refine ax_aload_n (i := 0) dX10_tells_142 rfl rfl ?_
      refine ax_dup dX10_tells_143 trivial ?_
      obtain ⟨x8, gx8, h⟩ := Option.bind_eq_some_iff.mp h
      refine ax_getI (q := (RX10, TX10, 28)) (t := 7) (k := 27) dX10_tells_144 rfl (by decide) wd_783 rfl gx8 ?_
      refine ax_iconst (v := (1)) dX10_tells_147 rfl ?_
      refine ax_iadd dX10_tells_148 ?_
      obtain ⟨s9, gs9, h⟩ := Option.bind_eq_some_iff.mp h
      refine ax_putI (q := (RX10, TX10, 28)) (t := 7) (k := 27) dX10_tells_149 rfl (by decide) wd_783 rfl rfl ⟨rfl, rfl⟩ gs9 ?_
      refine ax_aload_n (i := 0) dX10_tells_152 rfl rfl ?_
      refine ax_dup dX10_tells_153 trivial ?_
      obtain ⟨x10, gx10, h⟩ := Option.bind_eq_some_iff.mp h
      refine ax_getI (q := (RX10, TX10, 28)) (t := 7) (k := 25) dX10_tells_154 rfl (by decide) wd_781 rfl gx10 ?_
      refine ax_iconst (v := (1)) dX10_tells_157 rfl ?_
      refine ax_iadd dX10_tells_158 ?_
      obtain ⟨s11, gs11, h⟩ := Option.bind_eq_some_iff.mp h
      refine ax_putI (q := (RX10, TX10, 28)) (t := 7) (k := 25) dX10_tells_159 rfl (by decide) wd_781 rfl rfl ⟨rfl, rfl⟩ gs11 ?_
      exact ax_retv dX10_tells_162 h
    · rw [if_neg c1] at h
      refine ax_aload_n (i := 0) dX10_tells_85 rfl rfl ?_
      obtain ⟨r12, gr12, h⟩ := Option.bind_eq_some_iff.mp h
      refine ax_getR (q := (RX10, TX10, 28)) (t := 7) (k := 24) dX10_tells_86 rfl (by decide) wd_780 rfl gr12 ?_
      refine ax_iload_n (i := 2) dX10_tells_89 rfl rfl ?_
      refine ax_iconst (v := (1)) dX10_tells_90 rfl ?_
      refine ax_iadd dX10_tells_91 ?_
      refine ax_iload (i := 4) dX10_tells_92 rfl ?_
      refine ax_iadd dX10_tells_94 ?_
      refine ax_aload_n (i := 0) dX10_tells_95 rfl rfl ?_
      obtain ⟨r13, gr13, h⟩ := Option.bind_eq_some_iff.mp h
      refine ax_getR (q := (RX10, TX10, 28)) (t := 7) (k := 26) dX10_tells_96 rfl (by decide) wd_782 rfl gr13 ?_
      refine ax_aload_n (i := 0) dX10_tells_99 rfl rfl ?_
      obtain ⟨x14, gx14, h⟩ := Option.bind_eq_some_iff.mp h
      refine ax_getI (q := (RX10, TX10, 28)) (t := 7) (k := 27) dX10_tells_100 rfl (by decide) wd_783 rfl gx14 ?_
      refine ax_iload_n (i := 3) dX10_tells_103 rfl rfl ?_
      refine ax_isub dX10_tells_104 ?_
      refine ax_iload (i := 4) dX10_tells_105 rfl ?_
      refine ax_iadd dX10_tells_107 ?_
      obtain ⟨x15, gx15, h⟩ := Option.bind_eq_some_iff.mp h
      refine ax_iald dX10_tells_108 gx15 ?_
      obtain ⟨s16, gs16, h⟩ := Option.bind_eq_some_iff.mp h
      refine ax_iast dX10_tells_109 gs16 ?_
      refine ax_iinc (i := 4) (v := (a4 + (1))) (L2 := [some (av_r a0), none, some (av_i a2), some (av_i a3), some (av_i (a4 + (1)))]) dX10_tells_110 rfl rfl (by decide) rfl rfl ?_
      refine ax_goto (tgt := 79) dX10_tells_113 (by decide) ?_
      exact ax_less (L' := [(some (av_r a0)), none, (some (av_i a2)), (some (av_i a3)), (some (av_i (a4 + (1))))]) ⟨rfl, rfl, rfl, rfl, trivial⟩ (ih _ _ _ _ _ h)
def fb_X10_tells_43 : Nat → Option Nat → Int32 → Int32 → Int32 → ax_S → Option (ax_S)
  | 0, _, _, _, _, _ => none
  | n + 1, a0, a1, a2, a3, s =>
    if (4) ≤ a3 then
      (ax_gr s 7 13 a0).bind fun r18 =>
      (ax_al s 9 r18 a1).bind fun x19 =>
      fb_X10_tells_79 10000 a0 a2 x19 (0) s
    else
      (ax_gr s 7 24 a0).bind fun r20 =>
      (fn_X10_first a1 a3 s).bind fun q21 =>
      (ax_as q21.2 9 r20 ((a2 + (4)) + a3) q21.1).bind fun s22 =>
      (fb_X10_tells_43 n) a0 a1 a2 (a3 + (1)) s22
set_option maxRecDepth 100000 in
set_option maxHeartbeats 4000000 in
theorem tb_X10_tells_43 {q : ax_S} : ∀ (n : Nat) (a0 : Option Nat) (a1 : Int32) (a2 : Int32) (a3 : Int32) (s : ax_S) (h : fb_X10_tells_43 n a0 a1 a2 a3 s = some q), AW mm_X10_tells 1 0 0 43 [(some (av_r a0)), (some (av_i a1)), (some (av_i a2)), (some (av_i a3)), none] [] s (none, q) := by
  intro n
  induction n with
  | zero =>
    intro a0 a1 a2 a3 s h
    exact ax_no h
  | succ n ih =>
    intro a0 a1 a2 a3 s h
    unfold fb_X10_tells_43 at h
    refine ax_iload_n (i := 3) dX10_tells_43 rfl rfl ?_
    refine ax_iconst (v := (4)) dX10_tells_44 rfl ?_
    refine ax_icmp_ge (tgt := 69) dX10_tells_45 (by decide) (fun c17 => ?_) (fun c17 => ?_)
    · rw [if_pos c17] at h
      refine ax_aload_n (i := 0) dX10_tells_69 rfl rfl ?_
      obtain ⟨r18, gr18, h⟩ := Option.bind_eq_some_iff.mp h
      refine ax_getR (q := (RX10, TX10, 28)) (t := 7) (k := 13) dX10_tells_70 rfl (by decide) wd_769 rfl gr18 ?_
      refine ax_iload_n (i := 1) dX10_tells_73 rfl rfl ?_
      obtain ⟨x19, gx19, h⟩ := Option.bind_eq_some_iff.mp h
      refine ax_iald dX10_tells_74 gx19 ?_
      refine ax_istore_n (i := 3) (L2 := [some (av_r a0), some (av_i a1), some (av_i a2), some (av_i x19), none]) dX10_tells_75 rfl (by decide) rfl rfl ?_
      refine ax_iconst (v := (0)) dX10_tells_76 rfl ?_
      refine ax_istore (i := 4) (L2 := [some (av_r a0), some (av_i a1), some (av_i a2), some (av_i x19), some (av_i (0))]) dX10_tells_77 (by decide) rfl rfl ?_
      exact ax_less (L' := [(some (av_r a0)), none, (some (av_i a2)), (some (av_i x19)), (some (av_i (0)))]) ⟨rfl, rfl, rfl, rfl, trivial⟩ (tb_X10_tells_79  _ _ _ _ _ _ h)
    · rw [if_neg c17] at h
      refine ax_aload_n (i := 0) dX10_tells_48 rfl rfl ?_
      obtain ⟨r20, gr20, h⟩ := Option.bind_eq_some_iff.mp h
      refine ax_getR (q := (RX10, TX10, 28)) (t := 7) (k := 24) dX10_tells_49 rfl (by decide) wd_780 rfl gr20 ?_
      refine ax_iload_n (i := 2) dX10_tells_52 rfl rfl ?_
      refine ax_iconst (v := (4)) dX10_tells_53 rfl ?_
      refine ax_iadd dX10_tells_54 ?_
      refine ax_iload_n (i := 3) dX10_tells_55 rfl rfl ?_
      refine ax_iadd dX10_tells_56 ?_
      refine ax_iload_n (i := 1) dX10_tells_57 rfl rfl ?_
      refine ax_iload_n (i := 3) dX10_tells_58 rfl rfl ?_
      obtain ⟨q21, gq21, h⟩ := Option.bind_eq_some_iff.mp h
      refine ax_cS (As := [av_i a1, av_i a3]) dX10_tells_59 (th_X10_first gq21) (And.intro wd_861 wd_59) wd_859 wd_860 cy_X10_first (by omega) (by decide) (Nat.le_of_ble_eq_true rfl) rfl ?_
      obtain ⟨s22, gs22, h⟩ := Option.bind_eq_some_iff.mp h
      refine ax_iast dX10_tells_62 gs22 ?_
      refine ax_iinc (i := 3) (v := (a3 + (1))) (L2 := [some (av_r a0), some (av_i a1), some (av_i a2), some (av_i (a3 + (1))), none]) dX10_tells_63 rfl rfl (by decide) rfl rfl ?_
      refine ax_goto (tgt := 43) dX10_tells_66 (by decide) ?_
      exact ax_less (L' := [(some (av_r a0)), (some (av_i a1)), (some (av_i a2)), (some (av_i (a3 + (1)))), none]) ⟨rfl, rfl, rfl, rfl, trivial⟩ (ih _ _ _ _ _ h)
def fb_X10_tells_17 : Nat → Option Nat → Int32 → Int32 → Int32 → ax_S → Option (ax_S)
  | 0, _, _, _, _, _ => none
  | n + 1, a0, a1, a2, a3, s =>
    if (3) ≤ a3 then
      fb_X10_tells_43 10000 a0 a1 a2 (0) s
    else
      (ax_gr s 7 24 a0).bind fun r24 =>
      (ax_as s 9 r24 ((a2 + (1)) + a3) (-1005)).bind fun s25 =>
      (fb_X10_tells_17 n) a0 a1 a2 (a3 + (1)) s25
set_option maxRecDepth 100000 in
set_option maxHeartbeats 4000000 in
theorem tb_X10_tells_17 {q : ax_S} : ∀ (n : Nat) (a0 : Option Nat) (a1 : Int32) (a2 : Int32) (a3 : Int32) (s : ax_S) (h : fb_X10_tells_17 n a0 a1 a2 a3 s = some q), AW mm_X10_tells 1 0 0 17 [(some (av_r a0)), (some (av_i a1)), (some (av_i a2)), (some (av_i a3)), none] [] s (none, q) := by
  intro n
  induction n with
  | zero =>
    intro a0 a1 a2 a3 s h
    exact ax_no h
  | succ n ih =>
    intro a0 a1 a2 a3 s h
    unfold fb_X10_tells_17 at h
    refine ax_iload_n (i := 3) dX10_tells_17 rfl rfl ?_
    refine ax_iconst (v := (3)) dX10_tells_18 rfl ?_
    refine ax_icmp_ge (tgt := 41) dX10_tells_19 (by decide) (fun c23 => ?_) (fun c23 => ?_)
    · rw [if_pos c23] at h
      refine ax_iconst (v := (0)) dX10_tells_41 rfl ?_
      refine ax_istore_n (i := 3) (L2 := [some (av_r a0), some (av_i a1), some (av_i a2), some (av_i (0)), none]) dX10_tells_42 rfl (by decide) rfl rfl ?_
      exact ax_less (L' := [(some (av_r a0)), (some (av_i a1)), (some (av_i a2)), (some (av_i (0))), none]) ⟨rfl, rfl, rfl, rfl, trivial⟩ (tb_X10_tells_43  _ _ _ _ _ _ h)
    · rw [if_neg c23] at h
      refine ax_aload_n (i := 0) dX10_tells_22 rfl rfl ?_
      obtain ⟨r24, gr24, h⟩ := Option.bind_eq_some_iff.mp h
      refine ax_getR (q := (RX10, TX10, 28)) (t := 7) (k := 24) dX10_tells_23 rfl (by decide) wd_780 rfl gr24 ?_
      refine ax_iload_n (i := 2) dX10_tells_26 rfl rfl ?_
      refine ax_iconst (v := (1)) dX10_tells_27 rfl ?_
      refine ax_iadd dX10_tells_28 ?_
      refine ax_iload_n (i := 3) dX10_tells_29 rfl rfl ?_
      refine ax_iadd dX10_tells_30 ?_
      refine ax_sipush (v := (-1005)) dX10_tells_31 rfl ?_
      obtain ⟨s25, gs25, h⟩ := Option.bind_eq_some_iff.mp h
      refine ax_iast dX10_tells_34 gs25 ?_
      refine ax_iinc (i := 3) (v := (a3 + (1))) (L2 := [some (av_r a0), some (av_i a1), some (av_i a2), some (av_i (a3 + (1))), none]) dX10_tells_35 rfl rfl (by decide) rfl rfl ?_
      refine ax_goto (tgt := 17) dX10_tells_38 (by decide) ?_
      exact ax_less (L' := [(some (av_r a0)), (some (av_i a1)), (some (av_i a2)), (some (av_i (a3 + (1)))), none]) ⟨rfl, rfl, rfl, rfl, trivial⟩ (ih _ _ _ _ _ h)
def fn_X10_tells (a0 : Option Nat) (a1 : Int32) (s : ax_S) : Option (ax_S) :=
  (ax_gi s 7 25 a0).bind fun x26 =>
  ax_bd (((8) * x26)) fun v27 =>
  (ax_gr s 7 24 a0).bind fun r28 =>
  (ax_as s 9 r28 v27 a1).bind fun s29 =>
  fb_X10_tells_17 10000 a0 a1 v27 (0) s29
set_option maxRecDepth 100000 in
set_option maxHeartbeats 4000000 in
theorem tw_X10_tells {q : ax_S} {a0 : Option Nat} {a1 : Int32} {s : ax_S} (h : fn_X10_tells a0 a1 s = some q) : AW mm_X10_tells 1 0 0 0 [some (av_r a0), some (av_i a1), none, none, none] [] s (none, q) := by
  unfold fn_X10_tells at h
  refine ax_bipush (v := (8)) dX10_tells_0 rfl ?_
  refine ax_aload_n (i := 0) dX10_tells_2 rfl rfl ?_
  obtain ⟨x26, gx26, h⟩ := Option.bind_eq_some_iff.mp h
  refine ax_getI (q := (RX10, TX10, 28)) (t := 7) (k := 25) dX10_tells_3 rfl (by decide) wd_781 rfl gx26 ?_
  refine ax_imul dX10_tells_6 ?_
  refine ax_bdI h (fun v27 h => ?_)
  refine ax_istore_n (i := 2) (L2 := [some (av_r a0), some (av_i a1), some (av_i v27), none, none]) dX10_tells_7 rfl (by decide) rfl rfl ?_
  refine ax_aload_n (i := 0) dX10_tells_8 rfl rfl ?_
  obtain ⟨r28, gr28, h⟩ := Option.bind_eq_some_iff.mp h
  refine ax_getR (q := (RX10, TX10, 28)) (t := 7) (k := 24) dX10_tells_9 rfl (by decide) wd_780 rfl gr28 ?_
  refine ax_iload_n (i := 2) dX10_tells_12 rfl rfl ?_
  refine ax_iload_n (i := 1) dX10_tells_13 rfl rfl ?_
  obtain ⟨s29, gs29, h⟩ := Option.bind_eq_some_iff.mp h
  refine ax_iast dX10_tells_14 gs29 ?_
  refine ax_iconst (v := (0)) dX10_tells_15 rfl ?_
  refine ax_istore_n (i := 3) (L2 := [some (av_r a0), some (av_i a1), some (av_i v27), some (av_i (0)), none]) dX10_tells_16 rfl (by decide) rfl rfl ?_
  exact ax_less (L' := [(some (av_r a0)), (some (av_i a1)), (some (av_i v27)), (some (av_i (0))), none]) ⟨rfl, rfl, rfl, rfl, trivial⟩ (tb_X10_tells_17  _ _ _ _ _ _ h)
set_option maxRecDepth 100000 in
set_option maxHeartbeats 4000000 in
theorem th_X10_tells {q : ax_S} {a0 : Option Nat} {a1 : Int32} {s : ax_S} (h : fn_X10_tells a0 a1 s = some q) : AC mm_X10_tells yX10_tells 1 0 0 [av_r a0, av_i a1] s (none, q) := by
  exact ax_met (L0 := [some (av_r a0), some (av_i a1), none, none, none]) (by decide +kernel) rfl (fun h => absurd h (by decide)) ⟨rfl, rfl, trivial⟩ (Nat.le_of_ble_eq_true rfl) trivial (tw_X10_tells h)
/-! X10_isDigit -/
abbrev mm_X10_isDigit : ax_M := (RX10, cX10_isDigit, (some .boolean), 1, false)
def fi_X10_isDigit (a0 : Option Nat) (s : ax_S) : Option (Int32 × ax_S) :=
  (ax_sh s 7 a0).bind fun w1 =>
  (fn_X10_here a0 s).bind fun q2 =>
  (fn_X10_in q2.1 (48) (57) q2.2).bind fun q3 =>
  some (q3.1, q3.2)
set_option maxRecDepth 100000 in
set_option maxHeartbeats 4000000 in
theorem tw_X10_isDigit {q : Int32 × ax_S} {a0 : Option Nat} {s : ax_S} (h : fi_X10_isDigit a0 s = some q) : AW mm_X10_isDigit 1 0 0 0 [some (av_r a0)] [] s (some (av_i q.1), q.2) := by
  unfold fi_X10_isDigit at h
  refine ax_aload_n (i := 0) dX10_isDigit_0 rfl rfl ?_
  obtain ⟨w1, gw1, h⟩ := Option.bind_eq_some_iff.mp h
  obtain ⟨q2, gq2, h⟩ := Option.bind_eq_some_iff.mp h
  refine ax_cV (As := []) (t := 7) dX10_isDigit_1 gw1 (th_X10_here gq2) rfl (And.intro wd_1060 wd_59) wd_1057 wd_1059 wd_45 cy_X10_here (by omega) (by decide) (Nat.le_of_ble_eq_true rfl) rfl ?_
  refine ax_bipush (v := (48)) dX10_isDigit_4 rfl ?_
  refine ax_bipush (v := (57)) dX10_isDigit_6 rfl ?_
  obtain ⟨q3, gq3, h⟩ := Option.bind_eq_some_iff.mp h
  refine ax_cS (As := [av_i q2.1, av_i (48), av_i (57)]) dX10_isDigit_8 (th_X10_in gq3) (And.intro wd_851 wd_59) wd_849 wd_850 cy_X10_in (by omega) (by decide) (Nat.le_of_ble_eq_true rfl) rfl ?_
  exact ax_reti dX10_isDigit_11 h
def fn_X10_isDigit (a0 : Option Nat) (s : ax_S) : Option (Int32 × ax_S) := ax_bz (fi_X10_isDigit a0 s)
set_option maxRecDepth 100000 in
set_option maxHeartbeats 4000000 in
theorem th_X10_isDigit {q : Int32 × ax_S} {a0 : Option Nat} {s : ax_S} (h : fn_X10_isDigit a0 s = some q) : AC mm_X10_isDigit yX10_isDigit 1 0 0 [av_r a0] s (some (av_i q.1), q.2) := by
  obtain ⟨h, hz⟩ := ax_bz_of h
  exact ax_met (L0 := [some (av_r a0)]) (by decide +kernel) rfl (fun h => absurd h (by decide)) ⟨rfl, trivial⟩ (Nat.le_of_ble_eq_true rfl) hz (tw_X10_isDigit h)
/-! X10_number -/
abbrev mm_X10_number : ax_M := (RX10, cX10_number, (some .boolean), 6, false)
def fb_X10_number_103 (a0 : Option Nat) (a1 : Int32) (a2 : Int32) (a3 : Int32) (s : ax_S) : Option (Int32 × ax_S) :=
  (ax_gi s 7 21 a0).bind fun x1 =>
  (fn_X10_in x1 a1 a2 s).bind fun q2 =>
  if q2.1 = 0 then
    (ax_pi q2.2 7 19 a0 a3).bind fun s4 =>
    some (q2.1, s4)
  else
    (ax_gi q2.2 7 19 a0).bind fun x5 =>
    (ax_pi q2.2 7 19 a0 x5).bind fun s6 =>
    some (q2.1, s6)
set_option maxRecDepth 100000 in
set_option maxHeartbeats 4000000 in
theorem tb_X10_number_103 {q : Int32 × ax_S} {a0 : Option Nat} {a1 : Int32} {a2 : Int32} {a3 : Int32} {s : ax_S} (h : fb_X10_number_103 a0 a1 a2 a3 s = some q) : AW mm_X10_number 2 0 0 103 [(some (av_r a0)), (some (av_i a1)), (some (av_i a2)), (some (av_i a3)), none, none] [] s (some (av_i q.1), q.2) := by
  unfold fb_X10_number_103 at h
  refine ax_aload_n (i := 0) dX10_number_103 rfl rfl ?_
  obtain ⟨x1, gx1, h⟩ := Option.bind_eq_some_iff.mp h
  refine ax_getI (q := (RX10, TX10, 28)) (t := 7) (k := 21) dX10_number_104 rfl (by decide) wd_777 rfl gx1 ?_
  refine ax_iload_n (i := 1) dX10_number_107 rfl rfl ?_
  refine ax_iload_n (i := 2) dX10_number_108 rfl rfl ?_
  obtain ⟨q2, gq2, h⟩ := Option.bind_eq_some_iff.mp h
  refine ax_cS (As := [av_i x1, av_i a1, av_i a2]) dX10_number_109 (th_X10_in gq2) (And.intro wd_851 wd_59) wd_849 wd_850 cy_X10_in (by omega) (by decide) (Nat.le_of_ble_eq_true rfl) rfl ?_
  refine ax_istore (i := 5) (L2 := [some (av_r a0), some (av_i a1), some (av_i a2), some (av_i a3), none, some (av_i q2.1)]) dX10_number_112 (by decide) rfl rfl ?_
  refine ax_aload_n (i := 0) dX10_number_114 rfl rfl ?_
  refine ax_iload (i := 5) dX10_number_115 rfl ?_
  refine ax_if_eq (tgt := 127) dX10_number_117 (by decide) (fun c3 => ?_) (fun c3 => ?_)
  · rw [if_pos c3] at h
    refine ax_iload_n (i := 3) dX10_number_127 rfl rfl ?_
    obtain ⟨s4, gs4, h⟩ := Option.bind_eq_some_iff.mp h
    refine ax_putI (q := (RX10, TX10, 28)) (t := 7) (k := 19) dX10_number_128 rfl (by decide) wd_775 rfl rfl ⟨rfl, rfl⟩ gs4 ?_
    refine ax_iload (i := 5) dX10_number_131 rfl ?_
    exact ax_reti dX10_number_133 h
  · rw [if_neg c3] at h
    refine ax_aload_n (i := 0) dX10_number_120 rfl rfl ?_
    obtain ⟨x5, gx5, h⟩ := Option.bind_eq_some_iff.mp h
    refine ax_getI (q := (RX10, TX10, 28)) (t := 7) (k := 19) dX10_number_121 rfl (by decide) wd_775 rfl gx5 ?_
    refine ax_goto (tgt := 128) dX10_number_124 (by decide) ?_
    obtain ⟨s6, gs6, h⟩ := Option.bind_eq_some_iff.mp h
    refine ax_putI (q := (RX10, TX10, 28)) (t := 7) (k := 19) dX10_number_128 rfl (by decide) wd_775 rfl rfl ⟨rfl, rfl⟩ gs6 ?_
    refine ax_iload (i := 5) dX10_number_131 rfl ?_
    exact ax_reti dX10_number_133 h
def fb_X10_number_49 : Nat → Option Nat → Int32 → Int32 → Int32 → Int32 → ax_S → Option (Int32 × ax_S)
  | 0, _, _, _, _, _, _ => none
  | n + 1, a0, a1, a2, a3, a4, s =>
    if a4 = 0 then
      (ax_gi s 7 19 a0).bind fun x8 =>
      if (a3 + (3)) ≤ x8 then
        fb_X10_number_103 a0 a1 a2 a3 s
      else
        (ax_sh s 7 a0).bind fun w10 =>
        (fn_X10_isDigit a0 s).bind fun q11 =>
        if q11.1 = 0 then
          fb_X10_number_103 a0 a1 a2 a3 q11.2
        else
          (ax_gi q11.2 7 21 a0).bind fun x13 =>
          (ax_sh q11.2 7 a0).bind fun w14 =>
          (fn_X10_here a0 q11.2).bind fun q15 =>
          (ax_pi q15.2 7 21 a0 ((((10) * x13) + q15.1) - (48))).bind fun s16 =>
          (ax_gi s16 7 19 a0).bind fun x17 =>
          (ax_pi s16 7 19 a0 (x17 + (1))).bind fun s18 =>
          (fb_X10_number_49 n) a0 a1 a2 a3 a4 s18
    else
      fb_X10_number_103 a0 a1 a2 a3 s
set_option maxRecDepth 100000 in
set_option maxHeartbeats 4000000 in
theorem tb_X10_number_49 {q : Int32 × ax_S} : ∀ (n : Nat) (a0 : Option Nat) (a1 : Int32) (a2 : Int32) (a3 : Int32) (a4 : Int32) (s : ax_S) (h : fb_X10_number_49 n a0 a1 a2 a3 a4 s = some q), AW mm_X10_number 2 0 0 49 [(some (av_r a0)), (some (av_i a1)), (some (av_i a2)), (some (av_i a3)), (some (av_i a4)), none] [] s (some (av_i q.1), q.2) := by
  intro n
  induction n with
  | zero =>
    intro a0 a1 a2 a3 a4 s h
    exact ax_no h
  | succ n ih =>
    intro a0 a1 a2 a3 a4 s h
    unfold fb_X10_number_49 at h
    refine ax_iload (i := 4) dX10_number_49 rfl ?_
    refine ax_if_ne (tgt := 103) dX10_number_51 (by decide) (fun c7 => ?_) (fun c7 => ?_)
    · rw [if_neg c7] at h
      exact ax_less (L' := [(some (av_r a0)), (some (av_i a1)), (some (av_i a2)), (some (av_i a3)), none, none]) ⟨rfl, rfl, rfl, rfl, trivial⟩ (tb_X10_number_103  h)
    · rw [if_pos c7] at h
      refine ax_aload_n (i := 0) dX10_number_54 rfl rfl ?_
      obtain ⟨x8, gx8, h⟩ := Option.bind_eq_some_iff.mp h
      refine ax_getI (q := (RX10, TX10, 28)) (t := 7) (k := 19) dX10_number_55 rfl (by decide) wd_775 rfl gx8 ?_
      refine ax_iload_n (i := 3) dX10_number_58 rfl rfl ?_
      refine ax_iconst (v := (3)) dX10_number_59 rfl ?_
      refine ax_iadd dX10_number_60 ?_
      refine ax_icmp_ge (tgt := 103) dX10_number_61 (by decide) (fun c9 => ?_) (fun c9 => ?_)
      · rw [if_pos c9] at h
        exact ax_less (L' := [(some (av_r a0)), (some (av_i a1)), (some (av_i a2)), (some (av_i a3)), none, none]) ⟨rfl, rfl, rfl, rfl, trivial⟩ (tb_X10_number_103  h)
      · rw [if_neg c9] at h
        refine ax_aload_n (i := 0) dX10_number_64 rfl rfl ?_
        obtain ⟨w10, gw10, h⟩ := Option.bind_eq_some_iff.mp h
        obtain ⟨q11, gq11, h⟩ := Option.bind_eq_some_iff.mp h
        refine ax_cV (As := []) (t := 7) dX10_number_65 gw10 (th_X10_isDigit gq11) rfl (And.intro wd_1076 wd_59) wd_1073 wd_1075 wd_49 cy_X10_isDigit (by omega) (by decide) (Nat.le_of_ble_eq_true rfl) rfl ?_
        refine ax_if_eq (tgt := 103) dX10_number_68 (by decide) (fun c12 => ?_) (fun c12 => ?_)
        · rw [if_pos c12] at h
          exact ax_less (L' := [(some (av_r a0)), (some (av_i a1)), (some (av_i a2)), (some (av_i a3)), none, none]) ⟨rfl, rfl, rfl, rfl, trivial⟩ (tb_X10_number_103  h)
        · rw [if_neg c12] at h
          refine ax_aload_n (i := 0) dX10_number_71 rfl rfl ?_
          refine ax_bipush (v := (10)) dX10_number_72 rfl ?_
          refine ax_aload_n (i := 0) dX10_number_74 rfl rfl ?_
          obtain ⟨x13, gx13, h⟩ := Option.bind_eq_some_iff.mp h
          refine ax_getI (q := (RX10, TX10, 28)) (t := 7) (k := 21) dX10_number_75 rfl (by decide) wd_777 rfl gx13 ?_
          refine ax_imul dX10_number_78 ?_
          refine ax_aload_n (i := 0) dX10_number_79 rfl rfl ?_
          obtain ⟨w14, gw14, h⟩ := Option.bind_eq_some_iff.mp h
          obtain ⟨q15, gq15, h⟩ := Option.bind_eq_some_iff.mp h
          refine ax_cV (As := []) (t := 7) dX10_number_80 gw14 (th_X10_here gq15) rfl (And.intro wd_1060 wd_59) wd_1057 wd_1059 wd_45 cy_X10_here (by omega) (by decide) (Nat.le_of_ble_eq_true rfl) rfl ?_
          refine ax_iadd dX10_number_83 ?_
          refine ax_bipush (v := (48)) dX10_number_84 rfl ?_
          refine ax_isub dX10_number_86 ?_
          obtain ⟨s16, gs16, h⟩ := Option.bind_eq_some_iff.mp h
          refine ax_putI (q := (RX10, TX10, 28)) (t := 7) (k := 21) dX10_number_87 rfl (by decide) wd_777 rfl rfl ⟨rfl, rfl⟩ gs16 ?_
          refine ax_aload_n (i := 0) dX10_number_90 rfl rfl ?_
          refine ax_dup dX10_number_91 trivial ?_
          obtain ⟨x17, gx17, h⟩ := Option.bind_eq_some_iff.mp h
          refine ax_getI (q := (RX10, TX10, 28)) (t := 7) (k := 19) dX10_number_92 rfl (by decide) wd_775 rfl gx17 ?_
          refine ax_iconst (v := (1)) dX10_number_95 rfl ?_
          refine ax_iadd dX10_number_96 ?_
          obtain ⟨s18, gs18, h⟩ := Option.bind_eq_some_iff.mp h
          refine ax_putI (q := (RX10, TX10, 28)) (t := 7) (k := 19) dX10_number_97 rfl (by decide) wd_775 rfl rfl ⟨rfl, rfl⟩ gs18 ?_
          refine ax_goto (tgt := 49) dX10_number_100 (by decide) ?_
          exact ax_less (L' := [(some (av_r a0)), (some (av_i a1)), (some (av_i a2)), (some (av_i a3)), (some (av_i a4)), none]) ⟨rfl, rfl, rfl, rfl, rfl, trivial⟩ (ih _ _ _ _ _ _ h)
def fi_X10_number (a0 : Option Nat) (a1 : Int32) (a2 : Int32) (s : ax_S) : Option (Int32 × ax_S) :=
  (ax_gi s 7 19 a0).bind fun x19 =>
  (ax_sh s 7 a0).bind fun w20 =>
  (fn_X10_isDigit a0 s).bind fun q21 =>
  if q21.1 = 0 then
    some ((0), q21.2)
  else
    (ax_sh q21.2 7 a0).bind fun w23 =>
    (fn_X10_here a0 q21.2).bind fun q24 =>
    (ax_pi q24.2 7 21 a0 (q24.1 - (48))).bind fun s25 =>
    (ax_gi s25 7 19 a0).bind fun x26 =>
    (ax_pi s25 7 19 a0 (x26 + (1))).bind fun s27 =>
    (ax_gi s27 7 21 a0).bind fun x28 =>
    if x28 = 0 then
      fb_X10_number_49 10000 a0 a1 a2 x19 (1) s27
    else
      fb_X10_number_49 10000 a0 a1 a2 x19 (0) s27
set_option maxRecDepth 100000 in
set_option maxHeartbeats 4000000 in
theorem tw_X10_number {q : Int32 × ax_S} {a0 : Option Nat} {a1 : Int32} {a2 : Int32} {s : ax_S} (h : fi_X10_number a0 a1 a2 s = some q) : AW mm_X10_number 2 0 0 0 [some (av_r a0), some (av_i a1), some (av_i a2), none, none, none] [] s (some (av_i q.1), q.2) := by
  unfold fi_X10_number at h
  refine ax_aload_n (i := 0) dX10_number_0 rfl rfl ?_
  obtain ⟨x19, gx19, h⟩ := Option.bind_eq_some_iff.mp h
  refine ax_getI (q := (RX10, TX10, 28)) (t := 7) (k := 19) dX10_number_1 rfl (by decide) wd_775 rfl gx19 ?_
  refine ax_istore_n (i := 3) (L2 := [some (av_r a0), some (av_i a1), some (av_i a2), some (av_i x19), none, none]) dX10_number_4 rfl (by decide) rfl rfl ?_
  refine ax_aload_n (i := 0) dX10_number_5 rfl rfl ?_
  obtain ⟨w20, gw20, h⟩ := Option.bind_eq_some_iff.mp h
  obtain ⟨q21, gq21, h⟩ := Option.bind_eq_some_iff.mp h
  refine ax_cV (As := []) (t := 7) dX10_number_6 gw20 (th_X10_isDigit gq21) rfl (And.intro wd_1076 wd_59) wd_1073 wd_1075 wd_49 cy_X10_isDigit (by omega) (by decide) (Nat.le_of_ble_eq_true rfl) rfl ?_
  refine ax_if_ne (tgt := 14) dX10_number_9 (by decide) (fun c22 => ?_) (fun c22 => ?_)
  · rw [if_neg c22] at h
    refine ax_aload_n (i := 0) dX10_number_14 rfl rfl ?_
    refine ax_aload_n (i := 0) dX10_number_15 rfl rfl ?_
    obtain ⟨w23, gw23, h⟩ := Option.bind_eq_some_iff.mp h
    obtain ⟨q24, gq24, h⟩ := Option.bind_eq_some_iff.mp h
    refine ax_cV (As := []) (t := 7) dX10_number_16 gw23 (th_X10_here gq24) rfl (And.intro wd_1060 wd_59) wd_1057 wd_1059 wd_45 cy_X10_here (by omega) (by decide) (Nat.le_of_ble_eq_true rfl) rfl ?_
    refine ax_bipush (v := (48)) dX10_number_19 rfl ?_
    refine ax_isub dX10_number_21 ?_
    obtain ⟨s25, gs25, h⟩ := Option.bind_eq_some_iff.mp h
    refine ax_putI (q := (RX10, TX10, 28)) (t := 7) (k := 21) dX10_number_22 rfl (by decide) wd_777 rfl rfl ⟨rfl, rfl⟩ gs25 ?_
    refine ax_aload_n (i := 0) dX10_number_25 rfl rfl ?_
    refine ax_dup dX10_number_26 trivial ?_
    obtain ⟨x26, gx26, h⟩ := Option.bind_eq_some_iff.mp h
    refine ax_getI (q := (RX10, TX10, 28)) (t := 7) (k := 19) dX10_number_27 rfl (by decide) wd_775 rfl gx26 ?_
    refine ax_iconst (v := (1)) dX10_number_30 rfl ?_
    refine ax_iadd dX10_number_31 ?_
    obtain ⟨s27, gs27, h⟩ := Option.bind_eq_some_iff.mp h
    refine ax_putI (q := (RX10, TX10, 28)) (t := 7) (k := 19) dX10_number_32 rfl (by decide) wd_775 rfl rfl ⟨rfl, rfl⟩ gs27 ?_
    refine ax_aload_n (i := 0) dX10_number_35 rfl rfl ?_
    obtain ⟨x28, gx28, h⟩ := Option.bind_eq_some_iff.mp h
    refine ax_getI (q := (RX10, TX10, 28)) (t := 7) (k := 21) dX10_number_36 rfl (by decide) wd_777 rfl gx28 ?_
    refine ax_if_ne (tgt := 46) dX10_number_39 (by decide) (fun c29 => ?_) (fun c29 => ?_)
    · rw [if_neg c29] at h
      refine ax_iconst (v := (0)) dX10_number_46 rfl ?_
      refine ax_istore (i := 4) (L2 := [some (av_r a0), some (av_i a1), some (av_i a2), some (av_i x19), some (av_i (0)), none]) dX10_number_47 (by decide) rfl rfl ?_
      exact ax_less (L' := [(some (av_r a0)), (some (av_i a1)), (some (av_i a2)), (some (av_i x19)), (some (av_i (0))), none]) ⟨rfl, rfl, rfl, rfl, rfl, trivial⟩ (tb_X10_number_49  _ _ _ _ _ _ _ h)
    · rw [if_pos c29] at h
      refine ax_iconst (v := (1)) dX10_number_42 rfl ?_
      refine ax_goto (tgt := 47) dX10_number_43 (by decide) ?_
      refine ax_istore (i := 4) (L2 := [some (av_r a0), some (av_i a1), some (av_i a2), some (av_i x19), some (av_i (1)), none]) dX10_number_47 (by decide) rfl rfl ?_
      exact ax_less (L' := [(some (av_r a0)), (some (av_i a1)), (some (av_i a2)), (some (av_i x19)), (some (av_i (1))), none]) ⟨rfl, rfl, rfl, rfl, rfl, trivial⟩ (tb_X10_number_49  _ _ _ _ _ _ _ h)
  · rw [if_pos c22] at h
    refine ax_iconst (v := (0)) dX10_number_12 rfl ?_
    exact ax_reti dX10_number_13 h
def fn_X10_number (a0 : Option Nat) (a1 : Int32) (a2 : Int32) (s : ax_S) : Option (Int32 × ax_S) := ax_bz (fi_X10_number a0 a1 a2 s)
set_option maxRecDepth 100000 in
set_option maxHeartbeats 4000000 in
theorem th_X10_number {q : Int32 × ax_S} {a0 : Option Nat} {a1 : Int32} {a2 : Int32} {s : ax_S} (h : fn_X10_number a0 a1 a2 s = some q) : AC mm_X10_number yX10_number 2 0 0 [av_r a0, av_i a1, av_i a2] s (some (av_i q.1), q.2) := by
  obtain ⟨h, hz⟩ := ax_bz_of h
  exact ax_met (L0 := [some (av_r a0), some (av_i a1), some (av_i a2), none, none, none]) (by decide +kernel) rfl (fun h => absurd h (by decide)) ⟨rfl, rfl, rfl, trivial⟩ (Nat.le_of_ble_eq_true rfl) hz (tw_X10_number h)
/-! X10_high -/
abbrev mm_X10_high : ax_M := (RX10, cX10_high, (some .int), 2, false)
def fn_X10_high (a0 : Int32) (a1 : Int32) (s : ax_S) : Option (Int32 × ax_S) :=
  if a0 = 0 then
    some ((999), s)
  else
  if a0 = 1 then
    some ((64), s)
  else
  if a0 = 4 then
    some ((3), s)
  else
  if a0 = 5 then
    if a1 = 0 then
      some ((2), s)
    else
      if a1 = (3) then
        some ((99), s)
      else
        some ((255), s)
  else
  some ((255), s)
set_option maxRecDepth 100000 in
set_option maxHeartbeats 4000000 in
theorem tw_X10_high {q : Int32 × ax_S} {a0 : Int32} {a1 : Int32} {s : ax_S} (h : fn_X10_high a0 a1 s = some q) : AW mm_X10_high 0 0 0 0 [some (av_i a0), some (av_i a1)] [] s (some (av_i q.1), q.2) := by
  unfold fn_X10_high at h
  refine ax_iload_n (i := 0) dX10_high_0 rfl rfl ?_
  by_cases c1 : a0 = 0
  · rw [if_pos c1] at h
    refine ax_swC (c := 0) (off := 39) (tgt := 40) dX10_high_1 c1 (by decide) (by decide) (by decide) rfl (by decide) ?_
    refine ax_sipush (v := (999)) dX10_high_40 rfl ?_
    exact ax_reti dX10_high_43 h
  rw [if_neg c1] at h
  by_cases c2 : a0 = 1
  · rw [if_pos c2] at h
    refine ax_swC (c := 1) (off := 43) (tgt := 44) dX10_high_1 c2 (by decide) (by decide) (by decide) rfl (by decide) ?_
    refine ax_bipush (v := (64)) dX10_high_44 rfl ?_
    exact ax_reti dX10_high_46 h
  rw [if_neg c2] at h
  by_cases c3 : a0 = 4
  · rw [if_pos c3] at h
    refine ax_swC (c := 4) (off := 46) (tgt := 47) dX10_high_1 c3 (by decide) (by decide) (by decide) rfl (by decide) ?_
    refine ax_iconst (v := (3)) dX10_high_47 rfl ?_
    exact ax_reti dX10_high_48 h
  rw [if_neg c3] at h
  by_cases c4 : a0 = 5
  · rw [if_pos c4] at h
    refine ax_swC (c := 5) (off := 48) (tgt := 49) dX10_high_1 c4 (by decide) (by decide) (by decide) rfl (by decide) ?_
    refine ax_iload_n (i := 1) dX10_high_49 rfl rfl ?_
    refine ax_if_ne (tgt := 57) dX10_high_50 (by decide) (fun c5 => ?_) (fun c5 => ?_)
    · rw [if_neg c5] at h
      refine ax_iload_n (i := 1) dX10_high_57 rfl rfl ?_
      refine ax_iconst (v := (3)) dX10_high_58 rfl ?_
      refine ax_icmp_ne (tgt := 67) dX10_high_59 (by decide) (fun c6 => ?_) (fun c6 => ?_)
      · rw [if_neg c6] at h
        refine ax_sipush (v := (255)) dX10_high_67 rfl ?_
        exact ax_reti dX10_high_70 h
      · rw [if_pos c6] at h
        refine ax_bipush (v := (99)) dX10_high_62 rfl ?_
        refine ax_goto (tgt := 70) dX10_high_64 (by decide) ?_
        exact ax_reti dX10_high_70 h
    · rw [if_pos c5] at h
      refine ax_iconst (v := (2)) dX10_high_53 rfl ?_
      refine ax_goto (tgt := 70) dX10_high_54 (by decide) ?_
      exact ax_reti dX10_high_70 h
  rw [if_neg c4] at h
  refine ax_swD (tgt := 71) dX10_high_1 (fun c hc1 hc2 => ?_) (by decide) ?_
  · have hcc : c = 0 ∨ c = 1 ∨ c = 2 ∨ c = 3 ∨ c = 4 ∨ c = 5 := by omega
    rcases hcc with rfl | rfl | rfl | rfl | rfl | rfl
    · exact Or.inr (fun e => c1 (e.trans (by decide)))
    · exact Or.inr (fun e => c2 (e.trans (by decide)))
    · exact Or.inl rfl
    · exact Or.inl rfl
    · exact Or.inr (fun e => c3 (e.trans (by decide)))
    · exact Or.inr (fun e => c4 (e.trans (by decide)))
  refine ax_sipush (v := (255)) dX10_high_71 rfl ?_
  exact ax_reti dX10_high_74 h
set_option maxRecDepth 100000 in
set_option maxHeartbeats 4000000 in
theorem th_X10_high {q : Int32 × ax_S} {a0 : Int32} {a1 : Int32} {s : ax_S} (h : fn_X10_high a0 a1 s = some q) : AC mm_X10_high yX10_high 0 0 0 [av_i a0, av_i a1] s (some (av_i q.1), q.2) := by
  exact ax_met (L0 := [some (av_i a0), some (av_i a1)]) (by decide +kernel) rfl (fun h => absurd h (by decide)) ⟨rfl, rfl, trivial⟩ (Nat.le_of_ble_eq_true rfl) trivial (tw_X10_high h)
/-! X10_ends -/
abbrev mm_X10_ends : ax_M := (RX10, cX10_ends, (some .boolean), 10, false)
def fb_X10_ends_387 (a0 : Option Nat) (a5 : Int32) (a6 : Int32) (a7 : Int32) (b0 : Option Nat) (b1 : Int32) (b2 : Int32) (s : ax_S) : Option (Int32 × ax_S) :=
  (ax_as s 9 b0 b1 b2).bind fun s1 =>
  (ax_gr s1 7 24 a0).bind fun r2 =>
  if a6 ≤ (1) then
    (ax_gr s1 7 24 a0).bind fun r4 =>
    (ax_al s1 9 r4 (a7 + (3))).bind fun x5 =>
    (ax_as s1 9 r2 (a7 + (3)) x5).bind fun s6 =>
    some ((1), s6)
  else
    (ax_as s1 9 r2 (a7 + (3)) a5).bind fun s7 =>
    some ((1), s7)
set_option maxRecDepth 100000 in
set_option maxHeartbeats 4000000 in
theorem tb_X10_ends_387 {q : Int32 × ax_S} {a0 : Option Nat} {a5 : Int32} {a6 : Int32} {a7 : Int32} {b0 : Option Nat} {b1 : Int32} {b2 : Int32} {s : ax_S} (h : fb_X10_ends_387 a0 a5 a6 a7 b0 b1 b2 s = some q) : AW mm_X10_ends 3 0 0 387 [(some (av_r a0)), none, none, none, none, (some (av_i a5)), (some (av_i a6)), (some (av_i a7)), none, none] [av_i b2, av_i b1, av_r b0] s (some (av_i q.1), q.2) := by
  unfold fb_X10_ends_387 at h
  obtain ⟨s1, gs1, h⟩ := Option.bind_eq_some_iff.mp h
  refine ax_iast dX10_ends_387 gs1 ?_
  refine ax_aload_n (i := 0) dX10_ends_388 rfl rfl ?_
  obtain ⟨r2, gr2, h⟩ := Option.bind_eq_some_iff.mp h
  refine ax_getR (q := (RX10, TX10, 28)) (t := 7) (k := 24) dX10_ends_389 rfl (by decide) wd_780 rfl gr2 ?_
  refine ax_iload (i := 7) dX10_ends_392 rfl ?_
  refine ax_iconst (v := (3)) dX10_ends_394 rfl ?_
  refine ax_iadd dX10_ends_395 ?_
  refine ax_iload (i := 6) dX10_ends_396 rfl ?_
  refine ax_iconst (v := (1)) dX10_ends_398 rfl ?_
  refine ax_icmp_le (tgt := 407) dX10_ends_399 (by decide) (fun c3 => ?_) (fun c3 => ?_)
  · rw [if_pos c3] at h
    refine ax_aload_n (i := 0) dX10_ends_407 rfl rfl ?_
    obtain ⟨r4, gr4, h⟩ := Option.bind_eq_some_iff.mp h
    refine ax_getR (q := (RX10, TX10, 28)) (t := 7) (k := 24) dX10_ends_408 rfl (by decide) wd_780 rfl gr4 ?_
    refine ax_iload (i := 7) dX10_ends_411 rfl ?_
    refine ax_iconst (v := (3)) dX10_ends_413 rfl ?_
    refine ax_iadd dX10_ends_414 ?_
    obtain ⟨x5, gx5, h⟩ := Option.bind_eq_some_iff.mp h
    refine ax_iald dX10_ends_415 gx5 ?_
    obtain ⟨s6, gs6, h⟩ := Option.bind_eq_some_iff.mp h
    refine ax_iast dX10_ends_416 gs6 ?_
    refine ax_iconst (v := (1)) dX10_ends_417 rfl ?_
    exact ax_reti dX10_ends_418 h
  · rw [if_neg c3] at h
    refine ax_iload (i := 5) dX10_ends_402 rfl ?_
    refine ax_goto (tgt := 416) dX10_ends_404 (by decide) ?_
    obtain ⟨s7, gs7, h⟩ := Option.bind_eq_some_iff.mp h
    refine ax_iast dX10_ends_416 gs7 ?_
    refine ax_iconst (v := (1)) dX10_ends_417 rfl ?_
    exact ax_reti dX10_ends_418 h
def fb_X10_ends_349 (a0 : Option Nat) (a2 : Int32) (a4 : Int32) (a5 : Int32) (a6 : Int32) (a7 : Int32) (a8 : Int32) (b0 : Option Nat) (b1 : Int32) (b2 : Int32) (s : ax_S) : Option (Int32 × ax_S) :=
  (ax_as s 9 b0 b1 b2).bind fun s8 =>
  (ax_gr s8 7 24 a0).bind fun r9 =>
  if a8 = 0 then
    if a6 ≤ (1) then
      (ax_gr s8 7 24 a0).bind fun r12 =>
      (ax_al s8 9 r12 (a7 + (2))).bind fun x13 =>
      fb_X10_ends_387 a0 a5 a6 a7 r9 (a7 + (2)) x13 s8
    else
      fb_X10_ends_387 a0 a5 a6 a7 r9 (a7 + (2)) a4 s8
  else
    fb_X10_ends_387 a0 a5 a6 a7 r9 (a7 + (2)) a2 s8
set_option maxRecDepth 100000 in
set_option maxHeartbeats 4000000 in
theorem tb_X10_ends_349 {q : Int32 × ax_S} {a0 : Option Nat} {a2 : Int32} {a4 : Int32} {a5 : Int32} {a6 : Int32} {a7 : Int32} {a8 : Int32} {b0 : Option Nat} {b1 : Int32} {b2 : Int32} {s : ax_S} (h : fb_X10_ends_349 a0 a2 a4 a5 a6 a7 a8 b0 b1 b2 s = some q) : AW mm_X10_ends 3 0 0 349 [(some (av_r a0)), none, (some (av_i a2)), none, (some (av_i a4)), (some (av_i a5)), (some (av_i a6)), (some (av_i a7)), (some (av_i a8)), none] [av_i b2, av_i b1, av_r b0] s (some (av_i q.1), q.2) := by
  unfold fb_X10_ends_349 at h
  obtain ⟨s8, gs8, h⟩ := Option.bind_eq_some_iff.mp h
  refine ax_iast dX10_ends_349 gs8 ?_
  refine ax_aload_n (i := 0) dX10_ends_350 rfl rfl ?_
  obtain ⟨r9, gr9, h⟩ := Option.bind_eq_some_iff.mp h
  refine ax_getR (q := (RX10, TX10, 28)) (t := 7) (k := 24) dX10_ends_351 rfl (by decide) wd_780 rfl gr9 ?_
  refine ax_iload (i := 7) dX10_ends_354 rfl ?_
  refine ax_iconst (v := (2)) dX10_ends_356 rfl ?_
  refine ax_iadd dX10_ends_357 ?_
  refine ax_iload (i := 8) dX10_ends_358 rfl ?_
  refine ax_if_eq (tgt := 367) dX10_ends_360 (by decide) (fun c10 => ?_) (fun c10 => ?_)
  · rw [if_pos c10] at h
    refine ax_iload (i := 6) dX10_ends_367 rfl ?_
    refine ax_iconst (v := (1)) dX10_ends_369 rfl ?_
    refine ax_icmp_le (tgt := 378) dX10_ends_370 (by decide) (fun c11 => ?_) (fun c11 => ?_)
    · rw [if_pos c11] at h
      refine ax_aload_n (i := 0) dX10_ends_378 rfl rfl ?_
      obtain ⟨r12, gr12, h⟩ := Option.bind_eq_some_iff.mp h
      refine ax_getR (q := (RX10, TX10, 28)) (t := 7) (k := 24) dX10_ends_379 rfl (by decide) wd_780 rfl gr12 ?_
      refine ax_iload (i := 7) dX10_ends_382 rfl ?_
      refine ax_iconst (v := (2)) dX10_ends_384 rfl ?_
      refine ax_iadd dX10_ends_385 ?_
      obtain ⟨x13, gx13, h⟩ := Option.bind_eq_some_iff.mp h
      refine ax_iald dX10_ends_386 gx13 ?_
      exact ax_less (L' := [(some (av_r a0)), none, none, none, none, (some (av_i a5)), (some (av_i a6)), (some (av_i a7)), none, none]) ⟨rfl, rfl, rfl, rfl, trivial⟩ (tb_X10_ends_387  h)
    · rw [if_neg c11] at h
      refine ax_iload (i := 4) dX10_ends_373 rfl ?_
      refine ax_goto (tgt := 387) dX10_ends_375 (by decide) ?_
      exact ax_less (L' := [(some (av_r a0)), none, none, none, none, (some (av_i a5)), (some (av_i a6)), (some (av_i a7)), none, none]) ⟨rfl, rfl, rfl, rfl, trivial⟩ (tb_X10_ends_387  h)
  · rw [if_neg c10] at h
    refine ax_iload_n (i := 2) dX10_ends_363 rfl rfl ?_
    refine ax_goto (tgt := 387) dX10_ends_364 (by decide) ?_
    exact ax_less (L' := [(some (av_r a0)), none, none, none, none, (some (av_i a5)), (some (av_i a6)), (some (av_i a7)), none, none]) ⟨rfl, rfl, rfl, rfl, trivial⟩ (tb_X10_ends_387  h)
def fb_X10_ends_312 (a0 : Option Nat) (a2 : Int32) (a3 : Int32) (a4 : Int32) (a5 : Int32) (a6 : Int32) (a7 : Int32) (a8 : Int32) (b0 : Option Nat) (b1 : Int32) (b2 : Int32) (s : ax_S) : Option (Int32 × ax_S) :=
  (ax_as s 9 b0 b1 b2).bind fun s14 =>
  (ax_gr s14 7 24 a0).bind fun r15 =>
  if a8 = 0 then
    if a6 ≤ (1) then
      (ax_gr s14 7 24 a0).bind fun r18 =>
      (ax_al s14 9 r18 (a7 + (1))).bind fun x19 =>
      fb_X10_ends_349 a0 a2 a4 a5 a6 a7 a8 r15 (a7 + (1)) x19 s14
    else
      fb_X10_ends_349 a0 a2 a4 a5 a6 a7 a8 r15 (a7 + (1)) a3 s14
  else
    fb_X10_ends_349 a0 a2 a4 a5 a6 a7 a8 r15 (a7 + (1)) a2 s14
set_option maxRecDepth 100000 in
set_option maxHeartbeats 4000000 in
theorem tb_X10_ends_312 {q : Int32 × ax_S} {a0 : Option Nat} {a2 : Int32} {a3 : Int32} {a4 : Int32} {a5 : Int32} {a6 : Int32} {a7 : Int32} {a8 : Int32} {b0 : Option Nat} {b1 : Int32} {b2 : Int32} {s : ax_S} (h : fb_X10_ends_312 a0 a2 a3 a4 a5 a6 a7 a8 b0 b1 b2 s = some q) : AW mm_X10_ends 3 0 0 312 [(some (av_r a0)), none, (some (av_i a2)), (some (av_i a3)), (some (av_i a4)), (some (av_i a5)), (some (av_i a6)), (some (av_i a7)), (some (av_i a8)), none] [av_i b2, av_i b1, av_r b0] s (some (av_i q.1), q.2) := by
  unfold fb_X10_ends_312 at h
  obtain ⟨s14, gs14, h⟩ := Option.bind_eq_some_iff.mp h
  refine ax_iast dX10_ends_312 gs14 ?_
  refine ax_aload_n (i := 0) dX10_ends_313 rfl rfl ?_
  obtain ⟨r15, gr15, h⟩ := Option.bind_eq_some_iff.mp h
  refine ax_getR (q := (RX10, TX10, 28)) (t := 7) (k := 24) dX10_ends_314 rfl (by decide) wd_780 rfl gr15 ?_
  refine ax_iload (i := 7) dX10_ends_317 rfl ?_
  refine ax_iconst (v := (1)) dX10_ends_319 rfl ?_
  refine ax_iadd dX10_ends_320 ?_
  refine ax_iload (i := 8) dX10_ends_321 rfl ?_
  refine ax_if_eq (tgt := 330) dX10_ends_323 (by decide) (fun c16 => ?_) (fun c16 => ?_)
  · rw [if_pos c16] at h
    refine ax_iload (i := 6) dX10_ends_330 rfl ?_
    refine ax_iconst (v := (1)) dX10_ends_332 rfl ?_
    refine ax_icmp_le (tgt := 340) dX10_ends_333 (by decide) (fun c17 => ?_) (fun c17 => ?_)
    · rw [if_pos c17] at h
      refine ax_aload_n (i := 0) dX10_ends_340 rfl rfl ?_
      obtain ⟨r18, gr18, h⟩ := Option.bind_eq_some_iff.mp h
      refine ax_getR (q := (RX10, TX10, 28)) (t := 7) (k := 24) dX10_ends_341 rfl (by decide) wd_780 rfl gr18 ?_
      refine ax_iload (i := 7) dX10_ends_344 rfl ?_
      refine ax_iconst (v := (1)) dX10_ends_346 rfl ?_
      refine ax_iadd dX10_ends_347 ?_
      obtain ⟨x19, gx19, h⟩ := Option.bind_eq_some_iff.mp h
      refine ax_iald dX10_ends_348 gx19 ?_
      exact ax_less (L' := [(some (av_r a0)), none, (some (av_i a2)), none, (some (av_i a4)), (some (av_i a5)), (some (av_i a6)), (some (av_i a7)), (some (av_i a8)), none]) ⟨rfl, rfl, rfl, rfl, rfl, rfl, rfl, trivial⟩ (tb_X10_ends_349  h)
    · rw [if_neg c17] at h
      refine ax_iload_n (i := 3) dX10_ends_336 rfl rfl ?_
      refine ax_goto (tgt := 349) dX10_ends_337 (by decide) ?_
      exact ax_less (L' := [(some (av_r a0)), none, (some (av_i a2)), none, (some (av_i a4)), (some (av_i a5)), (some (av_i a6)), (some (av_i a7)), (some (av_i a8)), none]) ⟨rfl, rfl, rfl, rfl, rfl, rfl, rfl, trivial⟩ (tb_X10_ends_349  h)
  · rw [if_neg c16] at h
    refine ax_iload_n (i := 2) dX10_ends_326 rfl rfl ?_
    refine ax_goto (tgt := 349) dX10_ends_327 (by decide) ?_
    exact ax_less (L' := [(some (av_r a0)), none, (some (av_i a2)), none, (some (av_i a4)), (some (av_i a5)), (some (av_i a6)), (some (av_i a7)), (some (av_i a8)), none]) ⟨rfl, rfl, rfl, rfl, rfl, rfl, rfl, trivial⟩ (tb_X10_ends_349  h)
def fb_X10_ends_288 (a0 : Option Nat) (a2 : Int32) (a3 : Int32) (a4 : Int32) (a5 : Int32) (a6 : Int32) (a7 : Int32) (b0 : Int32) (s : ax_S) : Option (Int32 × ax_S) :=
  (ax_gr s 7 24 a0).bind fun r20 =>
  if a6 ≤ 0 then
    (ax_gr s 7 24 a0).bind fun r22 =>
    (ax_al s 9 r22 a7).bind fun x23 =>
    fb_X10_ends_312 a0 a2 a3 a4 a5 a6 a7 b0 r20 a7 x23 s
  else
    fb_X10_ends_312 a0 a2 a3 a4 a5 a6 a7 b0 r20 a7 a2 s
set_option maxRecDepth 100000 in
set_option maxHeartbeats 4000000 in
theorem tb_X10_ends_288 {q : Int32 × ax_S} {a0 : Option Nat} {a2 : Int32} {a3 : Int32} {a4 : Int32} {a5 : Int32} {a6 : Int32} {a7 : Int32} {b0 : Int32} {s : ax_S} (h : fb_X10_ends_288 a0 a2 a3 a4 a5 a6 a7 b0 s = some q) : AW mm_X10_ends 3 0 0 288 [(some (av_r a0)), none, (some (av_i a2)), (some (av_i a3)), (some (av_i a4)), (some (av_i a5)), (some (av_i a6)), (some (av_i a7)), none, none] [av_i b0] s (some (av_i q.1), q.2) := by
  unfold fb_X10_ends_288 at h
  refine ax_istore (i := 8) (L2 := [some (av_r a0), none, some (av_i a2), some (av_i a3), some (av_i a4), some (av_i a5), some (av_i a6), some (av_i a7), some (av_i b0), none]) dX10_ends_288 (by decide) rfl rfl ?_
  refine ax_aload_n (i := 0) dX10_ends_290 rfl rfl ?_
  obtain ⟨r20, gr20, h⟩ := Option.bind_eq_some_iff.mp h
  refine ax_getR (q := (RX10, TX10, 28)) (t := 7) (k := 24) dX10_ends_291 rfl (by decide) wd_780 rfl gr20 ?_
  refine ax_iload (i := 7) dX10_ends_294 rfl ?_
  refine ax_iload (i := 6) dX10_ends_296 rfl ?_
  refine ax_if_le (tgt := 305) dX10_ends_298 (by decide) (fun c21 => ?_) (fun c21 => ?_)
  · rw [if_pos c21] at h
    refine ax_aload_n (i := 0) dX10_ends_305 rfl rfl ?_
    obtain ⟨r22, gr22, h⟩ := Option.bind_eq_some_iff.mp h
    refine ax_getR (q := (RX10, TX10, 28)) (t := 7) (k := 24) dX10_ends_306 rfl (by decide) wd_780 rfl gr22 ?_
    refine ax_iload (i := 7) dX10_ends_309 rfl ?_
    obtain ⟨x23, gx23, h⟩ := Option.bind_eq_some_iff.mp h
    refine ax_iald dX10_ends_311 gx23 ?_
    exact ax_less (L' := [(some (av_r a0)), none, (some (av_i a2)), (some (av_i a3)), (some (av_i a4)), (some (av_i a5)), (some (av_i a6)), (some (av_i a7)), (some (av_i b0)), none]) ⟨rfl, rfl, rfl, rfl, rfl, rfl, rfl, rfl, trivial⟩ (tb_X10_ends_312  h)
  · rw [if_neg c21] at h
    refine ax_iload_n (i := 2) dX10_ends_301 rfl rfl ?_
    refine ax_goto (tgt := 312) dX10_ends_302 (by decide) ?_
    exact ax_less (L' := [(some (av_r a0)), none, (some (av_i a2)), (some (av_i a3)), (some (av_i a4)), (some (av_i a5)), (some (av_i a6)), (some (av_i a7)), (some (av_i b0)), none]) ⟨rfl, rfl, rfl, rfl, rfl, rfl, rfl, rfl, trivial⟩ (tb_X10_ends_312  h)
def fb_X10_ends_283 (a0 : Option Nat) (a2 : Int32) (a3 : Int32) (a4 : Int32) (a5 : Int32) (a6 : Int32) (a7 : Int32) (s : ax_S) : Option (Int32 × ax_S) :=
  fb_X10_ends_288 a0 a2 a3 a4 a5 a6 a7 (1) s
set_option maxRecDepth 100000 in
set_option maxHeartbeats 4000000 in
theorem tb_X10_ends_283 {q : Int32 × ax_S} {a0 : Option Nat} {a2 : Int32} {a3 : Int32} {a4 : Int32} {a5 : Int32} {a6 : Int32} {a7 : Int32} {s : ax_S} (h : fb_X10_ends_283 a0 a2 a3 a4 a5 a6 a7 s = some q) : AW mm_X10_ends 3 0 0 283 [(some (av_r a0)), none, (some (av_i a2)), (some (av_i a3)), (some (av_i a4)), (some (av_i a5)), (some (av_i a6)), (some (av_i a7)), none, none] [] s (some (av_i q.1), q.2) := by
  unfold fb_X10_ends_283 at h
  refine ax_iconst (v := (1)) dX10_ends_283 rfl ?_
  refine ax_goto (tgt := 288) dX10_ends_284 (by decide) ?_
  exact ax_less (L' := [(some (av_r a0)), none, (some (av_i a2)), (some (av_i a3)), (some (av_i a4)), (some (av_i a5)), (some (av_i a6)), (some (av_i a7)), none, none]) ⟨rfl, rfl, rfl, rfl, rfl, rfl, rfl, trivial⟩ (tb_X10_ends_288  h)
def fb_X10_ends_223 (k98 : Option Nat → Int32 → Int32 → Int32 → Int32 → Int32 → Int32 → Int32 → ax_S → Option (Int32 × ax_S)) (a0 : Option Nat) (a1 : Int32) (a2 : Int32) (a3 : Int32) (a5 : Int32) (a6 : Int32) (a7 : Int32) (a9 : Int32) (b0 : Int32) (s : ax_S) : Option (Int32 × ax_S) :=
  if a7 = (3) then
    k98 a0 a1 a2 a3 b0 a9 a6 (a7 + (1)) s
  else
    k98 a0 a1 a2 a3 b0 a5 a6 (a7 + (1)) s
set_option maxRecDepth 100000 in
set_option maxHeartbeats 4000000 in
theorem tb_X10_ends_223 {q : Int32 × ax_S} {k98 : Option Nat → Int32 → Int32 → Int32 → Int32 → Int32 → Int32 → Int32 → ax_S → Option (Int32 × ax_S)} (hk98 : ∀ (a0 : Option Nat) (a1 : Int32) (a2 : Int32) (a3 : Int32) (a4 : Int32) (a5 : Int32) (a6 : Int32) (a7 : Int32) (s : ax_S), k98 a0 a1 a2 a3 a4 a5 a6 a7 s = some q → AW mm_X10_ends 3 0 0 98 [(some (av_r a0)), (some (av_i a1)), (some (av_i a2)), (some (av_i a3)), (some (av_i a4)), (some (av_i a5)), (some (av_i a6)), (some (av_i a7)), none, none] [] s (some (av_i q.1), q.2)) {a0 : Option Nat} {a1 : Int32} {a2 : Int32} {a3 : Int32} {a5 : Int32} {a6 : Int32} {a7 : Int32} {a9 : Int32} {b0 : Int32} {s : ax_S} (h : fb_X10_ends_223 k98 a0 a1 a2 a3 a5 a6 a7 a9 b0 s = some q) : AW mm_X10_ends 3 0 0 223 [(some (av_r a0)), (some (av_i a1)), (some (av_i a2)), (some (av_i a3)), none, (some (av_i a5)), (some (av_i a6)), (some (av_i a7)), none, (some (av_i a9))] [av_i b0] s (some (av_i q.1), q.2) := by
  unfold fb_X10_ends_223 at h
  refine ax_istore (i := 4) (L2 := [some (av_r a0), some (av_i a1), some (av_i a2), some (av_i a3), some (av_i b0), some (av_i a5), some (av_i a6), some (av_i a7), none, some (av_i a9)]) dX10_ends_223 (by decide) rfl rfl ?_
  refine ax_iload (i := 7) dX10_ends_225 rfl ?_
  refine ax_iconst (v := (3)) dX10_ends_227 rfl ?_
  refine ax_icmp_ne (tgt := 236) dX10_ends_228 (by decide) (fun c24 => ?_) (fun c24 => ?_)
  · rw [if_neg c24] at h
    refine ax_iload (i := 5) dX10_ends_236 rfl ?_
    refine ax_istore (i := 5) (L2 := [some (av_r a0), some (av_i a1), some (av_i a2), some (av_i a3), some (av_i b0), some (av_i a5), some (av_i a6), some (av_i a7), none, some (av_i a9)]) dX10_ends_238 (by decide) rfl rfl ?_
    refine ax_iinc (i := 7) (v := (a7 + (1))) (L2 := [some (av_r a0), some (av_i a1), some (av_i a2), some (av_i a3), some (av_i b0), some (av_i a5), some (av_i a6), some (av_i (a7 + (1))), none, some (av_i a9)]) dX10_ends_240 rfl rfl (by decide) rfl rfl ?_
    refine ax_goto (tgt := 98) dX10_ends_243 (by decide) ?_
    exact ax_less (L' := [(some (av_r a0)), (some (av_i a1)), (some (av_i a2)), (some (av_i a3)), (some (av_i b0)), (some (av_i a5)), (some (av_i a6)), (some (av_i (a7 + (1)))), none, none]) ⟨rfl, rfl, rfl, rfl, rfl, rfl, rfl, rfl, trivial⟩ (hk98 _ _ _ _ _ _ _ _ _ h)
  · rw [if_pos c24] at h
    refine ax_iload (i := 9) dX10_ends_231 rfl ?_
    refine ax_goto (tgt := 238) dX10_ends_233 (by decide) ?_
    refine ax_istore (i := 5) (L2 := [some (av_r a0), some (av_i a1), some (av_i a2), some (av_i a3), some (av_i b0), some (av_i a9), some (av_i a6), some (av_i a7), none, some (av_i a9)]) dX10_ends_238 (by decide) rfl rfl ?_
    refine ax_iinc (i := 7) (v := (a7 + (1))) (L2 := [some (av_r a0), some (av_i a1), some (av_i a2), some (av_i a3), some (av_i b0), some (av_i a9), some (av_i a6), some (av_i (a7 + (1))), none, some (av_i a9)]) dX10_ends_240 rfl rfl (by decide) rfl rfl ?_
    refine ax_goto (tgt := 98) dX10_ends_243 (by decide) ?_
    exact ax_less (L' := [(some (av_r a0)), (some (av_i a1)), (some (av_i a2)), (some (av_i a3)), (some (av_i b0)), (some (av_i a9)), (some (av_i a6)), (some (av_i (a7 + (1)))), none, none]) ⟨rfl, rfl, rfl, rfl, rfl, rfl, rfl, rfl, trivial⟩ (hk98 _ _ _ _ _ _ _ _ _ h)
def fb_X10_ends_209 (k98 : Option Nat → Int32 → Int32 → Int32 → Int32 → Int32 → Int32 → Int32 → ax_S → Option (Int32 × ax_S)) (a0 : Option Nat) (a1 : Int32) (a2 : Int32) (a4 : Int32) (a5 : Int32) (a6 : Int32) (a7 : Int32) (a9 : Int32) (b0 : Int32) (s : ax_S) : Option (Int32 × ax_S) :=
  if a7 = (2) then
    fb_X10_ends_223 k98 a0 a1 a2 b0 a5 a6 a7 a9 a9 s
  else
    fb_X10_ends_223 k98 a0 a1 a2 b0 a5 a6 a7 a9 a4 s
set_option maxRecDepth 100000 in
set_option maxHeartbeats 4000000 in
theorem tb_X10_ends_209 {q : Int32 × ax_S} {k98 : Option Nat → Int32 → Int32 → Int32 → Int32 → Int32 → Int32 → Int32 → ax_S → Option (Int32 × ax_S)} (hk98 : ∀ (a0 : Option Nat) (a1 : Int32) (a2 : Int32) (a3 : Int32) (a4 : Int32) (a5 : Int32) (a6 : Int32) (a7 : Int32) (s : ax_S), k98 a0 a1 a2 a3 a4 a5 a6 a7 s = some q → AW mm_X10_ends 3 0 0 98 [(some (av_r a0)), (some (av_i a1)), (some (av_i a2)), (some (av_i a3)), (some (av_i a4)), (some (av_i a5)), (some (av_i a6)), (some (av_i a7)), none, none] [] s (some (av_i q.1), q.2)) {a0 : Option Nat} {a1 : Int32} {a2 : Int32} {a4 : Int32} {a5 : Int32} {a6 : Int32} {a7 : Int32} {a9 : Int32} {b0 : Int32} {s : ax_S} (h : fb_X10_ends_209 k98 a0 a1 a2 a4 a5 a6 a7 a9 b0 s = some q) : AW mm_X10_ends 3 0 0 209 [(some (av_r a0)), (some (av_i a1)), (some (av_i a2)), none, (some (av_i a4)), (some (av_i a5)), (some (av_i a6)), (some (av_i a7)), none, (some (av_i a9))] [av_i b0] s (some (av_i q.1), q.2) := by
  unfold fb_X10_ends_209 at h
  refine ax_istore_n (i := 3) (L2 := [some (av_r a0), some (av_i a1), some (av_i a2), some (av_i b0), some (av_i a4), some (av_i a5), some (av_i a6), some (av_i a7), none, some (av_i a9)]) dX10_ends_209 rfl (by decide) rfl rfl ?_
  refine ax_iload (i := 7) dX10_ends_210 rfl ?_
  refine ax_iconst (v := (2)) dX10_ends_212 rfl ?_
  refine ax_icmp_ne (tgt := 221) dX10_ends_213 (by decide) (fun c25 => ?_) (fun c25 => ?_)
  · rw [if_neg c25] at h
    refine ax_iload (i := 4) dX10_ends_221 rfl ?_
    exact ax_less (L' := [(some (av_r a0)), (some (av_i a1)), (some (av_i a2)), (some (av_i b0)), none, (some (av_i a5)), (some (av_i a6)), (some (av_i a7)), none, (some (av_i a9))]) ⟨rfl, rfl, rfl, rfl, rfl, rfl, rfl, rfl, trivial⟩ (tb_X10_ends_223 hk98 h)
  · rw [if_pos c25] at h
    refine ax_iload (i := 9) dX10_ends_216 rfl ?_
    refine ax_goto (tgt := 223) dX10_ends_218 (by decide) ?_
    exact ax_less (L' := [(some (av_r a0)), (some (av_i a1)), (some (av_i a2)), (some (av_i b0)), none, (some (av_i a5)), (some (av_i a6)), (some (av_i a7)), none, (some (av_i a9))]) ⟨rfl, rfl, rfl, rfl, rfl, rfl, rfl, rfl, trivial⟩ (tb_X10_ends_223 hk98 h)
def fb_X10_ends_196 (k98 : Option Nat → Int32 → Int32 → Int32 → Int32 → Int32 → Int32 → Int32 → ax_S → Option (Int32 × ax_S)) (a0 : Option Nat) (a1 : Int32) (a3 : Int32) (a4 : Int32) (a5 : Int32) (a6 : Int32) (a7 : Int32) (a9 : Int32) (b0 : Int32) (s : ax_S) : Option (Int32 × ax_S) :=
  if a7 = (1) then
    fb_X10_ends_209 k98 a0 a1 b0 a4 a5 a6 a7 a9 a9 s
  else
    fb_X10_ends_209 k98 a0 a1 b0 a4 a5 a6 a7 a9 a3 s
set_option maxRecDepth 100000 in
set_option maxHeartbeats 4000000 in
theorem tb_X10_ends_196 {q : Int32 × ax_S} {k98 : Option Nat → Int32 → Int32 → Int32 → Int32 → Int32 → Int32 → Int32 → ax_S → Option (Int32 × ax_S)} (hk98 : ∀ (a0 : Option Nat) (a1 : Int32) (a2 : Int32) (a3 : Int32) (a4 : Int32) (a5 : Int32) (a6 : Int32) (a7 : Int32) (s : ax_S), k98 a0 a1 a2 a3 a4 a5 a6 a7 s = some q → AW mm_X10_ends 3 0 0 98 [(some (av_r a0)), (some (av_i a1)), (some (av_i a2)), (some (av_i a3)), (some (av_i a4)), (some (av_i a5)), (some (av_i a6)), (some (av_i a7)), none, none] [] s (some (av_i q.1), q.2)) {a0 : Option Nat} {a1 : Int32} {a3 : Int32} {a4 : Int32} {a5 : Int32} {a6 : Int32} {a7 : Int32} {a9 : Int32} {b0 : Int32} {s : ax_S} (h : fb_X10_ends_196 k98 a0 a1 a3 a4 a5 a6 a7 a9 b0 s = some q) : AW mm_X10_ends 3 0 0 196 [(some (av_r a0)), (some (av_i a1)), none, (some (av_i a3)), (some (av_i a4)), (some (av_i a5)), (some (av_i a6)), (some (av_i a7)), none, (some (av_i a9))] [av_i b0] s (some (av_i q.1), q.2) := by
  unfold fb_X10_ends_196 at h
  refine ax_istore_n (i := 2) (L2 := [some (av_r a0), some (av_i a1), some (av_i b0), some (av_i a3), some (av_i a4), some (av_i a5), some (av_i a6), some (av_i a7), none, some (av_i a9)]) dX10_ends_196 rfl (by decide) rfl rfl ?_
  refine ax_iload (i := 7) dX10_ends_197 rfl ?_
  refine ax_iconst (v := (1)) dX10_ends_199 rfl ?_
  refine ax_icmp_ne (tgt := 208) dX10_ends_200 (by decide) (fun c26 => ?_) (fun c26 => ?_)
  · rw [if_neg c26] at h
    refine ax_iload_n (i := 3) dX10_ends_208 rfl rfl ?_
    exact ax_less (L' := [(some (av_r a0)), (some (av_i a1)), (some (av_i b0)), none, (some (av_i a4)), (some (av_i a5)), (some (av_i a6)), (some (av_i a7)), none, (some (av_i a9))]) ⟨rfl, rfl, rfl, rfl, rfl, rfl, rfl, rfl, trivial⟩ (tb_X10_ends_209 hk98 h)
  · rw [if_pos c26] at h
    refine ax_iload (i := 9) dX10_ends_203 rfl ?_
    refine ax_goto (tgt := 209) dX10_ends_205 (by decide) ?_
    exact ax_less (L' := [(some (av_r a0)), (some (av_i a1)), (some (av_i b0)), none, (some (av_i a4)), (some (av_i a5)), (some (av_i a6)), (some (av_i a7)), none, (some (av_i a9))]) ⟨rfl, rfl, rfl, rfl, rfl, rfl, rfl, rfl, trivial⟩ (tb_X10_ends_209 hk98 h)
def fb_X10_ends_183 (k98 : Option Nat → Int32 → Int32 → Int32 → Int32 → Int32 → Int32 → Int32 → ax_S → Option (Int32 × ax_S)) (a0 : Option Nat) (a1 : Int32) (a2 : Int32) (a3 : Int32) (a4 : Int32) (a5 : Int32) (a6 : Int32) (a7 : Int32) (b0 : Int32) (s : ax_S) : Option (Int32 × ax_S) :=
  if a7 = 0 then
    fb_X10_ends_196 k98 a0 a1 a3 a4 a5 a6 a7 b0 b0 s
  else
    fb_X10_ends_196 k98 a0 a1 a3 a4 a5 a6 a7 b0 a2 s
set_option maxRecDepth 100000 in
set_option maxHeartbeats 4000000 in
theorem tb_X10_ends_183 {q : Int32 × ax_S} {k98 : Option Nat → Int32 → Int32 → Int32 → Int32 → Int32 → Int32 → Int32 → ax_S → Option (Int32 × ax_S)} (hk98 : ∀ (a0 : Option Nat) (a1 : Int32) (a2 : Int32) (a3 : Int32) (a4 : Int32) (a5 : Int32) (a6 : Int32) (a7 : Int32) (s : ax_S), k98 a0 a1 a2 a3 a4 a5 a6 a7 s = some q → AW mm_X10_ends 3 0 0 98 [(some (av_r a0)), (some (av_i a1)), (some (av_i a2)), (some (av_i a3)), (some (av_i a4)), (some (av_i a5)), (some (av_i a6)), (some (av_i a7)), none, none] [] s (some (av_i q.1), q.2)) {a0 : Option Nat} {a1 : Int32} {a2 : Int32} {a3 : Int32} {a4 : Int32} {a5 : Int32} {a6 : Int32} {a7 : Int32} {b0 : Int32} {s : ax_S} (h : fb_X10_ends_183 k98 a0 a1 a2 a3 a4 a5 a6 a7 b0 s = some q) : AW mm_X10_ends 3 0 0 183 [(some (av_r a0)), (some (av_i a1)), (some (av_i a2)), (some (av_i a3)), (some (av_i a4)), (some (av_i a5)), (some (av_i a6)), (some (av_i a7)), none, none] [av_i b0] s (some (av_i q.1), q.2) := by
  unfold fb_X10_ends_183 at h
  refine ax_istore (i := 9) (L2 := [some (av_r a0), some (av_i a1), some (av_i a2), some (av_i a3), some (av_i a4), some (av_i a5), some (av_i a6), some (av_i a7), none, some (av_i b0)]) dX10_ends_183 (by decide) rfl rfl ?_
  refine ax_iload (i := 7) dX10_ends_185 rfl ?_
  refine ax_if_ne (tgt := 195) dX10_ends_187 (by decide) (fun c27 => ?_) (fun c27 => ?_)
  · rw [if_neg c27] at h
    refine ax_iload_n (i := 2) dX10_ends_195 rfl rfl ?_
    exact ax_less (L' := [(some (av_r a0)), (some (av_i a1)), none, (some (av_i a3)), (some (av_i a4)), (some (av_i a5)), (some (av_i a6)), (some (av_i a7)), none, (some (av_i b0))]) ⟨rfl, rfl, rfl, rfl, rfl, rfl, rfl, rfl, trivial⟩ (tb_X10_ends_196 hk98 h)
  · rw [if_pos c27] at h
    refine ax_iload (i := 9) dX10_ends_190 rfl ?_
    refine ax_goto (tgt := 196) dX10_ends_192 (by decide) ?_
    exact ax_less (L' := [(some (av_r a0)), (some (av_i a1)), none, (some (av_i a3)), (some (av_i a4)), (some (av_i a5)), (some (av_i a6)), (some (av_i a7)), none, (some (av_i b0))]) ⟨rfl, rfl, rfl, rfl, rfl, rfl, rfl, rfl, trivial⟩ (tb_X10_ends_196 hk98 h)
def fb_X10_ends_152 (k98 : Option Nat → Int32 → Int32 → Int32 → Int32 → Int32 → Int32 → Int32 → ax_S → Option (Int32 × ax_S)) (a0 : Option Nat) (a1 : Int32) (a2 : Int32) (a3 : Int32) (a4 : Int32) (a5 : Int32) (a6 : Int32) (a7 : Int32) (a8 : Int32) (b0 : Option Nat) (b1 : Int32) (s : ax_S) : Option (Int32 × ax_S) :=
  (fn_X10_high a1 a7 s).bind fun q28 =>
  (ax_sh q28.2 7 b0).bind fun w29 =>
  (fn_X10_number b0 b1 q28.1 q28.2).bind fun q30 =>
  if q30.1 = 0 then
    some ((0), q30.2)
  else
    if a8 = 0 then
      (ax_gi q30.2 7 21 a0).bind fun x33 =>
      fb_X10_ends_183 k98 a0 a1 a2 a3 a4 a5 a6 a7 x33 q30.2
    else
      (ax_gi q30.2 7 21 a0).bind fun x34 =>
      fb_X10_ends_183 k98 a0 a1 a2 a3 a4 a5 a6 a7 (-x34) q30.2
set_option maxRecDepth 100000 in
set_option maxHeartbeats 4000000 in
theorem tb_X10_ends_152 {q : Int32 × ax_S} {k98 : Option Nat → Int32 → Int32 → Int32 → Int32 → Int32 → Int32 → Int32 → ax_S → Option (Int32 × ax_S)} (hk98 : ∀ (a0 : Option Nat) (a1 : Int32) (a2 : Int32) (a3 : Int32) (a4 : Int32) (a5 : Int32) (a6 : Int32) (a7 : Int32) (s : ax_S), k98 a0 a1 a2 a3 a4 a5 a6 a7 s = some q → AW mm_X10_ends 3 0 0 98 [(some (av_r a0)), (some (av_i a1)), (some (av_i a2)), (some (av_i a3)), (some (av_i a4)), (some (av_i a5)), (some (av_i a6)), (some (av_i a7)), none, none] [] s (some (av_i q.1), q.2)) {a0 : Option Nat} {a1 : Int32} {a2 : Int32} {a3 : Int32} {a4 : Int32} {a5 : Int32} {a6 : Int32} {a7 : Int32} {a8 : Int32} {b0 : Option Nat} {b1 : Int32} {s : ax_S} (h : fb_X10_ends_152 k98 a0 a1 a2 a3 a4 a5 a6 a7 a8 b0 b1 s = some q) : AW mm_X10_ends 3 0 0 152 [(some (av_r a0)), (some (av_i a1)), (some (av_i a2)), (some (av_i a3)), (some (av_i a4)), (some (av_i a5)), (some (av_i a6)), (some (av_i a7)), (some (av_i a8)), none] [av_i b1, av_r b0] s (some (av_i q.1), q.2) := by
  unfold fb_X10_ends_152 at h
  refine ax_iload_n (i := 1) dX10_ends_152 rfl rfl ?_
  refine ax_iload (i := 7) dX10_ends_153 rfl ?_
  obtain ⟨q28, gq28, h⟩ := Option.bind_eq_some_iff.mp h
  refine ax_cS (As := [av_i a1, av_i a7]) dX10_ends_155 (th_X10_high gq28) (And.intro wd_903 wd_59) wd_901 wd_902 cy_X10_high (by omega) (by decide) (Nat.le_of_ble_eq_true rfl) rfl ?_
  obtain ⟨w29, gw29, h⟩ := Option.bind_eq_some_iff.mp h
  obtain ⟨q30, gq30, h⟩ := Option.bind_eq_some_iff.mp h
  refine ax_cV (As := [av_i b1, av_i q28.1]) (t := 7) dX10_ends_158 gw29 (th_X10_number gq30) rfl (And.intro wd_1072 wd_59) wd_1069 wd_1071 wd_48 cy_X10_number (by omega) (by decide) (Nat.le_of_ble_eq_true rfl) rfl ?_
  refine ax_if_ne (tgt := 166) dX10_ends_161 (by decide) (fun c31 => ?_) (fun c31 => ?_)
  · rw [if_neg c31] at h
    refine ax_iload (i := 8) dX10_ends_166 rfl ?_
    refine ax_if_eq (tgt := 179) dX10_ends_168 (by decide) (fun c32 => ?_) (fun c32 => ?_)
    · rw [if_pos c32] at h
      refine ax_aload_n (i := 0) dX10_ends_179 rfl rfl ?_
      obtain ⟨x33, gx33, h⟩ := Option.bind_eq_some_iff.mp h
      refine ax_getI (q := (RX10, TX10, 28)) (t := 7) (k := 21) dX10_ends_180 rfl (by decide) wd_777 rfl gx33 ?_
      exact ax_less (L' := [(some (av_r a0)), (some (av_i a1)), (some (av_i a2)), (some (av_i a3)), (some (av_i a4)), (some (av_i a5)), (some (av_i a6)), (some (av_i a7)), none, none]) ⟨rfl, rfl, rfl, rfl, rfl, rfl, rfl, rfl, trivial⟩ (tb_X10_ends_183 hk98 h)
    · rw [if_neg c32] at h
      refine ax_aload_n (i := 0) dX10_ends_171 rfl rfl ?_
      obtain ⟨x34, gx34, h⟩ := Option.bind_eq_some_iff.mp h
      refine ax_getI (q := (RX10, TX10, 28)) (t := 7) (k := 21) dX10_ends_172 rfl (by decide) wd_777 rfl gx34 ?_
      refine ax_ineg dX10_ends_175 ?_
      refine ax_goto (tgt := 183) dX10_ends_176 (by decide) ?_
      exact ax_less (L' := [(some (av_r a0)), (some (av_i a1)), (some (av_i a2)), (some (av_i a3)), (some (av_i a4)), (some (av_i a5)), (some (av_i a6)), (some (av_i a7)), none, none]) ⟨rfl, rfl, rfl, rfl, rfl, rfl, rfl, rfl, trivial⟩ (tb_X10_ends_183 hk98 h)
  · rw [if_pos c31] at h
    refine ax_iconst (v := (0)) dX10_ends_164 rfl ?_
    exact ax_reti dX10_ends_165 h
def fb_X10_ends_139 (k98 : Option Nat → Int32 → Int32 → Int32 → Int32 → Int32 → Int32 → Int32 → ax_S → Option (Int32 × ax_S)) (a0 : Option Nat) (a1 : Int32) (a2 : Int32) (a3 : Int32) (a4 : Int32) (a5 : Int32) (a6 : Int32) (a7 : Int32) (b0 : Int32) (s : ax_S) : Option (Int32 × ax_S) :=
  if b0 = 0 then
    fb_X10_ends_152 k98 a0 a1 a2 a3 a4 a5 a6 a7 b0 a0 (0) s
  else
    fb_X10_ends_152 k98 a0 a1 a2 a3 a4 a5 a6 a7 b0 a0 (1) s
set_option maxRecDepth 100000 in
set_option maxHeartbeats 4000000 in
theorem tb_X10_ends_139 {q : Int32 × ax_S} {k98 : Option Nat → Int32 → Int32 → Int32 → Int32 → Int32 → Int32 → Int32 → ax_S → Option (Int32 × ax_S)} (hk98 : ∀ (a0 : Option Nat) (a1 : Int32) (a2 : Int32) (a3 : Int32) (a4 : Int32) (a5 : Int32) (a6 : Int32) (a7 : Int32) (s : ax_S), k98 a0 a1 a2 a3 a4 a5 a6 a7 s = some q → AW mm_X10_ends 3 0 0 98 [(some (av_r a0)), (some (av_i a1)), (some (av_i a2)), (some (av_i a3)), (some (av_i a4)), (some (av_i a5)), (some (av_i a6)), (some (av_i a7)), none, none] [] s (some (av_i q.1), q.2)) {a0 : Option Nat} {a1 : Int32} {a2 : Int32} {a3 : Int32} {a4 : Int32} {a5 : Int32} {a6 : Int32} {a7 : Int32} {b0 : Int32} {s : ax_S} (h : fb_X10_ends_139 k98 a0 a1 a2 a3 a4 a5 a6 a7 b0 s = some q) : AW mm_X10_ends 3 0 0 139 [(some (av_r a0)), (some (av_i a1)), (some (av_i a2)), (some (av_i a3)), (some (av_i a4)), (some (av_i a5)), (some (av_i a6)), (some (av_i a7)), none, none] [av_i b0] s (some (av_i q.1), q.2) := by
  unfold fb_X10_ends_139 at h
  refine ax_istore (i := 8) (L2 := [some (av_r a0), some (av_i a1), some (av_i a2), some (av_i a3), some (av_i a4), some (av_i a5), some (av_i a6), some (av_i a7), some (av_i b0), none]) dX10_ends_139 (by decide) rfl rfl ?_
  refine ax_aload_n (i := 0) dX10_ends_141 rfl rfl ?_
  refine ax_iload (i := 8) dX10_ends_142 rfl ?_
  refine ax_if_eq (tgt := 151) dX10_ends_144 (by decide) (fun c35 => ?_) (fun c35 => ?_)
  · rw [if_pos c35] at h
    refine ax_iconst (v := (0)) dX10_ends_151 rfl ?_
    exact ax_less (L' := [(some (av_r a0)), (some (av_i a1)), (some (av_i a2)), (some (av_i a3)), (some (av_i a4)), (some (av_i a5)), (some (av_i a6)), (some (av_i a7)), (some (av_i b0)), none]) ⟨rfl, rfl, rfl, rfl, rfl, rfl, rfl, rfl, rfl, trivial⟩ (tb_X10_ends_152 hk98 h)
  · rw [if_neg c35] at h
    refine ax_iconst (v := (1)) dX10_ends_147 rfl ?_
    refine ax_goto (tgt := 152) dX10_ends_148 (by decide) ?_
    exact ax_less (L' := [(some (av_r a0)), (some (av_i a1)), (some (av_i a2)), (some (av_i a3)), (some (av_i a4)), (some (av_i a5)), (some (av_i a6)), (some (av_i a7)), (some (av_i b0)), none]) ⟨rfl, rfl, rfl, rfl, rfl, rfl, rfl, rfl, rfl, trivial⟩ (tb_X10_ends_152 hk98 h)
def fb_X10_ends_138 (k98 : Option Nat → Int32 → Int32 → Int32 → Int32 → Int32 → Int32 → Int32 → ax_S → Option (Int32 × ax_S)) (a0 : Option Nat) (a1 : Int32) (a2 : Int32) (a3 : Int32) (a4 : Int32) (a5 : Int32) (a6 : Int32) (a7 : Int32) (s : ax_S) : Option (Int32 × ax_S) :=
  fb_X10_ends_139 k98 a0 a1 a2 a3 a4 a5 a6 a7 (0) s
set_option maxRecDepth 100000 in
set_option maxHeartbeats 4000000 in
theorem tb_X10_ends_138 {q : Int32 × ax_S} {k98 : Option Nat → Int32 → Int32 → Int32 → Int32 → Int32 → Int32 → Int32 → ax_S → Option (Int32 × ax_S)} (hk98 : ∀ (a0 : Option Nat) (a1 : Int32) (a2 : Int32) (a3 : Int32) (a4 : Int32) (a5 : Int32) (a6 : Int32) (a7 : Int32) (s : ax_S), k98 a0 a1 a2 a3 a4 a5 a6 a7 s = some q → AW mm_X10_ends 3 0 0 98 [(some (av_r a0)), (some (av_i a1)), (some (av_i a2)), (some (av_i a3)), (some (av_i a4)), (some (av_i a5)), (some (av_i a6)), (some (av_i a7)), none, none] [] s (some (av_i q.1), q.2)) {a0 : Option Nat} {a1 : Int32} {a2 : Int32} {a3 : Int32} {a4 : Int32} {a5 : Int32} {a6 : Int32} {a7 : Int32} {s : ax_S} (h : fb_X10_ends_138 k98 a0 a1 a2 a3 a4 a5 a6 a7 s = some q) : AW mm_X10_ends 3 0 0 138 [(some (av_r a0)), (some (av_i a1)), (some (av_i a2)), (some (av_i a3)), (some (av_i a4)), (some (av_i a5)), (some (av_i a6)), (some (av_i a7)), none, none] [] s (some (av_i q.1), q.2) := by
  unfold fb_X10_ends_138 at h
  refine ax_iconst (v := (0)) dX10_ends_138 rfl ?_
  exact ax_less (L' := [(some (av_r a0)), (some (av_i a1)), (some (av_i a2)), (some (av_i a3)), (some (av_i a4)), (some (av_i a5)), (some (av_i a6)), (some (av_i a7)), none, none]) ⟨rfl, rfl, rfl, rfl, rfl, rfl, rfl, rfl, trivial⟩ (tb_X10_ends_139 hk98 h)
def fb_X10_ends_120 (k98 : Option Nat → Int32 → Int32 → Int32 → Int32 → Int32 → Int32 → Int32 → ax_S → Option (Int32 × ax_S)) (a0 : Option Nat) (a1 : Int32) (a2 : Int32) (a3 : Int32) (a4 : Int32) (a5 : Int32) (a6 : Int32) (a7 : Int32) (s : ax_S) : Option (Int32 × ax_S) :=
  if a1 = (2) then
    (ax_sh s 7 a0).bind fun w37 =>
    (fn_X10_takes a0 (45) s).bind fun q38 =>
    if q38.1 = 0 then
      fb_X10_ends_138 k98 a0 a1 a2 a3 a4 a5 a6 a7 q38.2
    else
      fb_X10_ends_139 k98 a0 a1 a2 a3 a4 a5 a6 a7 (1) q38.2
  else
    fb_X10_ends_138 k98 a0 a1 a2 a3 a4 a5 a6 a7 s
set_option maxRecDepth 100000 in
set_option maxHeartbeats 4000000 in
theorem tb_X10_ends_120 {q : Int32 × ax_S} {k98 : Option Nat → Int32 → Int32 → Int32 → Int32 → Int32 → Int32 → Int32 → ax_S → Option (Int32 × ax_S)} (hk98 : ∀ (a0 : Option Nat) (a1 : Int32) (a2 : Int32) (a3 : Int32) (a4 : Int32) (a5 : Int32) (a6 : Int32) (a7 : Int32) (s : ax_S), k98 a0 a1 a2 a3 a4 a5 a6 a7 s = some q → AW mm_X10_ends 3 0 0 98 [(some (av_r a0)), (some (av_i a1)), (some (av_i a2)), (some (av_i a3)), (some (av_i a4)), (some (av_i a5)), (some (av_i a6)), (some (av_i a7)), none, none] [] s (some (av_i q.1), q.2)) {a0 : Option Nat} {a1 : Int32} {a2 : Int32} {a3 : Int32} {a4 : Int32} {a5 : Int32} {a6 : Int32} {a7 : Int32} {s : ax_S} (h : fb_X10_ends_120 k98 a0 a1 a2 a3 a4 a5 a6 a7 s = some q) : AW mm_X10_ends 3 0 0 120 [(some (av_r a0)), (some (av_i a1)), (some (av_i a2)), (some (av_i a3)), (some (av_i a4)), (some (av_i a5)), (some (av_i a6)), (some (av_i a7)), none, none] [] s (some (av_i q.1), q.2) := by
  unfold fb_X10_ends_120 at h
  refine ax_iload_n (i := 1) dX10_ends_120 rfl rfl ?_
  refine ax_iconst (v := (2)) dX10_ends_121 rfl ?_
  refine ax_icmp_ne (tgt := 138) dX10_ends_122 (by decide) (fun c36 => ?_) (fun c36 => ?_)
  · rw [if_neg c36] at h
    exact ax_less (L' := [(some (av_r a0)), (some (av_i a1)), (some (av_i a2)), (some (av_i a3)), (some (av_i a4)), (some (av_i a5)), (some (av_i a6)), (some (av_i a7)), none, none]) ⟨rfl, rfl, rfl, rfl, rfl, rfl, rfl, rfl, trivial⟩ (tb_X10_ends_138 hk98 h)
  · rw [if_pos c36] at h
    refine ax_aload_n (i := 0) dX10_ends_125 rfl rfl ?_
    refine ax_bipush (v := (45)) dX10_ends_126 rfl ?_
    obtain ⟨w37, gw37, h⟩ := Option.bind_eq_some_iff.mp h
    obtain ⟨q38, gq38, h⟩ := Option.bind_eq_some_iff.mp h
    refine ax_cV (As := [av_i (45)]) (t := 7) dX10_ends_128 gw37 (th_X10_takes gq38) rfl (And.intro wd_1064 wd_59) wd_1061 wd_1063 wd_46 cy_X10_takes (by omega) (by decide) (Nat.le_of_ble_eq_true rfl) rfl ?_
    refine ax_if_eq (tgt := 138) dX10_ends_131 (by decide) (fun c39 => ?_) (fun c39 => ?_)
    · rw [if_pos c39] at h
      exact ax_less (L' := [(some (av_r a0)), (some (av_i a1)), (some (av_i a2)), (some (av_i a3)), (some (av_i a4)), (some (av_i a5)), (some (av_i a6)), (some (av_i a7)), none, none]) ⟨rfl, rfl, rfl, rfl, rfl, rfl, rfl, rfl, trivial⟩ (tb_X10_ends_138 hk98 h)
    · rw [if_neg c39] at h
      refine ax_iconst (v := (1)) dX10_ends_134 rfl ?_
      refine ax_goto (tgt := 139) dX10_ends_135 (by decide) ?_
      exact ax_less (L' := [(some (av_r a0)), (some (av_i a1)), (some (av_i a2)), (some (av_i a3)), (some (av_i a4)), (some (av_i a5)), (some (av_i a6)), (some (av_i a7)), none, none]) ⟨rfl, rfl, rfl, rfl, rfl, rfl, rfl, rfl, trivial⟩ (tb_X10_ends_139 hk98 h)
def fb_X10_ends_98 : Nat → Option Nat → Int32 → Int32 → Int32 → Int32 → Int32 → Int32 → Int32 → ax_S → Option (Int32 × ax_S)
  | 0, _, _, _, _, _, _, _, _, _ => none
  | n + 1, a0, a1, a2, a3, a4, a5, a6, a7, s =>
    if a6 ≤ a7 then
      (ax_sh s 7 a0).bind fun w41 =>
      (fn_X10_takes a0 (41) s).bind fun q42 =>
      if q42.1 = 0 then
        some ((0), q42.2)
      else
        (ax_sh q42.2 7 a0).bind fun w44 =>
        (fn_X10_tells a0 a1 q42.2).bind fun q45 =>
        (ax_gi q45 7 25 a0).bind fun x46 =>
        ax_bd ((((8) * x46) - (4))) fun v47 =>
        if a1 = (1) then
          fb_X10_ends_283 a0 a2 a3 a4 a5 a6 v47 q45
        else
          if a1 = (2) then
            fb_X10_ends_283 a0 a2 a3 a4 a5 a6 v47 q45
          else
            fb_X10_ends_288 a0 a2 a3 a4 a5 a6 v47 (0) q45
    else
      if a1 = 0 then
        fb_X10_ends_120 (fb_X10_ends_98 n) a0 a1 a2 a3 a4 a5 a6 a7 s
      else
        (ax_sh s 7 a0).bind fun w51 =>
        (fn_X10_takes a0 (44) s).bind fun q52 =>
        if q52.1 = 0 then
          some ((0), q52.2)
        else
          fb_X10_ends_120 (fb_X10_ends_98 n) a0 a1 a2 a3 a4 a5 a6 a7 q52.2
set_option maxRecDepth 100000 in
set_option maxHeartbeats 4000000 in
theorem tb_X10_ends_98 {q : Int32 × ax_S} : ∀ (n : Nat) (a0 : Option Nat) (a1 : Int32) (a2 : Int32) (a3 : Int32) (a4 : Int32) (a5 : Int32) (a6 : Int32) (a7 : Int32) (s : ax_S) (h : fb_X10_ends_98 n a0 a1 a2 a3 a4 a5 a6 a7 s = some q), AW mm_X10_ends 3 0 0 98 [(some (av_r a0)), (some (av_i a1)), (some (av_i a2)), (some (av_i a3)), (some (av_i a4)), (some (av_i a5)), (some (av_i a6)), (some (av_i a7)), none, none] [] s (some (av_i q.1), q.2) := by
  intro n
  induction n with
  | zero =>
    intro a0 a1 a2 a3 a4 a5 a6 a7 s h
    exact ax_no h
  | succ n ih =>
    intro a0 a1 a2 a3 a4 a5 a6 a7 s h
    unfold fb_X10_ends_98 at h
    refine ax_iload (i := 7) dX10_ends_98 rfl ?_
    refine ax_iload (i := 6) dX10_ends_100 rfl ?_
    refine ax_icmp_ge (tgt := 246) dX10_ends_102 (by decide) (fun c40 => ?_) (fun c40 => ?_)
    · rw [if_pos c40] at h
      refine ax_aload_n (i := 0) dX10_ends_246 rfl rfl ?_
      refine ax_bipush (v := (41)) dX10_ends_247 rfl ?_
      obtain ⟨w41, gw41, h⟩ := Option.bind_eq_some_iff.mp h
      obtain ⟨q42, gq42, h⟩ := Option.bind_eq_some_iff.mp h
      refine ax_cV (As := [av_i (41)]) (t := 7) dX10_ends_249 gw41 (th_X10_takes gq42) rfl (And.intro wd_1064 wd_59) wd_1061 wd_1063 wd_46 cy_X10_takes (by omega) (by decide) (Nat.le_of_ble_eq_true rfl) rfl ?_
      refine ax_if_ne (tgt := 257) dX10_ends_252 (by decide) (fun c43 => ?_) (fun c43 => ?_)
      · rw [if_neg c43] at h
        refine ax_aload_n (i := 0) dX10_ends_257 rfl rfl ?_
        refine ax_iload_n (i := 1) dX10_ends_258 rfl rfl ?_
        obtain ⟨w44, gw44, h⟩ := Option.bind_eq_some_iff.mp h
        obtain ⟨q45, gq45, h⟩ := Option.bind_eq_some_iff.mp h
        refine ax_cV (As := [av_i a1]) (t := 7) dX10_ends_259 gw44 (th_X10_tells gq45) rfl (And.intro wd_1080 wd_59) wd_1077 wd_1079 wd_50 cy_X10_tells (by omega) (by decide) (Nat.le_of_ble_eq_true rfl) rfl ?_
        refine ax_bipush (v := (8)) dX10_ends_262 rfl ?_
        refine ax_aload_n (i := 0) dX10_ends_264 rfl rfl ?_
        obtain ⟨x46, gx46, h⟩ := Option.bind_eq_some_iff.mp h
        refine ax_getI (q := (RX10, TX10, 28)) (t := 7) (k := 25) dX10_ends_265 rfl (by decide) wd_781 rfl gx46 ?_
        refine ax_imul dX10_ends_268 ?_
        refine ax_iconst (v := (4)) dX10_ends_269 rfl ?_
        refine ax_isub dX10_ends_270 ?_
        refine ax_bdI h (fun v47 h => ?_)
        refine ax_istore (i := 7) (L2 := [some (av_r a0), some (av_i a1), some (av_i a2), some (av_i a3), some (av_i a4), some (av_i a5), some (av_i a6), some (av_i v47), none, none]) dX10_ends_271 (by decide) rfl rfl ?_
        refine ax_iload_n (i := 1) dX10_ends_273 rfl rfl ?_
        refine ax_iconst (v := (1)) dX10_ends_274 rfl ?_
        refine ax_icmp_eq (tgt := 283) dX10_ends_275 (by decide) (fun c48 => ?_) (fun c48 => ?_)
        · rw [if_pos c48] at h
          exact ax_less (L' := [(some (av_r a0)), none, (some (av_i a2)), (some (av_i a3)), (some (av_i a4)), (some (av_i a5)), (some (av_i a6)), (some (av_i v47)), none, none]) ⟨rfl, rfl, rfl, rfl, rfl, rfl, rfl, trivial⟩ (tb_X10_ends_283  h)
        · rw [if_neg c48] at h
          refine ax_iload_n (i := 1) dX10_ends_278 rfl rfl ?_
          refine ax_iconst (v := (2)) dX10_ends_279 rfl ?_
          refine ax_icmp_ne (tgt := 287) dX10_ends_280 (by decide) (fun c49 => ?_) (fun c49 => ?_)
          · rw [if_neg c49] at h
            refine ax_iconst (v := (0)) dX10_ends_287 rfl ?_
            exact ax_less (L' := [(some (av_r a0)), none, (some (av_i a2)), (some (av_i a3)), (some (av_i a4)), (some (av_i a5)), (some (av_i a6)), (some (av_i v47)), none, none]) ⟨rfl, rfl, rfl, rfl, rfl, rfl, rfl, trivial⟩ (tb_X10_ends_288  h)
          · rw [if_pos c49] at h
            exact ax_less (L' := [(some (av_r a0)), none, (some (av_i a2)), (some (av_i a3)), (some (av_i a4)), (some (av_i a5)), (some (av_i a6)), (some (av_i v47)), none, none]) ⟨rfl, rfl, rfl, rfl, rfl, rfl, rfl, trivial⟩ (tb_X10_ends_283  h)
      · rw [if_pos c43] at h
        refine ax_iconst (v := (0)) dX10_ends_255 rfl ?_
        exact ax_reti dX10_ends_256 h
    · rw [if_neg c40] at h
      refine ax_iload_n (i := 1) dX10_ends_105 rfl rfl ?_
      refine ax_if_eq (tgt := 120) dX10_ends_106 (by decide) (fun c50 => ?_) (fun c50 => ?_)
      · rw [if_pos c50] at h
        exact ax_less (L' := [(some (av_r a0)), (some (av_i a1)), (some (av_i a2)), (some (av_i a3)), (some (av_i a4)), (some (av_i a5)), (some (av_i a6)), (some (av_i a7)), none, none]) ⟨rfl, rfl, rfl, rfl, rfl, rfl, rfl, rfl, trivial⟩ (tb_X10_ends_120 ih h)
      · rw [if_neg c50] at h
        refine ax_aload_n (i := 0) dX10_ends_109 rfl rfl ?_
        refine ax_bipush (v := (44)) dX10_ends_110 rfl ?_
        obtain ⟨w51, gw51, h⟩ := Option.bind_eq_some_iff.mp h
        obtain ⟨q52, gq52, h⟩ := Option.bind_eq_some_iff.mp h
        refine ax_cV (As := [av_i (44)]) (t := 7) dX10_ends_112 gw51 (th_X10_takes gq52) rfl (And.intro wd_1064 wd_59) wd_1061 wd_1063 wd_46 cy_X10_takes (by omega) (by decide) (Nat.le_of_ble_eq_true rfl) rfl ?_
        refine ax_if_ne (tgt := 120) dX10_ends_115 (by decide) (fun c53 => ?_) (fun c53 => ?_)
        · rw [if_neg c53] at h
          exact ax_less (L' := [(some (av_r a0)), (some (av_i a1)), (some (av_i a2)), (some (av_i a3)), (some (av_i a4)), (some (av_i a5)), (some (av_i a6)), (some (av_i a7)), none, none]) ⟨rfl, rfl, rfl, rfl, rfl, rfl, rfl, rfl, trivial⟩ (tb_X10_ends_120 ih h)
        · rw [if_pos c53] at h
          refine ax_iconst (v := (0)) dX10_ends_118 rfl ?_
          exact ax_reti dX10_ends_119 h
def fb_X10_ends_88 (a0 : Option Nat) (a1 : Int32) (a2 : Int32) (a3 : Int32) (a4 : Int32) (a5 : Int32) (s : ax_S) : Option (Int32 × ax_S) :=
  fb_X10_ends_98 10000 a0 a1 a2 a3 a4 a5 (0) (0) s
set_option maxRecDepth 100000 in
set_option maxHeartbeats 4000000 in
theorem tb_X10_ends_88 {q : Int32 × ax_S} {a0 : Option Nat} {a1 : Int32} {a2 : Int32} {a3 : Int32} {a4 : Int32} {a5 : Int32} {s : ax_S} (h : fb_X10_ends_88 a0 a1 a2 a3 a4 a5 s = some q) : AW mm_X10_ends 3 0 0 88 [(some (av_r a0)), (some (av_i a1)), (some (av_i a2)), (some (av_i a3)), (some (av_i a4)), (some (av_i a5)), none, none, none, none] [] s (some (av_i q.1), q.2) := by
  unfold fb_X10_ends_88 at h
  refine ax_iconst (v := (0)) dX10_ends_88 rfl ?_
  refine ax_goto (tgt := 93) dX10_ends_89 (by decide) ?_
  refine ax_istore (i := 6) (L2 := [some (av_r a0), some (av_i a1), some (av_i a2), some (av_i a3), some (av_i a4), some (av_i a5), some (av_i (0)), none, none, none]) dX10_ends_93 (by decide) rfl rfl ?_
  refine ax_iconst (v := (0)) dX10_ends_95 rfl ?_
  refine ax_istore (i := 7) (L2 := [some (av_r a0), some (av_i a1), some (av_i a2), some (av_i a3), some (av_i a4), some (av_i a5), some (av_i (0)), some (av_i (0)), none, none]) dX10_ends_96 (by decide) rfl rfl ?_
  exact ax_less (L' := [(some (av_r a0)), (some (av_i a1)), (some (av_i a2)), (some (av_i a3)), (some (av_i a4)), (some (av_i a5)), (some (av_i (0))), (some (av_i (0))), none, none]) ⟨rfl, rfl, rfl, rfl, rfl, rfl, rfl, rfl, trivial⟩ (tb_X10_ends_98  _ _ _ _ _ _ _ _ _ _ h)
def fi_X10_ends (a0 : Option Nat) (a1 : Int32) (s : ax_S) : Option (Int32 × ax_S) :=
  if a1 = (7) then
    (ax_gr s 7 0 a0).bind fun r58 =>
    (ax_al s 9 r58 (0)).bind fun x59 =>
    (ax_sh s 7 a0).bind fun w60 =>
    (fn_X10_number a0 (0) (x59 - (1)) s).bind fun q61 =>
    if q61.1 = 0 then
      some ((0), q61.2)
    else
      (ax_sh q61.2 7 a0).bind fun w63 =>
      (fn_X10_takes a0 (41) q61.2).bind fun q64 =>
      if q64.1 = 0 then
        some ((0), q64.2)
      else
        (ax_gr q64.2 7 26 a0).bind fun r66 =>
        (ax_gi q64.2 7 27 a0).bind fun x67 =>
        (ax_gi q64.2 7 21 a0).bind fun x68 =>
        (ax_as q64.2 9 r66 x67 x68).bind fun s69 =>
        (ax_gi s69 7 27 a0).bind fun x70 =>
        (ax_pi s69 7 27 a0 (x70 + (1))).bind fun s71 =>
        some ((1), s71)
  else
    if a1 = (5) then
      fb_X10_ends_98 10000 a0 a1 (0) (0) (0) (0) (4) (0) s
    else
      if a1 = (3) then
        fb_X10_ends_88 a0 a1 (0) (0) (0) (0) s
      else
        if a1 = (6) then
          fb_X10_ends_88 a0 a1 (0) (0) (0) (0) s
        else
          fb_X10_ends_98 10000 a0 a1 (0) (0) (0) (0) (1) (0) s
set_option maxRecDepth 100000 in
set_option maxHeartbeats 4000000 in
theorem tw_X10_ends {q : Int32 × ax_S} {a0 : Option Nat} {a1 : Int32} {s : ax_S} (h : fi_X10_ends a0 a1 s = some q) : AW mm_X10_ends 3 0 0 0 [some (av_r a0), some (av_i a1), none, none, none, none, none, none, none, none] [] s (some (av_i q.1), q.2) := by
  unfold fi_X10_ends at h
  refine ax_iload_n (i := 1) dX10_ends_0 rfl rfl ?_
  refine ax_bipush (v := (7)) dX10_ends_1 rfl ?_
  refine ax_icmp_ne (tgt := 58) dX10_ends_3 (by decide) (fun c54 => ?_) (fun c54 => ?_)
  · rw [if_neg c54] at h
    refine ax_iconst (v := (0)) dX10_ends_58 rfl ?_
    refine ax_istore_n (i := 2) (L2 := [some (av_r a0), some (av_i a1), some (av_i (0)), none, none, none, none, none, none, none]) dX10_ends_59 rfl (by decide) rfl rfl ?_
    refine ax_iconst (v := (0)) dX10_ends_60 rfl ?_
    refine ax_istore_n (i := 3) (L2 := [some (av_r a0), some (av_i a1), some (av_i (0)), some (av_i (0)), none, none, none, none, none, none]) dX10_ends_61 rfl (by decide) rfl rfl ?_
    refine ax_iconst (v := (0)) dX10_ends_62 rfl ?_
    refine ax_istore (i := 4) (L2 := [some (av_r a0), some (av_i a1), some (av_i (0)), some (av_i (0)), some (av_i (0)), none, none, none, none, none]) dX10_ends_63 (by decide) rfl rfl ?_
    refine ax_iconst (v := (0)) dX10_ends_65 rfl ?_
    refine ax_istore (i := 5) (L2 := [some (av_r a0), some (av_i a1), some (av_i (0)), some (av_i (0)), some (av_i (0)), some (av_i (0)), none, none, none, none]) dX10_ends_66 (by decide) rfl rfl ?_
    refine ax_iload_n (i := 1) dX10_ends_68 rfl rfl ?_
    refine ax_iconst (v := (5)) dX10_ends_69 rfl ?_
    refine ax_icmp_ne (tgt := 77) dX10_ends_70 (by decide) (fun c55 => ?_) (fun c55 => ?_)
    · rw [if_neg c55] at h
      refine ax_iload_n (i := 1) dX10_ends_77 rfl rfl ?_
      refine ax_iconst (v := (3)) dX10_ends_78 rfl ?_
      refine ax_icmp_eq (tgt := 88) dX10_ends_79 (by decide) (fun c56 => ?_) (fun c56 => ?_)
      · rw [if_pos c56] at h
        exact ax_less (L' := [(some (av_r a0)), (some (av_i a1)), (some (av_i (0))), (some (av_i (0))), (some (av_i (0))), (some (av_i (0))), none, none, none, none]) ⟨rfl, rfl, rfl, rfl, rfl, rfl, trivial⟩ (tb_X10_ends_88  h)
      · rw [if_neg c56] at h
        refine ax_iload_n (i := 1) dX10_ends_82 rfl rfl ?_
        refine ax_bipush (v := (6)) dX10_ends_83 rfl ?_
        refine ax_icmp_ne (tgt := 92) dX10_ends_85 (by decide) (fun c57 => ?_) (fun c57 => ?_)
        · rw [if_neg c57] at h
          refine ax_iconst (v := (1)) dX10_ends_92 rfl ?_
          refine ax_istore (i := 6) (L2 := [some (av_r a0), some (av_i a1), some (av_i (0)), some (av_i (0)), some (av_i (0)), some (av_i (0)), some (av_i (1)), none, none, none]) dX10_ends_93 (by decide) rfl rfl ?_
          refine ax_iconst (v := (0)) dX10_ends_95 rfl ?_
          refine ax_istore (i := 7) (L2 := [some (av_r a0), some (av_i a1), some (av_i (0)), some (av_i (0)), some (av_i (0)), some (av_i (0)), some (av_i (1)), some (av_i (0)), none, none]) dX10_ends_96 (by decide) rfl rfl ?_
          exact ax_less (L' := [(some (av_r a0)), (some (av_i a1)), (some (av_i (0))), (some (av_i (0))), (some (av_i (0))), (some (av_i (0))), (some (av_i (1))), (some (av_i (0))), none, none]) ⟨rfl, rfl, rfl, rfl, rfl, rfl, rfl, rfl, trivial⟩ (tb_X10_ends_98  _ _ _ _ _ _ _ _ _ _ h)
        · rw [if_pos c57] at h
          exact ax_less (L' := [(some (av_r a0)), (some (av_i a1)), (some (av_i (0))), (some (av_i (0))), (some (av_i (0))), (some (av_i (0))), none, none, none, none]) ⟨rfl, rfl, rfl, rfl, rfl, rfl, trivial⟩ (tb_X10_ends_88  h)
    · rw [if_pos c55] at h
      refine ax_iconst (v := (4)) dX10_ends_73 rfl ?_
      refine ax_goto (tgt := 93) dX10_ends_74 (by decide) ?_
      refine ax_istore (i := 6) (L2 := [some (av_r a0), some (av_i a1), some (av_i (0)), some (av_i (0)), some (av_i (0)), some (av_i (0)), some (av_i (4)), none, none, none]) dX10_ends_93 (by decide) rfl rfl ?_
      refine ax_iconst (v := (0)) dX10_ends_95 rfl ?_
      refine ax_istore (i := 7) (L2 := [some (av_r a0), some (av_i a1), some (av_i (0)), some (av_i (0)), some (av_i (0)), some (av_i (0)), some (av_i (4)), some (av_i (0)), none, none]) dX10_ends_96 (by decide) rfl rfl ?_
      exact ax_less (L' := [(some (av_r a0)), (some (av_i a1)), (some (av_i (0))), (some (av_i (0))), (some (av_i (0))), (some (av_i (0))), (some (av_i (4))), (some (av_i (0))), none, none]) ⟨rfl, rfl, rfl, rfl, rfl, rfl, rfl, rfl, trivial⟩ (tb_X10_ends_98  _ _ _ _ _ _ _ _ _ _ h)
  · rw [if_pos c54] at h
    refine ax_aload_n (i := 0) dX10_ends_6 rfl rfl ?_
    refine ax_iconst (v := (0)) dX10_ends_7 rfl ?_
    refine ax_aload_n (i := 0) dX10_ends_8 rfl rfl ?_
    obtain ⟨r58, gr58, h⟩ := Option.bind_eq_some_iff.mp h
    refine ax_getR (q := (RX10, TX10, 28)) (t := 7) (k := 0) dX10_ends_9 rfl (by decide) wd_756 rfl gr58 ?_
    refine ax_iconst (v := (0)) dX10_ends_12 rfl ?_
    obtain ⟨x59, gx59, h⟩ := Option.bind_eq_some_iff.mp h
    refine ax_iald dX10_ends_13 gx59 ?_
    refine ax_iconst (v := (1)) dX10_ends_14 rfl ?_
    refine ax_isub dX10_ends_15 ?_
    obtain ⟨w60, gw60, h⟩ := Option.bind_eq_some_iff.mp h
    obtain ⟨q61, gq61, h⟩ := Option.bind_eq_some_iff.mp h
    refine ax_cV (As := [av_i (0), av_i (x59 - (1))]) (t := 7) dX10_ends_16 gw60 (th_X10_number gq61) rfl (And.intro wd_1072 wd_59) wd_1069 wd_1071 wd_48 cy_X10_number (by omega) (by decide) (Nat.le_of_ble_eq_true rfl) rfl ?_
    refine ax_if_eq (tgt := 31) dX10_ends_19 (by decide) (fun c62 => ?_) (fun c62 => ?_)
    · rw [if_pos c62] at h
      refine ax_iconst (v := (0)) dX10_ends_31 rfl ?_
      exact ax_reti dX10_ends_32 h
    · rw [if_neg c62] at h
      refine ax_aload_n (i := 0) dX10_ends_22 rfl rfl ?_
      refine ax_bipush (v := (41)) dX10_ends_23 rfl ?_
      obtain ⟨w63, gw63, h⟩ := Option.bind_eq_some_iff.mp h
      obtain ⟨q64, gq64, h⟩ := Option.bind_eq_some_iff.mp h
      refine ax_cV (As := [av_i (41)]) (t := 7) dX10_ends_25 gw63 (th_X10_takes gq64) rfl (And.intro wd_1064 wd_59) wd_1061 wd_1063 wd_46 cy_X10_takes (by omega) (by decide) (Nat.le_of_ble_eq_true rfl) rfl ?_
      refine ax_if_ne (tgt := 33) dX10_ends_28 (by decide) (fun c65 => ?_) (fun c65 => ?_)
      · rw [if_neg c65] at h
        refine ax_aload_n (i := 0) dX10_ends_33 rfl rfl ?_
        obtain ⟨r66, gr66, h⟩ := Option.bind_eq_some_iff.mp h
        refine ax_getR (q := (RX10, TX10, 28)) (t := 7) (k := 26) dX10_ends_34 rfl (by decide) wd_782 rfl gr66 ?_
        refine ax_aload_n (i := 0) dX10_ends_37 rfl rfl ?_
        obtain ⟨x67, gx67, h⟩ := Option.bind_eq_some_iff.mp h
        refine ax_getI (q := (RX10, TX10, 28)) (t := 7) (k := 27) dX10_ends_38 rfl (by decide) wd_783 rfl gx67 ?_
        refine ax_aload_n (i := 0) dX10_ends_41 rfl rfl ?_
        obtain ⟨x68, gx68, h⟩ := Option.bind_eq_some_iff.mp h
        refine ax_getI (q := (RX10, TX10, 28)) (t := 7) (k := 21) dX10_ends_42 rfl (by decide) wd_777 rfl gx68 ?_
        obtain ⟨s69, gs69, h⟩ := Option.bind_eq_some_iff.mp h
        refine ax_iast dX10_ends_45 gs69 ?_
        refine ax_aload_n (i := 0) dX10_ends_46 rfl rfl ?_
        refine ax_dup dX10_ends_47 trivial ?_
        obtain ⟨x70, gx70, h⟩ := Option.bind_eq_some_iff.mp h
        refine ax_getI (q := (RX10, TX10, 28)) (t := 7) (k := 27) dX10_ends_48 rfl (by decide) wd_783 rfl gx70 ?_
        refine ax_iconst (v := (1)) dX10_ends_51 rfl ?_
        refine ax_iadd dX10_ends_52 ?_
        obtain ⟨s71, gs71, h⟩ := Option.bind_eq_some_iff.mp h
        refine ax_putI (q := (RX10, TX10, 28)) (t := 7) (k := 27) dX10_ends_53 rfl (by decide) wd_783 rfl rfl ⟨rfl, rfl⟩ gs71 ?_
        refine ax_iconst (v := (1)) dX10_ends_56 rfl ?_
        exact ax_reti dX10_ends_57 h
      · rw [if_pos c65] at h
        refine ax_iconst (v := (0)) dX10_ends_31 rfl ?_
        exact ax_reti dX10_ends_32 h
def fn_X10_ends (a0 : Option Nat) (a1 : Int32) (s : ax_S) : Option (Int32 × ax_S) := ax_bz (fi_X10_ends a0 a1 s)
set_option maxRecDepth 100000 in
set_option maxHeartbeats 4000000 in
theorem th_X10_ends {q : Int32 × ax_S} {a0 : Option Nat} {a1 : Int32} {s : ax_S} (h : fn_X10_ends a0 a1 s = some q) : AC mm_X10_ends yX10_ends 3 0 0 [av_r a0, av_i a1] s (some (av_i q.1), q.2) := by
  obtain ⟨h, hz⟩ := ax_bz_of h
  exact ax_met (L0 := [some (av_r a0), some (av_i a1), none, none, none, none, none, none, none, none]) (by decide +kernel) rfl (fun h => absurd h (by decide)) ⟨rfl, rfl, trivial⟩ (Nat.le_of_ble_eq_true rfl) hz (tw_X10_ends h)
/-! X10_isText -/
abbrev mm_X10_isText : ax_M := (RX10, cX10_isText, (some .boolean), 4, false)
def fb_X10_isText_163 (a0 : Option Nat) (a1 : Int32) (s : ax_S) : Option (Int32 × ax_S) :=
  if a1 = 0 then
    some ((0), s)
  else
    (ax_gi s 7 19 a0).bind fun x2 =>
    (ax_gi s 7 12 a0).bind fun x3 =>
    if x2 = x3 then
      some ((1), s)
    else
      some ((0), s)
set_option maxRecDepth 100000 in
set_option maxHeartbeats 4000000 in
theorem tb_X10_isText_163 {q : Int32 × ax_S} {a0 : Option Nat} {a1 : Int32} {s : ax_S} (h : fb_X10_isText_163 a0 a1 s = some q) : AW mm_X10_isText 4 0 0 163 [(some (av_r a0)), (some (av_i a1)), none, none] [] s (some (av_i q.1), q.2) := by
  unfold fb_X10_isText_163 at h
  refine ax_iload_n (i := 1) dX10_isText_163 rfl rfl ?_
  refine ax_if_eq (tgt := 182) dX10_isText_164 (by decide) (fun c1 => ?_) (fun c1 => ?_)
  · rw [if_pos c1] at h
    refine ax_iconst (v := (0)) dX10_isText_182 rfl ?_
    exact ax_reti dX10_isText_183 h
  · rw [if_neg c1] at h
    refine ax_aload_n (i := 0) dX10_isText_167 rfl rfl ?_
    obtain ⟨x2, gx2, h⟩ := Option.bind_eq_some_iff.mp h
    refine ax_getI (q := (RX10, TX10, 28)) (t := 7) (k := 19) dX10_isText_168 rfl (by decide) wd_775 rfl gx2 ?_
    refine ax_aload_n (i := 0) dX10_isText_171 rfl rfl ?_
    obtain ⟨x3, gx3, h⟩ := Option.bind_eq_some_iff.mp h
    refine ax_getI (q := (RX10, TX10, 28)) (t := 7) (k := 12) dX10_isText_172 rfl (by decide) wd_768 rfl gx3 ?_
    refine ax_icmp_ne (tgt := 182) dX10_isText_175 (by decide) (fun c4 => ?_) (fun c4 => ?_)
    · rw [if_neg c4] at h
      refine ax_iconst (v := (0)) dX10_isText_182 rfl ?_
      exact ax_reti dX10_isText_183 h
    · rw [if_pos c4] at h
      refine ax_iconst (v := (1)) dX10_isText_178 rfl ?_
      refine ax_goto (tgt := 183) dX10_isText_179 (by decide) ?_
      exact ax_reti dX10_isText_183 h
def fb_X10_isText_108 (k25 : Option Nat → Int32 → ax_S → Option (Int32 × ax_S)) (a0 : Option Nat) (b0 : Int32) (s : ax_S) : Option (Int32 × ax_S) :=
  if b0 = 0 then
    k25 a0 b0 s
  else
    (ax_gr s 7 23 a0).bind fun r6 =>
    (ax_gi s 7 20 a0).bind fun x7 =>
    (ax_al s 9 r6 (x7 - (1))).bind fun x8 =>
    (ax_as s 9 r6 (x7 - (1)) (x8 + (1))).bind fun s9 =>
    (ax_sh s9 7 a0).bind fun w10 =>
    (fn_X10_begins a0 s9).bind fun q11 =>
    k25 a0 q11.1 q11.2
set_option maxRecDepth 100000 in
set_option maxHeartbeats 4000000 in
theorem tb_X10_isText_108 {q : Int32 × ax_S} {k25 : Option Nat → Int32 → ax_S → Option (Int32 × ax_S)} (hk25 : ∀ (a0 : Option Nat) (a1 : Int32) (s : ax_S), k25 a0 a1 s = some q → AW mm_X10_isText 4 0 0 25 [(some (av_r a0)), (some (av_i a1)), none, none] [] s (some (av_i q.1), q.2)) {a0 : Option Nat} {b0 : Int32} {s : ax_S} (h : fb_X10_isText_108 k25 a0 b0 s = some q) : AW mm_X10_isText 4 0 0 108 [(some (av_r a0)), none, none, none] [av_i b0] s (some (av_i q.1), q.2) := by
  unfold fb_X10_isText_108 at h
  refine ax_istore_n (i := 1) (L2 := [some (av_r a0), some (av_i b0), none, none]) dX10_isText_108 rfl (by decide) rfl rfl ?_
  refine ax_iload_n (i := 1) dX10_isText_109 rfl rfl ?_
  refine ax_if_eq (tgt := 160) dX10_isText_110 (by decide) (fun c5 => ?_) (fun c5 => ?_)
  · rw [if_pos c5] at h
    refine ax_goto (tgt := 25) dX10_isText_160 (by decide) ?_
    exact ax_less (L' := [(some (av_r a0)), (some (av_i b0)), none, none]) ⟨rfl, rfl, trivial⟩ (hk25 _ _ _ h)
  · rw [if_neg c5] at h
    refine ax_aload_n (i := 0) dX10_isText_113 rfl rfl ?_
    obtain ⟨r6, gr6, h⟩ := Option.bind_eq_some_iff.mp h
    refine ax_getR (q := (RX10, TX10, 28)) (t := 7) (k := 23) dX10_isText_114 rfl (by decide) wd_779 rfl gr6 ?_
    refine ax_aload_n (i := 0) dX10_isText_117 rfl rfl ?_
    obtain ⟨x7, gx7, h⟩ := Option.bind_eq_some_iff.mp h
    refine ax_getI (q := (RX10, TX10, 28)) (t := 7) (k := 20) dX10_isText_118 rfl (by decide) wd_776 rfl gx7 ?_
    refine ax_iconst (v := (1)) dX10_isText_121 rfl ?_
    refine ax_isub dX10_isText_122 ?_
    refine ax_dup2 dX10_isText_123 trivial trivial ?_
    obtain ⟨x8, gx8, h⟩ := Option.bind_eq_some_iff.mp h
    refine ax_iald dX10_isText_124 gx8 ?_
    refine ax_iconst (v := (1)) dX10_isText_125 rfl ?_
    refine ax_iadd dX10_isText_126 ?_
    obtain ⟨s9, gs9, h⟩ := Option.bind_eq_some_iff.mp h
    refine ax_iast dX10_isText_127 gs9 ?_
    refine ax_aload_n (i := 0) dX10_isText_128 rfl rfl ?_
    obtain ⟨w10, gw10, h⟩ := Option.bind_eq_some_iff.mp h
    obtain ⟨q11, gq11, h⟩ := Option.bind_eq_some_iff.mp h
    refine ax_cV (As := []) (t := 7) dX10_isText_129 gw10 (th_X10_begins gq11) rfl (And.intro wd_1052 wd_59) wd_1049 wd_1051 wd_43 cy_X10_begins (by omega) (by decide) (Nat.le_of_ble_eq_true rfl) rfl ?_
    refine ax_istore_n (i := 1) (L2 := [some (av_r a0), some (av_i q11.1), none, none]) dX10_isText_132 rfl (by decide) rfl rfl ?_
    refine ax_goto (tgt := 160) dX10_isText_133 (by decide) ?_
    refine ax_goto (tgt := 25) dX10_isText_160 (by decide) ?_
    exact ax_less (L' := [(some (av_r a0)), (some (av_i q11.1)), none, none]) ⟨rfl, rfl, trivial⟩ (hk25 _ _ _ h)
def fb_X10_isText_103 (k25 : Option Nat → Int32 → ax_S → Option (Int32 × ax_S)) (a0 : Option Nat) (s : ax_S) : Option (Int32 × ax_S) :=
  fb_X10_isText_108 k25 a0 (1) s
set_option maxRecDepth 100000 in
set_option maxHeartbeats 4000000 in
theorem tb_X10_isText_103 {q : Int32 × ax_S} {k25 : Option Nat → Int32 → ax_S → Option (Int32 × ax_S)} (hk25 : ∀ (a0 : Option Nat) (a1 : Int32) (s : ax_S), k25 a0 a1 s = some q → AW mm_X10_isText 4 0 0 25 [(some (av_r a0)), (some (av_i a1)), none, none] [] s (some (av_i q.1), q.2)) {a0 : Option Nat} {s : ax_S} (h : fb_X10_isText_103 k25 a0 s = some q) : AW mm_X10_isText 4 0 0 103 [(some (av_r a0)), none, none, none] [] s (some (av_i q.1), q.2) := by
  unfold fb_X10_isText_103 at h
  refine ax_iconst (v := (1)) dX10_isText_103 rfl ?_
  refine ax_goto (tgt := 108) dX10_isText_104 (by decide) ?_
  exact ax_less (L' := [(some (av_r a0)), none, none, none]) ⟨rfl, trivial⟩ (tb_X10_isText_108 hk25 h)
def fb_X10_isText_64 (k25 : Option Nat → Int32 → ax_S → Option (Int32 × ax_S)) (a0 : Option Nat) (a2 : Int32) (b0 : Int32) (s : ax_S) : Option (Int32 × ax_S) :=
  (ax_gr s 7 23 a0).bind fun r12 =>
  (ax_gi s 7 20 a0).bind fun x13 =>
  (ax_al s 9 r12 (x13 - (1))).bind fun x14 =>
  if b0 ≤ x14 then
    (ax_sh s 7 a0).bind fun w16 =>
    (fn_X10_ends a0 a2 s).bind fun q17 =>
    (ax_gi q17.2 7 20 a0).bind fun x18 =>
    if q17.1 = 0 then
      (ax_pi q17.2 7 20 a0 (x18 - (0))).bind fun s20 =>
      k25 a0 q17.1 s20
    else
      (ax_pi q17.2 7 20 a0 (x18 - (1))).bind fun s21 =>
      k25 a0 q17.1 s21
  else
    (ax_gr s 7 23 a0).bind fun r22 =>
    (ax_gi s 7 20 a0).bind fun x23 =>
    (ax_al s 9 r22 (x23 - (1))).bind fun x24 =>
    if x24 = 0 then
      fb_X10_isText_103 k25 a0 s
    else
      (ax_sh s 7 a0).bind fun w26 =>
      (fn_X10_takes a0 (44) s).bind fun q27 =>
      if q27.1 = 0 then
        fb_X10_isText_108 k25 a0 (0) q27.2
      else
        fb_X10_isText_103 k25 a0 q27.2
set_option maxRecDepth 100000 in
set_option maxHeartbeats 4000000 in
theorem tb_X10_isText_64 {q : Int32 × ax_S} {k25 : Option Nat → Int32 → ax_S → Option (Int32 × ax_S)} (hk25 : ∀ (a0 : Option Nat) (a1 : Int32) (s : ax_S), k25 a0 a1 s = some q → AW mm_X10_isText 4 0 0 25 [(some (av_r a0)), (some (av_i a1)), none, none] [] s (some (av_i q.1), q.2)) {a0 : Option Nat} {a2 : Int32} {b0 : Int32} {s : ax_S} (h : fb_X10_isText_64 k25 a0 a2 b0 s = some q) : AW mm_X10_isText 4 0 0 64 [(some (av_r a0)), none, (some (av_i a2)), none] [av_i b0] s (some (av_i q.1), q.2) := by
  unfold fb_X10_isText_64 at h
  refine ax_istore_n (i := 3) (L2 := [some (av_r a0), none, some (av_i a2), some (av_i b0)]) dX10_isText_64 rfl (by decide) rfl rfl ?_
  refine ax_aload_n (i := 0) dX10_isText_65 rfl rfl ?_
  obtain ⟨r12, gr12, h⟩ := Option.bind_eq_some_iff.mp h
  refine ax_getR (q := (RX10, TX10, 28)) (t := 7) (k := 23) dX10_isText_66 rfl (by decide) wd_779 rfl gr12 ?_
  refine ax_aload_n (i := 0) dX10_isText_69 rfl rfl ?_
  obtain ⟨x13, gx13, h⟩ := Option.bind_eq_some_iff.mp h
  refine ax_getI (q := (RX10, TX10, 28)) (t := 7) (k := 20) dX10_isText_70 rfl (by decide) wd_776 rfl gx13 ?_
  refine ax_iconst (v := (1)) dX10_isText_73 rfl ?_
  refine ax_isub dX10_isText_74 ?_
  obtain ⟨x14, gx14, h⟩ := Option.bind_eq_some_iff.mp h
  refine ax_iald dX10_isText_75 gx14 ?_
  refine ax_iload_n (i := 3) dX10_isText_76 rfl rfl ?_
  refine ax_icmp_ge (tgt := 136) dX10_isText_77 (by decide) (fun c15 => ?_) (fun c15 => ?_)
  · rw [if_pos c15] at h
    refine ax_aload_n (i := 0) dX10_isText_136 rfl rfl ?_
    refine ax_iload_n (i := 2) dX10_isText_137 rfl rfl ?_
    obtain ⟨w16, gw16, h⟩ := Option.bind_eq_some_iff.mp h
    obtain ⟨q17, gq17, h⟩ := Option.bind_eq_some_iff.mp h
    refine ax_cV (As := [av_i a2]) (t := 7) dX10_isText_138 gw16 (th_X10_ends gq17) rfl (And.intro wd_1068 wd_59) wd_1065 wd_1067 wd_47 cy_X10_ends (by omega) (by decide) (Nat.le_of_ble_eq_true rfl) rfl ?_
    refine ax_istore_n (i := 1) (L2 := [some (av_r a0), some (av_i q17.1), some (av_i a2), some (av_i b0)]) dX10_isText_141 rfl (by decide) rfl rfl ?_
    refine ax_aload_n (i := 0) dX10_isText_142 rfl rfl ?_
    refine ax_dup dX10_isText_143 trivial ?_
    obtain ⟨x18, gx18, h⟩ := Option.bind_eq_some_iff.mp h
    refine ax_getI (q := (RX10, TX10, 28)) (t := 7) (k := 20) dX10_isText_144 rfl (by decide) wd_776 rfl gx18 ?_
    refine ax_iload_n (i := 1) dX10_isText_147 rfl rfl ?_
    refine ax_if_eq (tgt := 155) dX10_isText_148 (by decide) (fun c19 => ?_) (fun c19 => ?_)
    · rw [if_pos c19] at h
      refine ax_iconst (v := (0)) dX10_isText_155 rfl ?_
      refine ax_isub dX10_isText_156 ?_
      obtain ⟨s20, gs20, h⟩ := Option.bind_eq_some_iff.mp h
      refine ax_putI (q := (RX10, TX10, 28)) (t := 7) (k := 20) dX10_isText_157 rfl (by decide) wd_776 rfl rfl ⟨rfl, rfl⟩ gs20 ?_
      refine ax_goto (tgt := 25) dX10_isText_160 (by decide) ?_
      exact ax_less (L' := [(some (av_r a0)), (some (av_i q17.1)), none, none]) ⟨rfl, rfl, trivial⟩ (hk25 _ _ _ h)
    · rw [if_neg c19] at h
      refine ax_iconst (v := (1)) dX10_isText_151 rfl ?_
      refine ax_goto (tgt := 156) dX10_isText_152 (by decide) ?_
      refine ax_isub dX10_isText_156 ?_
      obtain ⟨s21, gs21, h⟩ := Option.bind_eq_some_iff.mp h
      refine ax_putI (q := (RX10, TX10, 28)) (t := 7) (k := 20) dX10_isText_157 rfl (by decide) wd_776 rfl rfl ⟨rfl, rfl⟩ gs21 ?_
      refine ax_goto (tgt := 25) dX10_isText_160 (by decide) ?_
      exact ax_less (L' := [(some (av_r a0)), (some (av_i q17.1)), none, none]) ⟨rfl, rfl, trivial⟩ (hk25 _ _ _ h)
  · rw [if_neg c15] at h
    refine ax_aload_n (i := 0) dX10_isText_80 rfl rfl ?_
    obtain ⟨r22, gr22, h⟩ := Option.bind_eq_some_iff.mp h
    refine ax_getR (q := (RX10, TX10, 28)) (t := 7) (k := 23) dX10_isText_81 rfl (by decide) wd_779 rfl gr22 ?_
    refine ax_aload_n (i := 0) dX10_isText_84 rfl rfl ?_
    obtain ⟨x23, gx23, h⟩ := Option.bind_eq_some_iff.mp h
    refine ax_getI (q := (RX10, TX10, 28)) (t := 7) (k := 20) dX10_isText_85 rfl (by decide) wd_776 rfl gx23 ?_
    refine ax_iconst (v := (1)) dX10_isText_88 rfl ?_
    refine ax_isub dX10_isText_89 ?_
    obtain ⟨x24, gx24, h⟩ := Option.bind_eq_some_iff.mp h
    refine ax_iald dX10_isText_90 gx24 ?_
    refine ax_if_eq (tgt := 103) dX10_isText_91 (by decide) (fun c25 => ?_) (fun c25 => ?_)
    · rw [if_pos c25] at h
      exact ax_less (L' := [(some (av_r a0)), none, none, none]) ⟨rfl, trivial⟩ (tb_X10_isText_103 hk25 h)
    · rw [if_neg c25] at h
      refine ax_aload_n (i := 0) dX10_isText_94 rfl rfl ?_
      refine ax_bipush (v := (44)) dX10_isText_95 rfl ?_
      obtain ⟨w26, gw26, h⟩ := Option.bind_eq_some_iff.mp h
      obtain ⟨q27, gq27, h⟩ := Option.bind_eq_some_iff.mp h
      refine ax_cV (As := [av_i (44)]) (t := 7) dX10_isText_97 gw26 (th_X10_takes gq27) rfl (And.intro wd_1064 wd_59) wd_1061 wd_1063 wd_46 cy_X10_takes (by omega) (by decide) (Nat.le_of_ble_eq_true rfl) rfl ?_
      refine ax_if_eq (tgt := 107) dX10_isText_100 (by decide) (fun c28 => ?_) (fun c28 => ?_)
      · rw [if_pos c28] at h
        refine ax_iconst (v := (0)) dX10_isText_107 rfl ?_
        exact ax_less (L' := [(some (av_r a0)), none, none, none]) ⟨rfl, trivial⟩ (tb_X10_isText_108 hk25 h)
      · rw [if_neg c28] at h
        exact ax_less (L' := [(some (av_r a0)), none, none, none]) ⟨rfl, trivial⟩ (tb_X10_isText_103 hk25 h)
def fb_X10_isText_25 : Nat → Option Nat → Int32 → ax_S → Option (Int32 × ax_S)
  | 0, _, _, _ => none
  | n + 1, a0, a1, s =>
    if a1 = 0 then
      fb_X10_isText_163 a0 a1 s
    else
      (ax_gi s 7 20 a0).bind fun x30 =>
      if x30 ≤ 0 then
        fb_X10_isText_163 a0 a1 s
      else
        (ax_gr s 7 22 a0).bind fun r32 =>
        (ax_gi s 7 20 a0).bind fun x33 =>
        (ax_al s 9 r32 (x33 - (1))).bind fun x34 =>
        if x34 = (7) then
          fb_X10_isText_64 (fb_X10_isText_25 n) a0 x34 (0) s
        else
          (ax_gr s 7 13 a0).bind fun r36 =>
          (ax_al s 9 r36 x34).bind fun x37 =>
          fb_X10_isText_64 (fb_X10_isText_25 n) a0 x34 x37 s
set_option maxRecDepth 100000 in
set_option maxHeartbeats 4000000 in
theorem tb_X10_isText_25 {q : Int32 × ax_S} : ∀ (n : Nat) (a0 : Option Nat) (a1 : Int32) (s : ax_S) (h : fb_X10_isText_25 n a0 a1 s = some q), AW mm_X10_isText 4 0 0 25 [(some (av_r a0)), (some (av_i a1)), none, none] [] s (some (av_i q.1), q.2) := by
  intro n
  induction n with
  | zero =>
    intro a0 a1 s h
    exact ax_no h
  | succ n ih =>
    intro a0 a1 s h
    unfold fb_X10_isText_25 at h
    refine ax_iload_n (i := 1) dX10_isText_25 rfl rfl ?_
    refine ax_if_eq (tgt := 163) dX10_isText_26 (by decide) (fun c29 => ?_) (fun c29 => ?_)
    · rw [if_pos c29] at h
      exact ax_less (L' := [(some (av_r a0)), (some (av_i a1)), none, none]) ⟨rfl, rfl, trivial⟩ (tb_X10_isText_163  h)
    · rw [if_neg c29] at h
      refine ax_aload_n (i := 0) dX10_isText_29 rfl rfl ?_
      obtain ⟨x30, gx30, h⟩ := Option.bind_eq_some_iff.mp h
      refine ax_getI (q := (RX10, TX10, 28)) (t := 7) (k := 20) dX10_isText_30 rfl (by decide) wd_776 rfl gx30 ?_
      refine ax_if_le (tgt := 163) dX10_isText_33 (by decide) (fun c31 => ?_) (fun c31 => ?_)
      · rw [if_pos c31] at h
        exact ax_less (L' := [(some (av_r a0)), (some (av_i a1)), none, none]) ⟨rfl, rfl, trivial⟩ (tb_X10_isText_163  h)
      · rw [if_neg c31] at h
        refine ax_aload_n (i := 0) dX10_isText_36 rfl rfl ?_
        obtain ⟨r32, gr32, h⟩ := Option.bind_eq_some_iff.mp h
        refine ax_getR (q := (RX10, TX10, 28)) (t := 7) (k := 22) dX10_isText_37 rfl (by decide) wd_778 rfl gr32 ?_
        refine ax_aload_n (i := 0) dX10_isText_40 rfl rfl ?_
        obtain ⟨x33, gx33, h⟩ := Option.bind_eq_some_iff.mp h
        refine ax_getI (q := (RX10, TX10, 28)) (t := 7) (k := 20) dX10_isText_41 rfl (by decide) wd_776 rfl gx33 ?_
        refine ax_iconst (v := (1)) dX10_isText_44 rfl ?_
        refine ax_isub dX10_isText_45 ?_
        obtain ⟨x34, gx34, h⟩ := Option.bind_eq_some_iff.mp h
        refine ax_iald dX10_isText_46 gx34 ?_
        refine ax_istore_n (i := 2) (L2 := [some (av_r a0), some (av_i a1), some (av_i x34), none]) dX10_isText_47 rfl (by decide) rfl rfl ?_
        refine ax_iload_n (i := 2) dX10_isText_48 rfl rfl ?_
        refine ax_bipush (v := (7)) dX10_isText_49 rfl ?_
        refine ax_icmp_ne (tgt := 58) dX10_isText_51 (by decide) (fun c35 => ?_) (fun c35 => ?_)
        · rw [if_neg c35] at h
          refine ax_aload_n (i := 0) dX10_isText_58 rfl rfl ?_
          obtain ⟨r36, gr36, h⟩ := Option.bind_eq_some_iff.mp h
          refine ax_getR (q := (RX10, TX10, 28)) (t := 7) (k := 13) dX10_isText_59 rfl (by decide) wd_769 rfl gr36 ?_
          refine ax_iload_n (i := 2) dX10_isText_62 rfl rfl ?_
          obtain ⟨x37, gx37, h⟩ := Option.bind_eq_some_iff.mp h
          refine ax_iald dX10_isText_63 gx37 ?_
          exact ax_less (L' := [(some (av_r a0)), none, (some (av_i x34)), none]) ⟨rfl, rfl, trivial⟩ (tb_X10_isText_64 ih h)
        · rw [if_pos c35] at h
          refine ax_iconst (v := (0)) dX10_isText_54 rfl ?_
          refine ax_goto (tgt := 64) dX10_isText_55 (by decide) ?_
          exact ax_less (L' := [(some (av_r a0)), none, (some (av_i x34)), none]) ⟨rfl, rfl, trivial⟩ (tb_X10_isText_64 ih h)
def fi_X10_isText (a0 : Option Nat) (s : ax_S) : Option (Int32 × ax_S) :=
  (ax_pi s 7 19 a0 (0)).bind fun s38 =>
  (ax_pi s38 7 20 a0 (0)).bind fun s39 =>
  (ax_pi s39 7 25 a0 (0)).bind fun s40 =>
  (ax_pi s40 7 27 a0 (0)).bind fun s41 =>
  (ax_sh s41 7 a0).bind fun w42 =>
  (fn_X10_begins a0 s41).bind fun q43 =>
  fb_X10_isText_25 10000 a0 q43.1 q43.2
set_option maxRecDepth 100000 in
set_option maxHeartbeats 4000000 in
theorem tw_X10_isText {q : Int32 × ax_S} {a0 : Option Nat} {s : ax_S} (h : fi_X10_isText a0 s = some q) : AW mm_X10_isText 4 0 0 0 [some (av_r a0), none, none, none] [] s (some (av_i q.1), q.2) := by
  unfold fi_X10_isText at h
  refine ax_aload_n (i := 0) dX10_isText_0 rfl rfl ?_
  refine ax_iconst (v := (0)) dX10_isText_1 rfl ?_
  obtain ⟨s38, gs38, h⟩ := Option.bind_eq_some_iff.mp h
  refine ax_putI (q := (RX10, TX10, 28)) (t := 7) (k := 19) dX10_isText_2 rfl (by decide) wd_775 rfl rfl ⟨rfl, rfl⟩ gs38 ?_
  refine ax_aload_n (i := 0) dX10_isText_5 rfl rfl ?_
  refine ax_iconst (v := (0)) dX10_isText_6 rfl ?_
  obtain ⟨s39, gs39, h⟩ := Option.bind_eq_some_iff.mp h
  refine ax_putI (q := (RX10, TX10, 28)) (t := 7) (k := 20) dX10_isText_7 rfl (by decide) wd_776 rfl rfl ⟨rfl, rfl⟩ gs39 ?_
  refine ax_aload_n (i := 0) dX10_isText_10 rfl rfl ?_
  refine ax_iconst (v := (0)) dX10_isText_11 rfl ?_
  obtain ⟨s40, gs40, h⟩ := Option.bind_eq_some_iff.mp h
  refine ax_putI (q := (RX10, TX10, 28)) (t := 7) (k := 25) dX10_isText_12 rfl (by decide) wd_781 rfl rfl ⟨rfl, rfl⟩ gs40 ?_
  refine ax_aload_n (i := 0) dX10_isText_15 rfl rfl ?_
  refine ax_iconst (v := (0)) dX10_isText_16 rfl ?_
  obtain ⟨s41, gs41, h⟩ := Option.bind_eq_some_iff.mp h
  refine ax_putI (q := (RX10, TX10, 28)) (t := 7) (k := 27) dX10_isText_17 rfl (by decide) wd_783 rfl rfl ⟨rfl, rfl⟩ gs41 ?_
  refine ax_aload_n (i := 0) dX10_isText_20 rfl rfl ?_
  obtain ⟨w42, gw42, h⟩ := Option.bind_eq_some_iff.mp h
  obtain ⟨q43, gq43, h⟩ := Option.bind_eq_some_iff.mp h
  refine ax_cV (As := []) (t := 7) dX10_isText_21 gw42 (th_X10_begins gq43) rfl (And.intro wd_1052 wd_59) wd_1049 wd_1051 wd_43 cy_X10_begins (by omega) (by decide) (Nat.le_of_ble_eq_true rfl) rfl ?_
  refine ax_istore_n (i := 1) (L2 := [some (av_r a0), some (av_i q43.1), none, none]) dX10_isText_24 rfl (by decide) rfl rfl ?_
  exact ax_less (L' := [(some (av_r a0)), (some (av_i q43.1)), none, none]) ⟨rfl, rfl, trivial⟩ (tb_X10_isText_25  _ _ _ _ h)
def fn_X10_isText (a0 : Option Nat) (s : ax_S) : Option (Int32 × ax_S) := ax_bz (fi_X10_isText a0 s)
set_option maxRecDepth 100000 in
set_option maxHeartbeats 4000000 in
theorem th_X10_isText {q : Int32 × ax_S} {a0 : Option Nat} {s : ax_S} (h : fn_X10_isText a0 s = some q) : AC mm_X10_isText yX10_isText 4 0 0 [av_r a0] s (some (av_i q.1), q.2) := by
  obtain ⟨h, hz⟩ := ax_bz_of h
  exact ax_met (L0 := [some (av_r a0), none, none, none]) (by decide +kernel) rfl (fun h => absurd h (by decide)) ⟨rfl, trivial⟩ (Nat.le_of_ble_eq_true rfl) hz (tw_X10_isText h)
/-! X10_adds -/
abbrev mm_X10_adds : ax_M := (RX10, cX10_adds, (some .int), 4, false)
def fb_X10_adds_71 : Nat → Option Nat → Int32 → Int32 → Int32 → ax_S → Option (Int32 × ax_S)
  | 0, _, _, _, _, _ => none
  | n + 1, a0, a1, a2, a3, s =>
    if (4) ≤ a3 then
      (ax_gr s 7 0 a0).bind fun r2 =>
      (ax_al s 9 r2 (0)).bind fun x3 =>
      (ax_as s 9 r2 (0) (x3 + (1))).bind fun s4 =>
      some (a2, s4)
    else
      (ax_gr s 7 0 a0).bind fun r5 =>
      (fn_X10_at a2 ((6) + a3) s).bind fun q6 =>
      (fn_X10_first a1 a3 q6.2).bind fun q7 =>
      (ax_as q7.2 9 r5 q6.1 q7.1).bind fun s8 =>
      (fb_X10_adds_71 n) a0 a1 a2 (a3 + (1)) s8
set_option maxRecDepth 100000 in
set_option maxHeartbeats 4000000 in
theorem tb_X10_adds_71 {q : Int32 × ax_S} : ∀ (n : Nat) (a0 : Option Nat) (a1 : Int32) (a2 : Int32) (a3 : Int32) (s : ax_S) (h : fb_X10_adds_71 n a0 a1 a2 a3 s = some q), AW mm_X10_adds 1 0 0 71 [(some (av_r a0)), (some (av_i a1)), (some (av_i a2)), (some (av_i a3))] [] s (some (av_i q.1), q.2) := by
  intro n
  induction n with
  | zero =>
    intro a0 a1 a2 a3 s h
    exact ax_no h
  | succ n ih =>
    intro a0 a1 a2 a3 s h
    unfold fb_X10_adds_71 at h
    refine ax_iload_n (i := 3) dX10_adds_71 rfl rfl ?_
    refine ax_iconst (v := (4)) dX10_adds_72 rfl ?_
    refine ax_icmp_ge (tgt := 100) dX10_adds_73 (by decide) (fun c1 => ?_) (fun c1 => ?_)
    · rw [if_pos c1] at h
      refine ax_aload_n (i := 0) dX10_adds_100 rfl rfl ?_
      obtain ⟨r2, gr2, h⟩ := Option.bind_eq_some_iff.mp h
      refine ax_getR (q := (RX10, TX10, 28)) (t := 7) (k := 0) dX10_adds_101 rfl (by decide) wd_756 rfl gr2 ?_
      refine ax_iconst (v := (0)) dX10_adds_104 rfl ?_
      refine ax_dup2 dX10_adds_105 trivial trivial ?_
      obtain ⟨x3, gx3, h⟩ := Option.bind_eq_some_iff.mp h
      refine ax_iald dX10_adds_106 gx3 ?_
      refine ax_iconst (v := (1)) dX10_adds_107 rfl ?_
      refine ax_iadd dX10_adds_108 ?_
      obtain ⟨s4, gs4, h⟩ := Option.bind_eq_some_iff.mp h
      refine ax_iast dX10_adds_109 gs4 ?_
      refine ax_iload_n (i := 2) dX10_adds_110 rfl rfl ?_
      exact ax_reti dX10_adds_111 h
    · rw [if_neg c1] at h
      refine ax_aload_n (i := 0) dX10_adds_76 rfl rfl ?_
      obtain ⟨r5, gr5, h⟩ := Option.bind_eq_some_iff.mp h
      refine ax_getR (q := (RX10, TX10, 28)) (t := 7) (k := 0) dX10_adds_77 rfl (by decide) wd_756 rfl gr5 ?_
      refine ax_iload_n (i := 2) dX10_adds_80 rfl rfl ?_
      refine ax_bipush (v := (6)) dX10_adds_81 rfl ?_
      refine ax_iload_n (i := 3) dX10_adds_83 rfl rfl ?_
      refine ax_iadd dX10_adds_84 ?_
      obtain ⟨q6, gq6, h⟩ := Option.bind_eq_some_iff.mp h
      refine ax_cS (As := [av_i a2, av_i ((6) + a3)]) dX10_adds_85 (th_X10_at gq6) (And.intro wd_858 wd_59) wd_856 wd_857 cy_X10_at (by omega) (by decide) (Nat.le_of_ble_eq_true rfl) rfl ?_
      refine ax_iload_n (i := 1) dX10_adds_88 rfl rfl ?_
      refine ax_iload_n (i := 3) dX10_adds_89 rfl rfl ?_
      obtain ⟨q7, gq7, h⟩ := Option.bind_eq_some_iff.mp h
      refine ax_cS (As := [av_i a1, av_i a3]) dX10_adds_90 (th_X10_first gq7) (And.intro wd_861 wd_59) wd_859 wd_860 cy_X10_first (by omega) (by decide) (Nat.le_of_ble_eq_true rfl) rfl ?_
      obtain ⟨s8, gs8, h⟩ := Option.bind_eq_some_iff.mp h
      refine ax_iast dX10_adds_93 gs8 ?_
      refine ax_iinc (i := 3) (v := (a3 + (1))) (L2 := [some (av_r a0), some (av_i a1), some (av_i a2), some (av_i (a3 + (1)))]) dX10_adds_94 rfl rfl (by decide) rfl rfl ?_
      refine ax_goto (tgt := 71) dX10_adds_97 (by decide) ?_
      exact ax_less (L' := [(some (av_r a0)), (some (av_i a1)), (some (av_i a2)), (some (av_i (a3 + (1))))]) ⟨rfl, rfl, rfl, rfl, trivial⟩ (ih _ _ _ _ _ h)
def fb_X10_adds_43 : Nat → Option Nat → Int32 → Int32 → Int32 → ax_S → Option (Int32 × ax_S)
  | 0, _, _, _, _, _ => none
  | n + 1, a0, a1, a2, a3, s =>
    if (3) ≤ a3 then
      fb_X10_adds_71 10000 a0 a1 a2 (0) s
    else
      (ax_gr s 7 0 a0).bind fun r10 =>
      (fn_X10_at a2 ((3) + a3) s).bind fun q11 =>
      (ax_as q11.2 9 r10 q11.1 (-1005)).bind fun s12 =>
      (fb_X10_adds_43 n) a0 a1 a2 (a3 + (1)) s12
set_option maxRecDepth 100000 in
set_option maxHeartbeats 4000000 in
theorem tb_X10_adds_43 {q : Int32 × ax_S} : ∀ (n : Nat) (a0 : Option Nat) (a1 : Int32) (a2 : Int32) (a3 : Int32) (s : ax_S) (h : fb_X10_adds_43 n a0 a1 a2 a3 s = some q), AW mm_X10_adds 1 0 0 43 [(some (av_r a0)), (some (av_i a1)), (some (av_i a2)), (some (av_i a3))] [] s (some (av_i q.1), q.2) := by
  intro n
  induction n with
  | zero =>
    intro a0 a1 a2 a3 s h
    exact ax_no h
  | succ n ih =>
    intro a0 a1 a2 a3 s h
    unfold fb_X10_adds_43 at h
    refine ax_iload_n (i := 3) dX10_adds_43 rfl rfl ?_
    refine ax_iconst (v := (3)) dX10_adds_44 rfl ?_
    refine ax_icmp_ge (tgt := 69) dX10_adds_45 (by decide) (fun c9 => ?_) (fun c9 => ?_)
    · rw [if_pos c9] at h
      refine ax_iconst (v := (0)) dX10_adds_69 rfl ?_
      refine ax_istore_n (i := 3) (L2 := [some (av_r a0), some (av_i a1), some (av_i a2), some (av_i (0))]) dX10_adds_70 rfl (by decide) rfl rfl ?_
      exact ax_less (L' := [(some (av_r a0)), (some (av_i a1)), (some (av_i a2)), (some (av_i (0)))]) ⟨rfl, rfl, rfl, rfl, trivial⟩ (tb_X10_adds_71  _ _ _ _ _ _ h)
    · rw [if_neg c9] at h
      refine ax_aload_n (i := 0) dX10_adds_48 rfl rfl ?_
      obtain ⟨r10, gr10, h⟩ := Option.bind_eq_some_iff.mp h
      refine ax_getR (q := (RX10, TX10, 28)) (t := 7) (k := 0) dX10_adds_49 rfl (by decide) wd_756 rfl gr10 ?_
      refine ax_iload_n (i := 2) dX10_adds_52 rfl rfl ?_
      refine ax_iconst (v := (3)) dX10_adds_53 rfl ?_
      refine ax_iload_n (i := 3) dX10_adds_54 rfl rfl ?_
      refine ax_iadd dX10_adds_55 ?_
      obtain ⟨q11, gq11, h⟩ := Option.bind_eq_some_iff.mp h
      refine ax_cS (As := [av_i a2, av_i ((3) + a3)]) dX10_adds_56 (th_X10_at gq11) (And.intro wd_858 wd_59) wd_856 wd_857 cy_X10_at (by omega) (by decide) (Nat.le_of_ble_eq_true rfl) rfl ?_
      refine ax_sipush (v := (-1005)) dX10_adds_59 rfl ?_
      obtain ⟨s12, gs12, h⟩ := Option.bind_eq_some_iff.mp h
      refine ax_iast dX10_adds_62 gs12 ?_
      refine ax_iinc (i := 3) (v := (a3 + (1))) (L2 := [some (av_r a0), some (av_i a1), some (av_i a2), some (av_i (a3 + (1)))]) dX10_adds_63 rfl rfl (by decide) rfl rfl ?_
      refine ax_goto (tgt := 43) dX10_adds_66 (by decide) ?_
      exact ax_less (L' := [(some (av_r a0)), (some (av_i a1)), (some (av_i a2)), (some (av_i (a3 + (1))))]) ⟨rfl, rfl, rfl, rfl, trivial⟩ (ih _ _ _ _ _ h)
def fn_X10_adds (a0 : Option Nat) (a1 : Int32) (s : ax_S) : Option (Int32 × ax_S) :=
  (ax_gr s 7 0 a0).bind fun r13 =>
  (ax_al s 9 r13 (0)).bind fun x14 =>
  (ax_gr s 7 0 a0).bind fun r15 =>
  (fn_X10_at x14 (0) s).bind fun q16 =>
  (ax_as q16.2 9 r15 q16.1 a1).bind fun s17 =>
  (ax_gr s17 7 0 a0).bind fun r18 =>
  (fn_X10_at x14 (1) s17).bind fun q19 =>
  (ax_as q19.2 9 r18 q19.1 (0)).bind fun s20 =>
  (ax_gr s20 7 0 a0).bind fun r21 =>
  (fn_X10_at x14 (2) s20).bind fun q22 =>
  (ax_as q22.2 9 r21 q22.1 (99)).bind fun s23 =>
  fb_X10_adds_43 10000 a0 a1 x14 (0) s23
set_option maxRecDepth 100000 in
set_option maxHeartbeats 4000000 in
theorem tw_X10_adds {q : Int32 × ax_S} {a0 : Option Nat} {a1 : Int32} {s : ax_S} (h : fn_X10_adds a0 a1 s = some q) : AW mm_X10_adds 1 0 0 0 [some (av_r a0), some (av_i a1), none, none] [] s (some (av_i q.1), q.2) := by
  unfold fn_X10_adds at h
  refine ax_aload_n (i := 0) dX10_adds_0 rfl rfl ?_
  obtain ⟨r13, gr13, h⟩ := Option.bind_eq_some_iff.mp h
  refine ax_getR (q := (RX10, TX10, 28)) (t := 7) (k := 0) dX10_adds_1 rfl (by decide) wd_756 rfl gr13 ?_
  refine ax_iconst (v := (0)) dX10_adds_4 rfl ?_
  obtain ⟨x14, gx14, h⟩ := Option.bind_eq_some_iff.mp h
  refine ax_iald dX10_adds_5 gx14 ?_
  refine ax_istore_n (i := 2) (L2 := [some (av_r a0), some (av_i a1), some (av_i x14), none]) dX10_adds_6 rfl (by decide) rfl rfl ?_
  refine ax_aload_n (i := 0) dX10_adds_7 rfl rfl ?_
  obtain ⟨r15, gr15, h⟩ := Option.bind_eq_some_iff.mp h
  refine ax_getR (q := (RX10, TX10, 28)) (t := 7) (k := 0) dX10_adds_8 rfl (by decide) wd_756 rfl gr15 ?_
  refine ax_iload_n (i := 2) dX10_adds_11 rfl rfl ?_
  refine ax_iconst (v := (0)) dX10_adds_12 rfl ?_
  obtain ⟨q16, gq16, h⟩ := Option.bind_eq_some_iff.mp h
  refine ax_cS (As := [av_i x14, av_i (0)]) dX10_adds_13 (th_X10_at gq16) (And.intro wd_858 wd_59) wd_856 wd_857 cy_X10_at (by omega) (by decide) (Nat.le_of_ble_eq_true rfl) rfl ?_
  refine ax_iload_n (i := 1) dX10_adds_16 rfl rfl ?_
  obtain ⟨s17, gs17, h⟩ := Option.bind_eq_some_iff.mp h
  refine ax_iast dX10_adds_17 gs17 ?_
  refine ax_aload_n (i := 0) dX10_adds_18 rfl rfl ?_
  obtain ⟨r18, gr18, h⟩ := Option.bind_eq_some_iff.mp h
  refine ax_getR (q := (RX10, TX10, 28)) (t := 7) (k := 0) dX10_adds_19 rfl (by decide) wd_756 rfl gr18 ?_
  refine ax_iload_n (i := 2) dX10_adds_22 rfl rfl ?_
  refine ax_iconst (v := (1)) dX10_adds_23 rfl ?_
  obtain ⟨q19, gq19, h⟩ := Option.bind_eq_some_iff.mp h
  refine ax_cS (As := [av_i x14, av_i (1)]) dX10_adds_24 (th_X10_at gq19) (And.intro wd_858 wd_59) wd_856 wd_857 cy_X10_at (by omega) (by decide) (Nat.le_of_ble_eq_true rfl) rfl ?_
  refine ax_iconst (v := (0)) dX10_adds_27 rfl ?_
  obtain ⟨s20, gs20, h⟩ := Option.bind_eq_some_iff.mp h
  refine ax_iast dX10_adds_28 gs20 ?_
  refine ax_aload_n (i := 0) dX10_adds_29 rfl rfl ?_
  obtain ⟨r21, gr21, h⟩ := Option.bind_eq_some_iff.mp h
  refine ax_getR (q := (RX10, TX10, 28)) (t := 7) (k := 0) dX10_adds_30 rfl (by decide) wd_756 rfl gr21 ?_
  refine ax_iload_n (i := 2) dX10_adds_33 rfl rfl ?_
  refine ax_iconst (v := (2)) dX10_adds_34 rfl ?_
  obtain ⟨q22, gq22, h⟩ := Option.bind_eq_some_iff.mp h
  refine ax_cS (As := [av_i x14, av_i (2)]) dX10_adds_35 (th_X10_at gq22) (And.intro wd_858 wd_59) wd_856 wd_857 cy_X10_at (by omega) (by decide) (Nat.le_of_ble_eq_true rfl) rfl ?_
  refine ax_bipush (v := (99)) dX10_adds_38 rfl ?_
  obtain ⟨s23, gs23, h⟩ := Option.bind_eq_some_iff.mp h
  refine ax_iast dX10_adds_40 gs23 ?_
  refine ax_iconst (v := (0)) dX10_adds_41 rfl ?_
  refine ax_istore_n (i := 3) (L2 := [some (av_r a0), some (av_i a1), some (av_i x14), some (av_i (0))]) dX10_adds_42 rfl (by decide) rfl rfl ?_
  exact ax_less (L' := [(some (av_r a0)), (some (av_i a1)), (some (av_i x14)), (some (av_i (0)))]) ⟨rfl, rfl, rfl, rfl, trivial⟩ (tb_X10_adds_43  _ _ _ _ _ _ h)
set_option maxRecDepth 100000 in
set_option maxHeartbeats 4000000 in
theorem th_X10_adds {q : Int32 × ax_S} {a0 : Option Nat} {a1 : Int32} {s : ax_S} (h : fn_X10_adds a0 a1 s = some q) : AC mm_X10_adds yX10_adds 1 0 0 [av_r a0, av_i a1] s (some (av_i q.1), q.2) := by
  exact ax_met (L0 := [some (av_r a0), some (av_i a1), none, none]) (by decide +kernel) rfl (fun h => absurd h (by decide)) ⟨rfl, rfl, trivial⟩ (Nat.le_of_ble_eq_true rfl) trivial (tw_X10_adds h)
/-! X10_build -/
abbrev mm_X10_build : ax_M := (RX10, cX10_build, (some .int), 6, false)
def fb_X10_build_128 (k40 : Option Nat → Int32 → Int32 → ax_S → Option (Int32 × ax_S)) : Nat → Option Nat → Int32 → Int32 → Int32 → Int32 → ax_S → Option (Int32 × ax_S)
  | 0, _, _, _, _, _, _ => none
  | n + 1, a0, a1, a2, a3, a4, s =>
    if (4) ≤ a4 then
      k40 a0 a1 (a2 + (1)) s
    else
      (ax_gr s 7 0 a0).bind fun r2 =>
      (fn_X10_at a3 ((6) + a4) s).bind fun q3 =>
      (ax_gr q3.2 7 24 a0).bind fun r4 =>
      (ax_al q3.2 9 r4 ((((8) * a2) + (4)) + a4)).bind fun x5 =>
      (ax_as q3.2 9 r2 q3.1 x5).bind fun s6 =>
      (fb_X10_build_128 k40 n) a0 a1 a2 a3 (a4 + (1)) s6
set_option maxRecDepth 100000 in
set_option maxHeartbeats 4000000 in
theorem tb_X10_build_128 {q : Int32 × ax_S} {k40 : Option Nat → Int32 → Int32 → ax_S → Option (Int32 × ax_S)} (hk40 : ∀ (a0 : Option Nat) (a1 : Int32) (a2 : Int32) (s : ax_S), k40 a0 a1 a2 s = some q → AW mm_X10_build 5 0 0 40 [(some (av_r a0)), (some (av_i a1)), (some (av_i a2)), none, none, none] [] s (some (av_i q.1), q.2)) : ∀ (n : Nat) (a0 : Option Nat) (a1 : Int32) (a2 : Int32) (a3 : Int32) (a4 : Int32) (s : ax_S) (h : fb_X10_build_128 k40 n a0 a1 a2 a3 a4 s = some q), AW mm_X10_build 5 0 0 128 [(some (av_r a0)), (some (av_i a1)), (some (av_i a2)), (some (av_i a3)), (some (av_i a4)), none] [] s (some (av_i q.1), q.2) := by
  intro n
  induction n with
  | zero =>
    intro a0 a1 a2 a3 a4 s h
    exact ax_no h
  | succ n ih =>
    intro a0 a1 a2 a3 a4 s h
    unfold fb_X10_build_128 at h
    refine ax_iload (i := 4) dX10_build_128 rfl ?_
    refine ax_iconst (v := (4)) dX10_build_130 rfl ?_
    refine ax_icmp_ge (tgt := 168) dX10_build_131 (by decide) (fun c1 => ?_) (fun c1 => ?_)
    · rw [if_pos c1] at h
      refine ax_iinc (i := 2) (v := (a2 + (1))) (L2 := [some (av_r a0), some (av_i a1), some (av_i (a2 + (1))), some (av_i a3), some (av_i a4), none]) dX10_build_168 rfl rfl (by decide) rfl rfl ?_
      refine ax_goto (tgt := 40) dX10_build_171 (by decide) ?_
      exact ax_less (L' := [(some (av_r a0)), (some (av_i a1)), (some (av_i (a2 + (1)))), none, none, none]) ⟨rfl, rfl, rfl, trivial⟩ (hk40 _ _ _ _ h)
    · rw [if_neg c1] at h
      refine ax_aload_n (i := 0) dX10_build_134 rfl rfl ?_
      obtain ⟨r2, gr2, h⟩ := Option.bind_eq_some_iff.mp h
      refine ax_getR (q := (RX10, TX10, 28)) (t := 7) (k := 0) dX10_build_135 rfl (by decide) wd_756 rfl gr2 ?_
      refine ax_iload_n (i := 3) dX10_build_138 rfl rfl ?_
      refine ax_bipush (v := (6)) dX10_build_139 rfl ?_
      refine ax_iload (i := 4) dX10_build_141 rfl ?_
      refine ax_iadd dX10_build_143 ?_
      obtain ⟨q3, gq3, h⟩ := Option.bind_eq_some_iff.mp h
      refine ax_cS (As := [av_i a3, av_i ((6) + a4)]) dX10_build_144 (th_X10_at gq3) (And.intro wd_858 wd_59) wd_856 wd_857 cy_X10_at (by omega) (by decide) (Nat.le_of_ble_eq_true rfl) rfl ?_
      refine ax_aload_n (i := 0) dX10_build_147 rfl rfl ?_
      obtain ⟨r4, gr4, h⟩ := Option.bind_eq_some_iff.mp h
      refine ax_getR (q := (RX10, TX10, 28)) (t := 7) (k := 24) dX10_build_148 rfl (by decide) wd_780 rfl gr4 ?_
      refine ax_bipush (v := (8)) dX10_build_151 rfl ?_
      refine ax_iload_n (i := 2) dX10_build_153 rfl rfl ?_
      refine ax_imul dX10_build_154 ?_
      refine ax_iconst (v := (4)) dX10_build_155 rfl ?_
      refine ax_iadd dX10_build_156 ?_
      refine ax_iload (i := 4) dX10_build_157 rfl ?_
      refine ax_iadd dX10_build_159 ?_
      obtain ⟨x5, gx5, h⟩ := Option.bind_eq_some_iff.mp h
      refine ax_iald dX10_build_160 gx5 ?_
      obtain ⟨s6, gs6, h⟩ := Option.bind_eq_some_iff.mp h
      refine ax_iast dX10_build_161 gs6 ?_
      refine ax_iinc (i := 4) (v := (a4 + (1))) (L2 := [some (av_r a0), some (av_i a1), some (av_i a2), some (av_i a3), some (av_i (a4 + (1))), none]) dX10_build_162 rfl rfl (by decide) rfl rfl ?_
      refine ax_goto (tgt := 128) dX10_build_165 (by decide) ?_
      exact ax_less (L' := [(some (av_r a0)), (some (av_i a1)), (some (av_i a2)), (some (av_i a3)), (some (av_i (a4 + (1)))), none]) ⟨rfl, rfl, rfl, rfl, rfl, trivial⟩ (ih _ _ _ _ _ _ h)
def fb_X10_build_65 (k40 : Option Nat → Int32 → Int32 → ax_S → Option (Int32 × ax_S)) : Nat → Option Nat → Int32 → Int32 → Int32 → Int32 → ax_S → Option (Int32 × ax_S)
  | 0, _, _, _, _, _, _ => none
  | n + 1, a0, a1, a2, a3, a4, s =>
    if (3) ≤ a4 then
      fb_X10_build_128 k40 10000 a0 a1 a2 a3 (0) s
    else
      (ax_gr s 7 24 a0).bind fun r8 =>
      (ax_al s 9 r8 ((((8) * a2) + (1)) + a4)).bind fun x9 =>
      (ax_gr s 7 0 a0).bind fun r10 =>
      (fn_X10_at a3 ((3) + a4) s).bind fun q11 =>
      if x9 < (100) then
        (ax_as q11.2 9 r10 q11.1 x9).bind fun s13 =>
        (fb_X10_build_65 k40 n) a0 a1 a2 a3 (a4 + (1)) s13
      else
        (ax_as q11.2 9 r10 q11.1 ((a1 + x9) - (100))).bind fun s14 =>
        (fb_X10_build_65 k40 n) a0 a1 a2 a3 (a4 + (1)) s14
set_option maxRecDepth 100000 in
set_option maxHeartbeats 4000000 in
theorem tb_X10_build_65 {q : Int32 × ax_S} {k40 : Option Nat → Int32 → Int32 → ax_S → Option (Int32 × ax_S)} (hk40 : ∀ (a0 : Option Nat) (a1 : Int32) (a2 : Int32) (s : ax_S), k40 a0 a1 a2 s = some q → AW mm_X10_build 5 0 0 40 [(some (av_r a0)), (some (av_i a1)), (some (av_i a2)), none, none, none] [] s (some (av_i q.1), q.2)) : ∀ (n : Nat) (a0 : Option Nat) (a1 : Int32) (a2 : Int32) (a3 : Int32) (a4 : Int32) (s : ax_S) (h : fb_X10_build_65 k40 n a0 a1 a2 a3 a4 s = some q), AW mm_X10_build 5 0 0 65 [(some (av_r a0)), (some (av_i a1)), (some (av_i a2)), (some (av_i a3)), (some (av_i a4)), none] [] s (some (av_i q.1), q.2) := by
  intro n
  induction n with
  | zero =>
    intro a0 a1 a2 a3 a4 s h
    exact ax_no h
  | succ n ih =>
    intro a0 a1 a2 a3 a4 s h
    unfold fb_X10_build_65 at h
    refine ax_iload (i := 4) dX10_build_65 rfl ?_
    refine ax_iconst (v := (3)) dX10_build_67 rfl ?_
    refine ax_icmp_ge (tgt := 125) dX10_build_68 (by decide) (fun c7 => ?_) (fun c7 => ?_)
    · rw [if_pos c7] at h
      refine ax_iconst (v := (0)) dX10_build_125 rfl ?_
      refine ax_istore (i := 4) (L2 := [some (av_r a0), some (av_i a1), some (av_i a2), some (av_i a3), some (av_i (0)), none]) dX10_build_126 (by decide) rfl rfl ?_
      exact ax_less (L' := [(some (av_r a0)), (some (av_i a1)), (some (av_i a2)), (some (av_i a3)), (some (av_i (0))), none]) ⟨rfl, rfl, rfl, rfl, rfl, trivial⟩ (tb_X10_build_128 hk40 _ _ _ _ _ _ _ h)
    · rw [if_neg c7] at h
      refine ax_aload_n (i := 0) dX10_build_71 rfl rfl ?_
      obtain ⟨r8, gr8, h⟩ := Option.bind_eq_some_iff.mp h
      refine ax_getR (q := (RX10, TX10, 28)) (t := 7) (k := 24) dX10_build_72 rfl (by decide) wd_780 rfl gr8 ?_
      refine ax_bipush (v := (8)) dX10_build_75 rfl ?_
      refine ax_iload_n (i := 2) dX10_build_77 rfl rfl ?_
      refine ax_imul dX10_build_78 ?_
      refine ax_iconst (v := (1)) dX10_build_79 rfl ?_
      refine ax_iadd dX10_build_80 ?_
      refine ax_iload (i := 4) dX10_build_81 rfl ?_
      refine ax_iadd dX10_build_83 ?_
      obtain ⟨x9, gx9, h⟩ := Option.bind_eq_some_iff.mp h
      refine ax_iald dX10_build_84 gx9 ?_
      refine ax_istore (i := 5) (L2 := [some (av_r a0), some (av_i a1), some (av_i a2), some (av_i a3), some (av_i a4), some (av_i x9)]) dX10_build_85 (by decide) rfl rfl ?_
      refine ax_aload_n (i := 0) dX10_build_87 rfl rfl ?_
      obtain ⟨r10, gr10, h⟩ := Option.bind_eq_some_iff.mp h
      refine ax_getR (q := (RX10, TX10, 28)) (t := 7) (k := 0) dX10_build_88 rfl (by decide) wd_756 rfl gr10 ?_
      refine ax_iload_n (i := 3) dX10_build_91 rfl rfl ?_
      refine ax_iconst (v := (3)) dX10_build_92 rfl ?_
      refine ax_iload (i := 4) dX10_build_93 rfl ?_
      refine ax_iadd dX10_build_95 ?_
      obtain ⟨q11, gq11, h⟩ := Option.bind_eq_some_iff.mp h
      refine ax_cS (As := [av_i a3, av_i ((3) + a4)]) dX10_build_96 (th_X10_at gq11) (And.intro wd_858 wd_59) wd_856 wd_857 cy_X10_at (by omega) (by decide) (Nat.le_of_ble_eq_true rfl) rfl ?_
      refine ax_iload (i := 5) dX10_build_99 rfl ?_
      refine ax_bipush (v := (100)) dX10_build_101 rfl ?_
      refine ax_icmp_lt (tgt := 116) dX10_build_103 (by decide) (fun c12 => ?_) (fun c12 => ?_)
      · rw [if_pos c12] at h
        refine ax_iload (i := 5) dX10_build_116 rfl ?_
        obtain ⟨s13, gs13, h⟩ := Option.bind_eq_some_iff.mp h
        refine ax_iast dX10_build_118 gs13 ?_
        refine ax_iinc (i := 4) (v := (a4 + (1))) (L2 := [some (av_r a0), some (av_i a1), some (av_i a2), some (av_i a3), some (av_i (a4 + (1))), some (av_i x9)]) dX10_build_119 rfl rfl (by decide) rfl rfl ?_
        refine ax_goto (tgt := 65) dX10_build_122 (by decide) ?_
        exact ax_less (L' := [(some (av_r a0)), (some (av_i a1)), (some (av_i a2)), (some (av_i a3)), (some (av_i (a4 + (1)))), none]) ⟨rfl, rfl, rfl, rfl, rfl, trivial⟩ (ih _ _ _ _ _ _ h)
      · rw [if_neg c12] at h
        refine ax_iload_n (i := 1) dX10_build_106 rfl rfl ?_
        refine ax_iload (i := 5) dX10_build_107 rfl ?_
        refine ax_iadd dX10_build_109 ?_
        refine ax_bipush (v := (100)) dX10_build_110 rfl ?_
        refine ax_isub dX10_build_112 ?_
        refine ax_goto (tgt := 118) dX10_build_113 (by decide) ?_
        obtain ⟨s14, gs14, h⟩ := Option.bind_eq_some_iff.mp h
        refine ax_iast dX10_build_118 gs14 ?_
        refine ax_iinc (i := 4) (v := (a4 + (1))) (L2 := [some (av_r a0), some (av_i a1), some (av_i a2), some (av_i a3), some (av_i (a4 + (1))), some (av_i x9)]) dX10_build_119 rfl rfl (by decide) rfl rfl ?_
        refine ax_goto (tgt := 65) dX10_build_122 (by decide) ?_
        exact ax_less (L' := [(some (av_r a0)), (some (av_i a1)), (some (av_i a2)), (some (av_i a3)), (some (av_i (a4 + (1)))), none]) ⟨rfl, rfl, rfl, rfl, rfl, trivial⟩ (ih _ _ _ _ _ _ h)
def fb_X10_build_40 : Nat → Option Nat → Int32 → Int32 → ax_S → Option (Int32 × ax_S)
  | 0, _, _, _, _ => none
  | n + 1, a0, a1, a2, s =>
    (ax_gi s 7 25 a0).bind fun x15 =>
    if x15 ≤ a2 then
      (ax_gr s 7 26 a0).bind fun r17 =>
      (ax_al s 9 r17 (0)).bind fun x18 =>
      if x18 < (100) then
        (ax_gr s 7 26 a0).bind fun r20 =>
        (ax_al s 9 r20 (0)).bind fun x21 =>
        some (x21, s)
      else
        (ax_gr s 7 26 a0).bind fun r22 =>
        (ax_al s 9 r22 (0)).bind fun x23 =>
        some (((a1 + x23) - (100)), s)
    else
      (ax_gr s 7 24 a0).bind fun r24 =>
      (ax_al s 9 r24 ((8) * a2)).bind fun x25 =>
      (ax_sh s 7 a0).bind fun w26 =>
      (fn_X10_adds a0 x25 s).bind fun q27 =>
      fb_X10_build_65 (fb_X10_build_40 n) 10000 a0 a1 a2 q27.1 (0) q27.2
set_option maxRecDepth 100000 in
set_option maxHeartbeats 4000000 in
theorem tb_X10_build_40 {q : Int32 × ax_S} : ∀ (n : Nat) (a0 : Option Nat) (a1 : Int32) (a2 : Int32) (s : ax_S) (h : fb_X10_build_40 n a0 a1 a2 s = some q), AW mm_X10_build 5 0 0 40 [(some (av_r a0)), (some (av_i a1)), (some (av_i a2)), none, none, none] [] s (some (av_i q.1), q.2) := by
  intro n
  induction n with
  | zero =>
    intro a0 a1 a2 s h
    exact ax_no h
  | succ n ih =>
    intro a0 a1 a2 s h
    unfold fb_X10_build_40 at h
    refine ax_iload_n (i := 2) dX10_build_40 rfl rfl ?_
    refine ax_aload_n (i := 0) dX10_build_41 rfl rfl ?_
    obtain ⟨x15, gx15, h⟩ := Option.bind_eq_some_iff.mp h
    refine ax_getI (q := (RX10, TX10, 28)) (t := 7) (k := 25) dX10_build_42 rfl (by decide) wd_781 rfl gx15 ?_
    refine ax_icmp_ge (tgt := 174) dX10_build_45 (by decide) (fun c16 => ?_) (fun c16 => ?_)
    · rw [if_pos c16] at h
      refine ax_aload_n (i := 0) dX10_build_174 rfl rfl ?_
      obtain ⟨r17, gr17, h⟩ := Option.bind_eq_some_iff.mp h
      refine ax_getR (q := (RX10, TX10, 28)) (t := 7) (k := 26) dX10_build_175 rfl (by decide) wd_782 rfl gr17 ?_
      refine ax_iconst (v := (0)) dX10_build_178 rfl ?_
      obtain ⟨x18, gx18, h⟩ := Option.bind_eq_some_iff.mp h
      refine ax_iald dX10_build_179 gx18 ?_
      refine ax_bipush (v := (100)) dX10_build_180 rfl ?_
      refine ax_icmp_lt (tgt := 199) dX10_build_182 (by decide) (fun c19 => ?_) (fun c19 => ?_)
      · rw [if_pos c19] at h
        refine ax_aload_n (i := 0) dX10_build_199 rfl rfl ?_
        obtain ⟨r20, gr20, h⟩ := Option.bind_eq_some_iff.mp h
        refine ax_getR (q := (RX10, TX10, 28)) (t := 7) (k := 26) dX10_build_200 rfl (by decide) wd_782 rfl gr20 ?_
        refine ax_iconst (v := (0)) dX10_build_203 rfl ?_
        obtain ⟨x21, gx21, h⟩ := Option.bind_eq_some_iff.mp h
        refine ax_iald dX10_build_204 gx21 ?_
        exact ax_reti dX10_build_205 h
      · rw [if_neg c19] at h
        refine ax_iload_n (i := 1) dX10_build_185 rfl rfl ?_
        refine ax_aload_n (i := 0) dX10_build_186 rfl rfl ?_
        obtain ⟨r22, gr22, h⟩ := Option.bind_eq_some_iff.mp h
        refine ax_getR (q := (RX10, TX10, 28)) (t := 7) (k := 26) dX10_build_187 rfl (by decide) wd_782 rfl gr22 ?_
        refine ax_iconst (v := (0)) dX10_build_190 rfl ?_
        obtain ⟨x23, gx23, h⟩ := Option.bind_eq_some_iff.mp h
        refine ax_iald dX10_build_191 gx23 ?_
        refine ax_iadd dX10_build_192 ?_
        refine ax_bipush (v := (100)) dX10_build_193 rfl ?_
        refine ax_isub dX10_build_195 ?_
        refine ax_goto (tgt := 205) dX10_build_196 (by decide) ?_
        exact ax_reti dX10_build_205 h
    · rw [if_neg c16] at h
      refine ax_aload_n (i := 0) dX10_build_48 rfl rfl ?_
      refine ax_aload_n (i := 0) dX10_build_49 rfl rfl ?_
      obtain ⟨r24, gr24, h⟩ := Option.bind_eq_some_iff.mp h
      refine ax_getR (q := (RX10, TX10, 28)) (t := 7) (k := 24) dX10_build_50 rfl (by decide) wd_780 rfl gr24 ?_
      refine ax_bipush (v := (8)) dX10_build_53 rfl ?_
      refine ax_iload_n (i := 2) dX10_build_55 rfl rfl ?_
      refine ax_imul dX10_build_56 ?_
      obtain ⟨x25, gx25, h⟩ := Option.bind_eq_some_iff.mp h
      refine ax_iald dX10_build_57 gx25 ?_
      obtain ⟨w26, gw26, h⟩ := Option.bind_eq_some_iff.mp h
      obtain ⟨q27, gq27, h⟩ := Option.bind_eq_some_iff.mp h
      refine ax_cV (As := [av_i x25]) (t := 7) dX10_build_58 gw26 (th_X10_adds gq27) rfl (And.intro wd_855 wd_59) wd_852 wd_854 wd_16 cy_X10_adds (by omega) (by decide) (Nat.le_of_ble_eq_true rfl) rfl ?_
      refine ax_istore_n (i := 3) (L2 := [some (av_r a0), some (av_i a1), some (av_i a2), some (av_i q27.1), none, none]) dX10_build_61 rfl (by decide) rfl rfl ?_
      refine ax_iconst (v := (0)) dX10_build_62 rfl ?_
      refine ax_istore (i := 4) (L2 := [some (av_r a0), some (av_i a1), some (av_i a2), some (av_i q27.1), some (av_i (0)), none]) dX10_build_63 (by decide) rfl rfl ?_
      exact ax_less (L' := [(some (av_r a0)), (some (av_i a1)), (some (av_i a2)), (some (av_i q27.1)), (some (av_i (0))), none]) ⟨rfl, rfl, rfl, rfl, rfl, trivial⟩ (tb_X10_build_65 ih _ _ _ _ _ _ _ h)
def fn_X10_build (a0 : Option Nat) (s : ax_S) : Option (Int32 × ax_S) :=
  (ax_sh s 7 a0).bind fun w28 =>
  (fn_X10_isText a0 s).bind fun q29 =>
  if q29.1 = 0 then
    some ((-1003), q29.2)
  else
    (ax_gr q29.2 7 0 a0).bind fun r31 =>
    (ax_al q29.2 9 r31 (0)).bind fun x32 =>
    (ax_gi q29.2 7 25 a0).bind fun x33 =>
    if (x32 + x33) ≤ (12) then
      (ax_gr q29.2 7 0 a0).bind fun r35 =>
      (ax_al q29.2 9 r35 (0)).bind fun x36 =>
      fb_X10_build_40 10000 a0 x36 (0) q29.2
    else
      some ((-1004), q29.2)
set_option maxRecDepth 100000 in
set_option maxHeartbeats 4000000 in
theorem tw_X10_build {q : Int32 × ax_S} {a0 : Option Nat} {s : ax_S} (h : fn_X10_build a0 s = some q) : AW mm_X10_build 5 0 0 0 [some (av_r a0), none, none, none, none, none] [] s (some (av_i q.1), q.2) := by
  unfold fn_X10_build at h
  refine ax_aload_n (i := 0) dX10_build_0 rfl rfl ?_
  obtain ⟨w28, gw28, h⟩ := Option.bind_eq_some_iff.mp h
  obtain ⟨q29, gq29, h⟩ := Option.bind_eq_some_iff.mp h
  refine ax_cV (As := []) (t := 7) dX10_build_1 gw28 (th_X10_isText gq29) rfl (And.intro wd_1048 wd_59) wd_1045 wd_1047 wd_42 cy_X10_isText (by omega) (by decide) (Nat.le_of_ble_eq_true rfl) rfl ?_
  refine ax_if_ne (tgt := 11) dX10_build_4 (by decide) (fun c30 => ?_) (fun c30 => ?_)
  · rw [if_neg c30] at h
    refine ax_aload_n (i := 0) dX10_build_11 rfl rfl ?_
    obtain ⟨r31, gr31, h⟩ := Option.bind_eq_some_iff.mp h
    refine ax_getR (q := (RX10, TX10, 28)) (t := 7) (k := 0) dX10_build_12 rfl (by decide) wd_756 rfl gr31 ?_
    refine ax_iconst (v := (0)) dX10_build_15 rfl ?_
    obtain ⟨x32, gx32, h⟩ := Option.bind_eq_some_iff.mp h
    refine ax_iald dX10_build_16 gx32 ?_
    refine ax_aload_n (i := 0) dX10_build_17 rfl rfl ?_
    obtain ⟨x33, gx33, h⟩ := Option.bind_eq_some_iff.mp h
    refine ax_getI (q := (RX10, TX10, 28)) (t := 7) (k := 25) dX10_build_18 rfl (by decide) wd_781 rfl gx33 ?_
    refine ax_iadd dX10_build_21 ?_
    refine ax_bipush (v := (12)) dX10_build_22 rfl ?_
    refine ax_icmp_le (tgt := 31) dX10_build_24 (by decide) (fun c34 => ?_) (fun c34 => ?_)
    · rw [if_pos c34] at h
      refine ax_aload_n (i := 0) dX10_build_31 rfl rfl ?_
      obtain ⟨r35, gr35, h⟩ := Option.bind_eq_some_iff.mp h
      refine ax_getR (q := (RX10, TX10, 28)) (t := 7) (k := 0) dX10_build_32 rfl (by decide) wd_756 rfl gr35 ?_
      refine ax_iconst (v := (0)) dX10_build_35 rfl ?_
      obtain ⟨x36, gx36, h⟩ := Option.bind_eq_some_iff.mp h
      refine ax_iald dX10_build_36 gx36 ?_
      refine ax_istore_n (i := 1) (L2 := [some (av_r a0), some (av_i x36), none, none, none, none]) dX10_build_37 rfl (by decide) rfl rfl ?_
      refine ax_iconst (v := (0)) dX10_build_38 rfl ?_
      refine ax_istore_n (i := 2) (L2 := [some (av_r a0), some (av_i x36), some (av_i (0)), none, none, none]) dX10_build_39 rfl (by decide) rfl rfl ?_
      exact ax_less (L' := [(some (av_r a0)), (some (av_i x36)), (some (av_i (0))), none, none, none]) ⟨rfl, rfl, rfl, trivial⟩ (tb_X10_build_40  _ _ _ _ _ h)
    · rw [if_neg c34] at h
      refine ax_sipush (v := (-1004)) dX10_build_27 rfl ?_
      exact ax_reti dX10_build_30 h
  · rw [if_pos c30] at h
    refine ax_sipush (v := (-1003)) dX10_build_7 rfl ?_
    exact ax_reti dX10_build_10 h
set_option maxRecDepth 100000 in
set_option maxHeartbeats 4000000 in
theorem th_X10_build {q : Int32 × ax_S} {a0 : Option Nat} {s : ax_S} (h : fn_X10_build a0 s = some q) : AC mm_X10_build yX10_build 5 0 0 [av_r a0] s (some (av_i q.1), q.2) := by
  exact ax_met (L0 := [some (av_r a0), none, none, none, none, none]) (by decide +kernel) rfl (fun h => absurd h (by decide)) ⟨rfl, trivial⟩ (Nat.le_of_ble_eq_true rfl) trivial (tw_X10_build h)
/-! X10_compare -/
abbrev mm_X10_compare : ax_M := (RX10, cX10_compare, (some .int), 10, false)
def fb_X10_compare_100 (k57 : Option Nat → Int32 → Int32 → Int32 → Int32 → ax_S → Option (Int32 × ax_S)) (a0 : Option Nat) (a5 : Int32) (a6 : Int32) (a7 : Int32) (a8 : Int32) (b0 : Int32) (s : ax_S) : Option (Int32 × ax_S) :=
  if b0 ≤ a7 then
    k57 a0 a5 a6 a7 (a8 + (1)) s
  else
    k57 a0 a5 a6 b0 (a8 + (1)) s
set_option maxRecDepth 100000 in
set_option maxHeartbeats 4000000 in
theorem tb_X10_compare_100 {q : Int32 × ax_S} {k57 : Option Nat → Int32 → Int32 → Int32 → Int32 → ax_S → Option (Int32 × ax_S)} (hk57 : ∀ (a0 : Option Nat) (a5 : Int32) (a6 : Int32) (a7 : Int32) (a8 : Int32) (s : ax_S), k57 a0 a5 a6 a7 a8 s = some q → AW mm_X10_compare 6 0 0 57 [(some (av_r a0)), none, none, none, none, (some (av_i a5)), (some (av_i a6)), (some (av_i a7)), (some (av_i a8)), none] [] s (some (av_i q.1), q.2)) {a0 : Option Nat} {a5 : Int32} {a6 : Int32} {a7 : Int32} {a8 : Int32} {b0 : Int32} {s : ax_S} (h : fb_X10_compare_100 k57 a0 a5 a6 a7 a8 b0 s = some q) : AW mm_X10_compare 6 0 0 100 [(some (av_r a0)), none, none, none, none, (some (av_i a5)), (some (av_i a6)), (some (av_i a7)), (some (av_i a8)), none] [av_i b0] s (some (av_i q.1), q.2) := by
  unfold fb_X10_compare_100 at h
  refine ax_istore (i := 9) (L2 := [some (av_r a0), none, none, none, none, some (av_i a5), some (av_i a6), some (av_i a7), some (av_i a8), some (av_i b0)]) dX10_compare_100 (by decide) rfl rfl ?_
  refine ax_iload (i := 9) dX10_compare_102 rfl ?_
  refine ax_iload (i := 7) dX10_compare_104 rfl ?_
  refine ax_icmp_le (tgt := 114) dX10_compare_106 (by decide) (fun c1 => ?_) (fun c1 => ?_)
  · rw [if_pos c1] at h
    refine ax_iload (i := 7) dX10_compare_114 rfl ?_
    refine ax_istore (i := 7) (L2 := [some (av_r a0), none, none, none, none, some (av_i a5), some (av_i a6), some (av_i a7), some (av_i a8), some (av_i b0)]) dX10_compare_116 (by decide) rfl rfl ?_
    refine ax_iinc (i := 8) (v := (a8 + (1))) (L2 := [some (av_r a0), none, none, none, none, some (av_i a5), some (av_i a6), some (av_i a7), some (av_i (a8 + (1))), some (av_i b0)]) dX10_compare_118 rfl rfl (by decide) rfl rfl ?_
    refine ax_goto (tgt := 57) dX10_compare_121 (by decide) ?_
    exact ax_less (L' := [(some (av_r a0)), none, none, none, none, (some (av_i a5)), (some (av_i a6)), (some (av_i a7)), (some (av_i (a8 + (1)))), none]) ⟨rfl, rfl, rfl, rfl, rfl, trivial⟩ (hk57 _ _ _ _ _ _ h)
  · rw [if_neg c1] at h
    refine ax_iload (i := 9) dX10_compare_109 rfl ?_
    refine ax_goto (tgt := 116) dX10_compare_111 (by decide) ?_
    refine ax_istore (i := 7) (L2 := [some (av_r a0), none, none, none, none, some (av_i a5), some (av_i a6), some (av_i b0), some (av_i a8), some (av_i b0)]) dX10_compare_116 (by decide) rfl rfl ?_
    refine ax_iinc (i := 8) (v := (a8 + (1))) (L2 := [some (av_r a0), none, none, none, none, some (av_i a5), some (av_i a6), some (av_i b0), some (av_i (a8 + (1))), some (av_i b0)]) dX10_compare_118 rfl rfl (by decide) rfl rfl ?_
    refine ax_goto (tgt := 57) dX10_compare_121 (by decide) ?_
    exact ax_less (L' := [(some (av_r a0)), none, none, none, none, (some (av_i a5)), (some (av_i a6)), (some (av_i b0)), (some (av_i (a8 + (1)))), none]) ⟨rfl, rfl, rfl, rfl, rfl, trivial⟩ (hk57 _ _ _ _ _ _ h)
def fb_X10_compare_57 : Nat → Option Nat → Int32 → Int32 → Int32 → Int32 → ax_S → Option (Int32 × ax_S)
  | 0, _, _, _, _, _, _ => none
  | n + 1, a0, a5, a6, a7, a8, s =>
    if (96) ≤ a8 then
      some (a7, s)
    else
      (ax_gr s 7 8 a0).bind fun r3 =>
      (ax_al s 9 r3 (a6 + a8)).bind fun x4 =>
      (ax_gr s 7 8 a0).bind fun r5 =>
      (ax_al s 9 r5 (a5 + a8)).bind fun x6 =>
      ax_bd ((x4 - x6)) fun v7 =>
      if 0 ≤ v7 then
        fb_X10_compare_100 (fb_X10_compare_57 n) a0 a5 a6 a7 a8 v7 s
      else
        fb_X10_compare_100 (fb_X10_compare_57 n) a0 a5 a6 a7 a8 (-v7) s
set_option maxRecDepth 100000 in
set_option maxHeartbeats 4000000 in
theorem tb_X10_compare_57 {q : Int32 × ax_S} : ∀ (n : Nat) (a0 : Option Nat) (a5 : Int32) (a6 : Int32) (a7 : Int32) (a8 : Int32) (s : ax_S) (h : fb_X10_compare_57 n a0 a5 a6 a7 a8 s = some q), AW mm_X10_compare 6 0 0 57 [(some (av_r a0)), none, none, none, none, (some (av_i a5)), (some (av_i a6)), (some (av_i a7)), (some (av_i a8)), none] [] s (some (av_i q.1), q.2) := by
  intro n
  induction n with
  | zero =>
    intro a0 a5 a6 a7 a8 s h
    exact ax_no h
  | succ n ih =>
    intro a0 a5 a6 a7 a8 s h
    unfold fb_X10_compare_57 at h
    refine ax_iload (i := 8) dX10_compare_57 rfl ?_
    refine ax_bipush (v := (96)) dX10_compare_59 rfl ?_
    refine ax_icmp_ge (tgt := 124) dX10_compare_61 (by decide) (fun c2 => ?_) (fun c2 => ?_)
    · rw [if_pos c2] at h
      refine ax_iload (i := 7) dX10_compare_124 rfl ?_
      exact ax_reti dX10_compare_126 h
    · rw [if_neg c2] at h
      refine ax_aload_n (i := 0) dX10_compare_64 rfl rfl ?_
      obtain ⟨r3, gr3, h⟩ := Option.bind_eq_some_iff.mp h
      refine ax_getR (q := (RX10, TX10, 28)) (t := 7) (k := 8) dX10_compare_65 rfl (by decide) wd_764 rfl gr3 ?_
      refine ax_iload (i := 6) dX10_compare_68 rfl ?_
      refine ax_iload (i := 8) dX10_compare_70 rfl ?_
      refine ax_iadd dX10_compare_72 ?_
      obtain ⟨x4, gx4, h⟩ := Option.bind_eq_some_iff.mp h
      refine ax_iald dX10_compare_73 gx4 ?_
      refine ax_aload_n (i := 0) dX10_compare_74 rfl rfl ?_
      obtain ⟨r5, gr5, h⟩ := Option.bind_eq_some_iff.mp h
      refine ax_getR (q := (RX10, TX10, 28)) (t := 7) (k := 8) dX10_compare_75 rfl (by decide) wd_764 rfl gr5 ?_
      refine ax_iload (i := 5) dX10_compare_78 rfl ?_
      refine ax_iload (i := 8) dX10_compare_80 rfl ?_
      refine ax_iadd dX10_compare_82 ?_
      obtain ⟨x6, gx6, h⟩ := Option.bind_eq_some_iff.mp h
      refine ax_iald dX10_compare_83 gx6 ?_
      refine ax_isub dX10_compare_84 ?_
      refine ax_bdI h (fun v7 h => ?_)
      refine ax_istore (i := 9) (L2 := [some (av_r a0), none, none, none, none, some (av_i a5), some (av_i a6), some (av_i a7), some (av_i a8), some (av_i v7)]) dX10_compare_85 (by decide) rfl rfl ?_
      refine ax_iload (i := 9) dX10_compare_87 rfl ?_
      refine ax_if_ge (tgt := 98) dX10_compare_89 (by decide) (fun c8 => ?_) (fun c8 => ?_)
      · rw [if_pos c8] at h
        refine ax_iload (i := 9) dX10_compare_98 rfl ?_
        exact ax_less (L' := [(some (av_r a0)), none, none, none, none, (some (av_i a5)), (some (av_i a6)), (some (av_i a7)), (some (av_i a8)), none]) ⟨rfl, rfl, rfl, rfl, rfl, trivial⟩ (tb_X10_compare_100 ih h)
      · rw [if_neg c8] at h
        refine ax_iload (i := 9) dX10_compare_92 rfl ?_
        refine ax_ineg dX10_compare_94 ?_
        refine ax_goto (tgt := 100) dX10_compare_95 (by decide) ?_
        exact ax_less (L' := [(some (av_r a0)), none, none, none, none, (some (av_i a5)), (some (av_i a6)), (some (av_i a7)), (some (av_i a8)), none]) ⟨rfl, rfl, rfl, rfl, rfl, trivial⟩ (tb_X10_compare_100 ih h)
def fn_X10_compare (a0 : Option Nat) (a1 : Int32) (a2 : Int32) (a3 : Int32) (s : ax_S) : Option (Int32 × ax_S) :=
  (ax_sh s 7 a0).bind fun w9 =>
  (fn_X10_isPicture a0 a1 a3 s).bind fun q10 =>
  if q10.1 = 0 then
    some ((-1001), q10.2)
  else
    (ax_sh q10.2 7 a0).bind fun w12 =>
    (fn_X10_isNode a0 a2 q10.2).bind fun q13 =>
    if q13.1 = 0 then
      some ((-1001), q13.2)
    else
      (ax_sh q13.2 7 a0).bind fun w15 =>
      (fn_X10_picture a0 a1 a3 q13.2).bind fun q16 =>
      (ax_sh q16.2 7 a0).bind fun w17 =>
      (fn_X10_picture a0 a2 a3 q16.2).bind fun q18 =>
      ax_bd (((96) * q18.1)) fun v19 =>
      (ax_sh q18.2 7 a0).bind fun w20 =>
      (fn_X10_find a0 a1 a3 q18.2).bind fun q21 =>
      ax_bd (((96) * q21.1)) fun v22 =>
      fb_X10_compare_57 10000 a0 v19 v22 (0) (0) q21.2
set_option maxRecDepth 100000 in
set_option maxHeartbeats 4000000 in
theorem tw_X10_compare {q : Int32 × ax_S} {a0 : Option Nat} {a1 : Int32} {a2 : Int32} {a3 : Int32} {s : ax_S} (h : fn_X10_compare a0 a1 a2 a3 s = some q) : AW mm_X10_compare 6 0 0 0 [some (av_r a0), some (av_i a1), some (av_i a2), some (av_i a3), none, none, none, none, none, none] [] s (some (av_i q.1), q.2) := by
  unfold fn_X10_compare at h
  refine ax_aload_n (i := 0) dX10_compare_0 rfl rfl ?_
  refine ax_iload_n (i := 1) dX10_compare_1 rfl rfl ?_
  refine ax_iload_n (i := 3) dX10_compare_2 rfl rfl ?_
  obtain ⟨w9, gw9, h⟩ := Option.bind_eq_some_iff.mp h
  obtain ⟨q10, gq10, h⟩ := Option.bind_eq_some_iff.mp h
  refine ax_cV (As := [av_i a1, av_i a3]) (t := 7) dX10_compare_3 gw9 (th_X10_isPicture gq10) rfl (And.intro wd_950 wd_59) wd_947 wd_949 wd_28 cy_X10_isPicture (by omega) (by decide) (Nat.le_of_ble_eq_true rfl) rfl ?_
  refine ax_if_eq (tgt := 17) dX10_compare_6 (by decide) (fun c11 => ?_) (fun c11 => ?_)
  · rw [if_pos c11] at h
    refine ax_sipush (v := (-1001)) dX10_compare_17 rfl ?_
    exact ax_reti dX10_compare_20 h
  · rw [if_neg c11] at h
    refine ax_aload_n (i := 0) dX10_compare_9 rfl rfl ?_
    refine ax_iload_n (i := 2) dX10_compare_10 rfl rfl ?_
    obtain ⟨w12, gw12, h⟩ := Option.bind_eq_some_iff.mp h
    obtain ⟨q13, gq13, h⟩ := Option.bind_eq_some_iff.mp h
    refine ax_cV (As := [av_i a2]) (t := 7) dX10_compare_11 gw12 (th_X10_isNode gq13) rfl (And.intro wd_873 wd_59) wd_870 wd_872 wd_18 cy_X10_isNode (by omega) (by decide) (Nat.le_of_ble_eq_true rfl) rfl ?_
    refine ax_if_ne (tgt := 21) dX10_compare_14 (by decide) (fun c14 => ?_) (fun c14 => ?_)
    · rw [if_neg c14] at h
      refine ax_aload_n (i := 0) dX10_compare_21 rfl rfl ?_
      refine ax_iload_n (i := 1) dX10_compare_22 rfl rfl ?_
      refine ax_iload_n (i := 3) dX10_compare_23 rfl rfl ?_
      obtain ⟨w15, gw15, h⟩ := Option.bind_eq_some_iff.mp h
      obtain ⟨q16, gq16, h⟩ := Option.bind_eq_some_iff.mp h
      refine ax_cV (As := [av_i a1, av_i a3]) (t := 7) dX10_compare_24 gw15 (th_X10_picture gq16) rfl (And.intro wd_954 wd_59) wd_951 wd_953 wd_29 cy_X10_picture (by omega) (by decide) (Nat.le_of_ble_eq_true rfl) rfl ?_
      refine ax_istore (i := 4) (L2 := [some (av_r a0), some (av_i a1), some (av_i a2), some (av_i a3), some (av_i q16.1), none, none, none, none, none]) dX10_compare_27 (by decide) rfl rfl ?_
      refine ax_bipush (v := (96)) dX10_compare_29 rfl ?_
      refine ax_aload_n (i := 0) dX10_compare_31 rfl rfl ?_
      refine ax_iload_n (i := 2) dX10_compare_32 rfl rfl ?_
      refine ax_iload_n (i := 3) dX10_compare_33 rfl rfl ?_
      obtain ⟨w17, gw17, h⟩ := Option.bind_eq_some_iff.mp h
      obtain ⟨q18, gq18, h⟩ := Option.bind_eq_some_iff.mp h
      refine ax_cV (As := [av_i a2, av_i a3]) (t := 7) dX10_compare_34 gw17 (th_X10_picture gq18) rfl (And.intro wd_954 wd_59) wd_951 wd_953 wd_29 cy_X10_picture (by omega) (by decide) (Nat.le_of_ble_eq_true rfl) rfl ?_
      refine ax_imul dX10_compare_37 ?_
      refine ax_bdI h (fun v19 h => ?_)
      refine ax_istore (i := 5) (L2 := [some (av_r a0), some (av_i a1), some (av_i a2), some (av_i a3), some (av_i q16.1), some (av_i v19), none, none, none, none]) dX10_compare_38 (by decide) rfl rfl ?_
      refine ax_bipush (v := (96)) dX10_compare_40 rfl ?_
      refine ax_aload_n (i := 0) dX10_compare_42 rfl rfl ?_
      refine ax_iload_n (i := 1) dX10_compare_43 rfl rfl ?_
      refine ax_iload_n (i := 3) dX10_compare_44 rfl rfl ?_
      obtain ⟨w20, gw20, h⟩ := Option.bind_eq_some_iff.mp h
      obtain ⟨q21, gq21, h⟩ := Option.bind_eq_some_iff.mp h
      refine ax_cV (As := [av_i a1, av_i a3]) (t := 7) dX10_compare_45 gw20 (th_X10_find gq21) rfl (And.intro wd_962 wd_59) wd_959 wd_961 wd_31 cy_X10_find (by omega) (by decide) (Nat.le_of_ble_eq_true rfl) rfl ?_
      refine ax_imul dX10_compare_48 ?_
      refine ax_bdI h (fun v22 h => ?_)
      refine ax_istore (i := 6) (L2 := [some (av_r a0), some (av_i a1), some (av_i a2), some (av_i a3), some (av_i q16.1), some (av_i v19), some (av_i v22), none, none, none]) dX10_compare_49 (by decide) rfl rfl ?_
      refine ax_iconst (v := (0)) dX10_compare_51 rfl ?_
      refine ax_istore (i := 7) (L2 := [some (av_r a0), some (av_i a1), some (av_i a2), some (av_i a3), some (av_i q16.1), some (av_i v19), some (av_i v22), some (av_i (0)), none, none]) dX10_compare_52 (by decide) rfl rfl ?_
      refine ax_iconst (v := (0)) dX10_compare_54 rfl ?_
      refine ax_istore (i := 8) (L2 := [some (av_r a0), some (av_i a1), some (av_i a2), some (av_i a3), some (av_i q16.1), some (av_i v19), some (av_i v22), some (av_i (0)), some (av_i (0)), none]) dX10_compare_55 (by decide) rfl rfl ?_
      exact ax_less (L' := [(some (av_r a0)), none, none, none, none, (some (av_i v19)), (some (av_i v22)), (some (av_i (0))), (some (av_i (0))), none]) ⟨rfl, rfl, rfl, rfl, rfl, trivial⟩ (tb_X10_compare_57  _ _ _ _ _ _ _ h)
    · rw [if_pos c14] at h
      refine ax_sipush (v := (-1001)) dX10_compare_17 rfl ?_
      exact ax_reti dX10_compare_20 h
set_option maxRecDepth 100000 in
set_option maxHeartbeats 4000000 in
theorem th_X10_compare {q : Int32 × ax_S} {a0 : Option Nat} {a1 : Int32} {a2 : Int32} {a3 : Int32} {s : ax_S} (h : fn_X10_compare a0 a1 a2 a3 s = some q) : AC mm_X10_compare yX10_compare 6 0 0 [av_r a0, av_i a1, av_i a2, av_i a3] s (some (av_i q.1), q.2) := by
  exact ax_met (L0 := [some (av_r a0), some (av_i a1), some (av_i a2), some (av_i a3), none, none, none, none, none, none]) (by decide +kernel) rfl (fun h => absurd h (by decide)) ⟨rfl, rfl, rfl, rfl, trivial⟩ (Nat.le_of_ble_eq_true rfl) trivial (tw_X10_compare h)
/-! X10_isParameter -/
abbrev mm_X10_isParameter : ax_M := (RX10, cX10_isParameter, (some .boolean), 3, false)
def fi_X10_isParameter (a0 : Option Nat) (a1 : Int32) (a2 : Int32) (s : ax_S) : Option (Int32 × ax_S) :=
  (ax_sh s 7 a0).bind fun w1 =>
  (fn_X10_isNode a0 a1 s).bind fun q2 =>
  if q2.1 = 0 then
    some ((0), q2.2)
  else
    (ax_gr q2.2 7 14 a0).bind fun r4 =>
    (ax_sh q2.2 7 a0).bind fun w5 =>
    (fn_X10_kind a0 a1 q2.2).bind fun q6 =>
    (ax_al q6.2 9 r4 q6.1).bind fun x7 =>
    (fn_X10_in a2 (0) (x7 - (1)) q6.2).bind fun q8 =>
    if q8.1 = 0 then
      some ((0), q8.2)
    else
      some ((1), q8.2)
set_option maxRecDepth 100000 in
set_option maxHeartbeats 4000000 in
theorem tw_X10_isParameter {q : Int32 × ax_S} {a0 : Option Nat} {a1 : Int32} {a2 : Int32} {s : ax_S} (h : fi_X10_isParameter a0 a1 a2 s = some q) : AW mm_X10_isParameter 2 0 0 0 [some (av_r a0), some (av_i a1), some (av_i a2)] [] s (some (av_i q.1), q.2) := by
  unfold fi_X10_isParameter at h
  refine ax_aload_n (i := 0) dX10_isParameter_0 rfl rfl ?_
  refine ax_iload_n (i := 1) dX10_isParameter_1 rfl rfl ?_
  obtain ⟨w1, gw1, h⟩ := Option.bind_eq_some_iff.mp h
  obtain ⟨q2, gq2, h⟩ := Option.bind_eq_some_iff.mp h
  refine ax_cV (As := [av_i a1]) (t := 7) dX10_isParameter_2 gw1 (th_X10_isNode gq2) rfl (And.intro wd_873 wd_59) wd_870 wd_872 wd_18 cy_X10_isNode (by omega) (by decide) (Nat.le_of_ble_eq_true rfl) rfl ?_
  refine ax_if_eq (tgt := 32) dX10_isParameter_5 (by decide) (fun c3 => ?_) (fun c3 => ?_)
  · rw [if_pos c3] at h
    refine ax_iconst (v := (0)) dX10_isParameter_32 rfl ?_
    exact ax_reti dX10_isParameter_33 h
  · rw [if_neg c3] at h
    refine ax_iload_n (i := 2) dX10_isParameter_8 rfl rfl ?_
    refine ax_iconst (v := (0)) dX10_isParameter_9 rfl ?_
    refine ax_aload_n (i := 0) dX10_isParameter_10 rfl rfl ?_
    obtain ⟨r4, gr4, h⟩ := Option.bind_eq_some_iff.mp h
    refine ax_getR (q := (RX10, TX10, 28)) (t := 7) (k := 14) dX10_isParameter_11 rfl (by decide) wd_770 rfl gr4 ?_
    refine ax_aload_n (i := 0) dX10_isParameter_14 rfl rfl ?_
    refine ax_iload_n (i := 1) dX10_isParameter_15 rfl rfl ?_
    obtain ⟨w5, gw5, h⟩ := Option.bind_eq_some_iff.mp h
    obtain ⟨q6, gq6, h⟩ := Option.bind_eq_some_iff.mp h
    refine ax_cV (As := [av_i a1]) (t := 7) dX10_isParameter_16 gw5 (th_X10_kind gq6) rfl (And.intro wd_877 wd_59) wd_874 wd_876 wd_19 cy_X10_kind (by omega) (by decide) (Nat.le_of_ble_eq_true rfl) rfl ?_
    obtain ⟨x7, gx7, h⟩ := Option.bind_eq_some_iff.mp h
    refine ax_iald dX10_isParameter_19 gx7 ?_
    refine ax_iconst (v := (1)) dX10_isParameter_20 rfl ?_
    refine ax_isub dX10_isParameter_21 ?_
    obtain ⟨q8, gq8, h⟩ := Option.bind_eq_some_iff.mp h
    refine ax_cS (As := [av_i a2, av_i (0), av_i (x7 - (1))]) dX10_isParameter_22 (th_X10_in gq8) (And.intro wd_851 wd_59) wd_849 wd_850 cy_X10_in (by omega) (by decide) (Nat.le_of_ble_eq_true rfl) rfl ?_
    refine ax_if_eq (tgt := 32) dX10_isParameter_25 (by decide) (fun c9 => ?_) (fun c9 => ?_)
    · rw [if_pos c9] at h
      refine ax_iconst (v := (0)) dX10_isParameter_32 rfl ?_
      exact ax_reti dX10_isParameter_33 h
    · rw [if_neg c9] at h
      refine ax_iconst (v := (1)) dX10_isParameter_28 rfl ?_
      refine ax_goto (tgt := 33) dX10_isParameter_29 (by decide) ?_
      exact ax_reti dX10_isParameter_33 h
def fn_X10_isParameter (a0 : Option Nat) (a1 : Int32) (a2 : Int32) (s : ax_S) : Option (Int32 × ax_S) := ax_bz (fi_X10_isParameter a0 a1 a2 s)
set_option maxRecDepth 100000 in
set_option maxHeartbeats 4000000 in
theorem th_X10_isParameter {q : Int32 × ax_S} {a0 : Option Nat} {a1 : Int32} {a2 : Int32} {s : ax_S} (h : fn_X10_isParameter a0 a1 a2 s = some q) : AC mm_X10_isParameter yX10_isParameter 2 0 0 [av_r a0, av_i a1, av_i a2] s (some (av_i q.1), q.2) := by
  obtain ⟨h, hz⟩ := ax_bz_of h
  exact ax_met (L0 := [some (av_r a0), some (av_i a1), some (av_i a2)]) (by decide +kernel) rfl (fun h => absurd h (by decide)) ⟨rfl, rfl, rfl, trivial⟩ (Nat.le_of_ble_eq_true rfl) hz (tw_X10_isParameter h)
/-! X10_parameter -/
abbrev mm_X10_parameter : ax_M := (RX10, cX10_parameter, (some .int), 3, false)
def fn_X10_parameter (a0 : Option Nat) (a1 : Int32) (a2 : Int32) (s : ax_S) : Option (Int32 × ax_S) :=
  (ax_sh s 7 a0).bind fun w1 =>
  (fn_X10_isParameter a0 a1 a2 s).bind fun q2 =>
  if q2.1 = 0 then
    some ((-1001), q2.2)
  else
    (ax_gr q2.2 7 0 a0).bind fun r4 =>
    (fn_X10_at a1 ((6) + a2) q2.2).bind fun q5 =>
    (ax_al q5.2 9 r4 q5.1).bind fun x6 =>
    some (x6, q5.2)
set_option maxRecDepth 100000 in
set_option maxHeartbeats 4000000 in
theorem tw_X10_parameter {q : Int32 × ax_S} {a0 : Option Nat} {a1 : Int32} {a2 : Int32} {s : ax_S} (h : fn_X10_parameter a0 a1 a2 s = some q) : AW mm_X10_parameter 3 0 0 0 [some (av_r a0), some (av_i a1), some (av_i a2)] [] s (some (av_i q.1), q.2) := by
  unfold fn_X10_parameter at h
  refine ax_aload_n (i := 0) dX10_parameter_0 rfl rfl ?_
  refine ax_iload_n (i := 1) dX10_parameter_1 rfl rfl ?_
  refine ax_iload_n (i := 2) dX10_parameter_2 rfl rfl ?_
  obtain ⟨w1, gw1, h⟩ := Option.bind_eq_some_iff.mp h
  obtain ⟨q2, gq2, h⟩ := Option.bind_eq_some_iff.mp h
  refine ax_cV (As := [av_i a1, av_i a2]) (t := 7) dX10_parameter_3 gw1 (th_X10_isParameter gq2) rfl (And.intro wd_897 wd_59) wd_894 wd_896 wd_23 cy_X10_isParameter (by omega) (by decide) (Nat.le_of_ble_eq_true rfl) rfl ?_
  refine ax_if_eq (tgt := 25) dX10_parameter_6 (by decide) (fun c3 => ?_) (fun c3 => ?_)
  · rw [if_pos c3] at h
    refine ax_sipush (v := (-1001)) dX10_parameter_25 rfl ?_
    exact ax_reti dX10_parameter_28 h
  · rw [if_neg c3] at h
    refine ax_aload_n (i := 0) dX10_parameter_9 rfl rfl ?_
    obtain ⟨r4, gr4, h⟩ := Option.bind_eq_some_iff.mp h
    refine ax_getR (q := (RX10, TX10, 28)) (t := 7) (k := 0) dX10_parameter_10 rfl (by decide) wd_756 rfl gr4 ?_
    refine ax_iload_n (i := 1) dX10_parameter_13 rfl rfl ?_
    refine ax_bipush (v := (6)) dX10_parameter_14 rfl ?_
    refine ax_iload_n (i := 2) dX10_parameter_16 rfl rfl ?_
    refine ax_iadd dX10_parameter_17 ?_
    obtain ⟨q5, gq5, h⟩ := Option.bind_eq_some_iff.mp h
    refine ax_cS (As := [av_i a1, av_i ((6) + a2)]) dX10_parameter_18 (th_X10_at gq5) (And.intro wd_858 wd_59) wd_856 wd_857 cy_X10_at (by omega) (by decide) (Nat.le_of_ble_eq_true rfl) rfl ?_
    obtain ⟨x6, gx6, h⟩ := Option.bind_eq_some_iff.mp h
    refine ax_iald dX10_parameter_21 gx6 ?_
    refine ax_goto (tgt := 28) dX10_parameter_22 (by decide) ?_
    exact ax_reti dX10_parameter_28 h
set_option maxRecDepth 100000 in
set_option maxHeartbeats 4000000 in
theorem th_X10_parameter {q : Int32 × ax_S} {a0 : Option Nat} {a1 : Int32} {a2 : Int32} {s : ax_S} (h : fn_X10_parameter a0 a1 a2 s = some q) : AC mm_X10_parameter yX10_parameter 3 0 0 [av_r a0, av_i a1, av_i a2] s (some (av_i q.1), q.2) := by
  exact ax_met (L0 := [some (av_r a0), some (av_i a1), some (av_i a2)]) (by decide +kernel) rfl (fun h => absurd h (by decide)) ⟨rfl, rfl, rfl, trivial⟩ (Nat.le_of_ble_eq_true rfl) trivial (tw_X10_parameter h)
/-! X10_clearText -/
abbrev mm_X10_clearText : ax_M := (RX10, cX10_clearText, (some .int), 2, false)
def fn_X10_clearText (a0 : Option Nat) (s : ax_S) : Option (Int32 × ax_S) :=
  (ax_gi s 7 12 a0).bind fun x1 =>
  (ax_pi s 7 12 a0 (0)).bind fun s2 =>
  some (x1, s2)
set_option maxRecDepth 100000 in
set_option maxHeartbeats 4000000 in
theorem tw_X10_clearText {q : Int32 × ax_S} {a0 : Option Nat} {s : ax_S} (h : fn_X10_clearText a0 s = some q) : AW mm_X10_clearText 0 0 0 0 [some (av_r a0), none] [] s (some (av_i q.1), q.2) := by
  unfold fn_X10_clearText at h
  refine ax_aload_n (i := 0) dX10_clearText_0 rfl rfl ?_
  obtain ⟨x1, gx1, h⟩ := Option.bind_eq_some_iff.mp h
  refine ax_getI (q := (RX10, TX10, 28)) (t := 7) (k := 12) dX10_clearText_1 rfl (by decide) wd_768 rfl gx1 ?_
  refine ax_istore_n (i := 1) (L2 := [some (av_r a0), some (av_i x1)]) dX10_clearText_4 rfl (by decide) rfl rfl ?_
  refine ax_aload_n (i := 0) dX10_clearText_5 rfl rfl ?_
  refine ax_iconst (v := (0)) dX10_clearText_6 rfl ?_
  obtain ⟨s2, gs2, h⟩ := Option.bind_eq_some_iff.mp h
  refine ax_putI (q := (RX10, TX10, 28)) (t := 7) (k := 12) dX10_clearText_7 rfl (by decide) wd_768 rfl rfl ⟨rfl, rfl⟩ gs2 ?_
  refine ax_iload_n (i := 1) dX10_clearText_10 rfl rfl ?_
  exact ax_reti dX10_clearText_11 h
set_option maxRecDepth 100000 in
set_option maxHeartbeats 4000000 in
theorem th_X10_clearText {q : Int32 × ax_S} {a0 : Option Nat} {s : ax_S} (h : fn_X10_clearText a0 s = some q) : AC mm_X10_clearText yX10_clearText 0 0 0 [av_r a0] s (some (av_i q.1), q.2) := by
  exact ax_met (L0 := [some (av_r a0), none]) (by decide +kernel) rfl (fun h => absurd h (by decide)) ⟨rfl, trivial⟩ (Nat.le_of_ble_eq_true rfl) trivial (tw_X10_clearText h)
/-! X10_faultPosition -/
abbrev mm_X10_faultPosition : ax_M := (RX10, cX10_faultPosition, (some .int), 1, false)
def fn_X10_faultPosition (a0 : Option Nat) (s : ax_S) : Option (Int32 × ax_S) :=
  (ax_sh s 7 a0).bind fun w1 =>
  (fn_X10_isText a0 s).bind fun q2 =>
  if q2.1 = 0 then
    (ax_gi q2.2 7 19 a0).bind fun x4 =>
    some (x4, q2.2)
  else
    some ((-1005), q2.2)
set_option maxRecDepth 100000 in
set_option maxHeartbeats 4000000 in
theorem tw_X10_faultPosition {q : Int32 × ax_S} {a0 : Option Nat} {s : ax_S} (h : fn_X10_faultPosition a0 s = some q) : AW mm_X10_faultPosition 5 0 0 0 [some (av_r a0)] [] s (some (av_i q.1), q.2) := by
  unfold fn_X10_faultPosition at h
  refine ax_aload_n (i := 0) dX10_faultPosition_0 rfl rfl ?_
  obtain ⟨w1, gw1, h⟩ := Option.bind_eq_some_iff.mp h
  obtain ⟨q2, gq2, h⟩ := Option.bind_eq_some_iff.mp h
  refine ax_cV (As := []) (t := 7) dX10_faultPosition_1 gw1 (th_X10_isText gq2) rfl (And.intro wd_1048 wd_59) wd_1045 wd_1047 wd_42 cy_X10_isText (by omega) (by decide) (Nat.le_of_ble_eq_true rfl) rfl ?_
  refine ax_if_eq (tgt := 13) dX10_faultPosition_4 (by decide) (fun c3 => ?_) (fun c3 => ?_)
  · rw [if_pos c3] at h
    refine ax_aload_n (i := 0) dX10_faultPosition_13 rfl rfl ?_
    obtain ⟨x4, gx4, h⟩ := Option.bind_eq_some_iff.mp h
    refine ax_getI (q := (RX10, TX10, 28)) (t := 7) (k := 19) dX10_faultPosition_14 rfl (by decide) wd_775 rfl gx4 ?_
    exact ax_reti dX10_faultPosition_17 h
  · rw [if_neg c3] at h
    refine ax_sipush (v := (-1005)) dX10_faultPosition_7 rfl ?_
    refine ax_goto (tgt := 17) dX10_faultPosition_10 (by decide) ?_
    exact ax_reti dX10_faultPosition_17 h
set_option maxRecDepth 100000 in
set_option maxHeartbeats 4000000 in
theorem th_X10_faultPosition {q : Int32 × ax_S} {a0 : Option Nat} {s : ax_S} (h : fn_X10_faultPosition a0 s = some q) : AC mm_X10_faultPosition yX10_faultPosition 5 0 0 [av_r a0] s (some (av_i q.1), q.2) := by
  exact ax_met (L0 := [some (av_r a0)]) (by decide +kernel) rfl (fun h => absurd h (by decide)) ⟨rfl, trivial⟩ (Nat.le_of_ble_eq_true rfl) trivial (tw_X10_faultPosition h)
/-! X10_restore -/
abbrev mm_X10_restore : ax_M := (RX10, cX10_restore, (some .int), 3, false)
def fb_X10_restore_28 : Nat → Option Nat → Int32 → Int32 → ax_S → Option (Int32 × ax_S)
  | 0, _, _, _, _ => none
  | n + 1, a0, a1, a2, s =>
    if (121) ≤ a2 then
      (ax_pi s 7 4 a0 (0)).bind fun s2 =>
      (ax_gr s2 7 0 a0).bind fun r3 =>
      (ax_al s2 9 r3 (0)).bind fun x4 =>
      some (x4, s2)
    else
      (ax_gr s 7 0 a0).bind fun r5 =>
      (ax_gr s 7 1 a0).bind fun r6 =>
      (ax_al s 9 r6 (((121) * a1) + a2)).bind fun x7 =>
      (ax_as s 9 r5 a2 x7).bind fun s8 =>
      (fb_X10_restore_28 n) a0 a1 (a2 + (1)) s8
set_option maxRecDepth 100000 in
set_option maxHeartbeats 4000000 in
theorem tb_X10_restore_28 {q : Int32 × ax_S} : ∀ (n : Nat) (a0 : Option Nat) (a1 : Int32) (a2 : Int32) (s : ax_S) (h : fb_X10_restore_28 n a0 a1 a2 s = some q), AW mm_X10_restore 1 0 0 28 [(some (av_r a0)), (some (av_i a1)), (some (av_i a2))] [] s (some (av_i q.1), q.2) := by
  intro n
  induction n with
  | zero =>
    intro a0 a1 a2 s h
    exact ax_no h
  | succ n ih =>
    intro a0 a1 a2 s h
    unfold fb_X10_restore_28 at h
    refine ax_iload_n (i := 2) dX10_restore_28 rfl rfl ?_
    refine ax_bipush (v := (121)) dX10_restore_29 rfl ?_
    refine ax_icmp_ge (tgt := 57) dX10_restore_31 (by decide) (fun c1 => ?_) (fun c1 => ?_)
    · rw [if_pos c1] at h
      refine ax_aload_n (i := 0) dX10_restore_57 rfl rfl ?_
      refine ax_iconst (v := (0)) dX10_restore_58 rfl ?_
      obtain ⟨s2, gs2, h⟩ := Option.bind_eq_some_iff.mp h
      refine ax_putI (q := (RX10, TX10, 28)) (t := 7) (k := 4) dX10_restore_59 rfl (by decide) wd_760 rfl rfl ⟨rfl, rfl⟩ gs2 ?_
      refine ax_aload_n (i := 0) dX10_restore_62 rfl rfl ?_
      obtain ⟨r3, gr3, h⟩ := Option.bind_eq_some_iff.mp h
      refine ax_getR (q := (RX10, TX10, 28)) (t := 7) (k := 0) dX10_restore_63 rfl (by decide) wd_756 rfl gr3 ?_
      refine ax_iconst (v := (0)) dX10_restore_66 rfl ?_
      obtain ⟨x4, gx4, h⟩ := Option.bind_eq_some_iff.mp h
      refine ax_iald dX10_restore_67 gx4 ?_
      exact ax_reti dX10_restore_68 h
    · rw [if_neg c1] at h
      refine ax_aload_n (i := 0) dX10_restore_34 rfl rfl ?_
      obtain ⟨r5, gr5, h⟩ := Option.bind_eq_some_iff.mp h
      refine ax_getR (q := (RX10, TX10, 28)) (t := 7) (k := 0) dX10_restore_35 rfl (by decide) wd_756 rfl gr5 ?_
      refine ax_iload_n (i := 2) dX10_restore_38 rfl rfl ?_
      refine ax_aload_n (i := 0) dX10_restore_39 rfl rfl ?_
      obtain ⟨r6, gr6, h⟩ := Option.bind_eq_some_iff.mp h
      refine ax_getR (q := (RX10, TX10, 28)) (t := 7) (k := 1) dX10_restore_40 rfl (by decide) wd_757 rfl gr6 ?_
      refine ax_bipush (v := (121)) dX10_restore_43 rfl ?_
      refine ax_iload_n (i := 1) dX10_restore_45 rfl rfl ?_
      refine ax_imul dX10_restore_46 ?_
      refine ax_iload_n (i := 2) dX10_restore_47 rfl rfl ?_
      refine ax_iadd dX10_restore_48 ?_
      obtain ⟨x7, gx7, h⟩ := Option.bind_eq_some_iff.mp h
      refine ax_iald dX10_restore_49 gx7 ?_
      obtain ⟨s8, gs8, h⟩ := Option.bind_eq_some_iff.mp h
      refine ax_iast dX10_restore_50 gs8 ?_
      refine ax_iinc (i := 2) (v := (a2 + (1))) (L2 := [some (av_r a0), some (av_i a1), some (av_i (a2 + (1)))]) dX10_restore_51 rfl rfl (by decide) rfl rfl ?_
      refine ax_goto (tgt := 28) dX10_restore_54 (by decide) ?_
      exact ax_less (L' := [(some (av_r a0)), (some (av_i a1)), (some (av_i (a2 + (1))))]) ⟨rfl, rfl, rfl, trivial⟩ (ih _ _ _ _ h)
def fn_X10_restore (a0 : Option Nat) (a1 : Int32) (s : ax_S) : Option (Int32 × ax_S) :=
  (fn_X10_in a1 (0) (1) s).bind fun q9 =>
  if q9.1 = 0 then
    some ((-1001), q9.2)
  else
    (ax_gr q9.2 7 2 a0).bind fun r11 =>
    (ax_al q9.2 10 r11 a1).bind fun x12 =>
    if x12 = 0 then
      some ((-1003), q9.2)
    else
      fb_X10_restore_28 10000 a0 a1 (0) q9.2
set_option maxRecDepth 100000 in
set_option maxHeartbeats 4000000 in
theorem tw_X10_restore {q : Int32 × ax_S} {a0 : Option Nat} {a1 : Int32} {s : ax_S} (h : fn_X10_restore a0 a1 s = some q) : AW mm_X10_restore 1 0 0 0 [some (av_r a0), some (av_i a1), none] [] s (some (av_i q.1), q.2) := by
  unfold fn_X10_restore at h
  refine ax_iload_n (i := 1) dX10_restore_0 rfl rfl ?_
  refine ax_iconst (v := (0)) dX10_restore_1 rfl ?_
  refine ax_iconst (v := (1)) dX10_restore_2 rfl ?_
  obtain ⟨q9, gq9, h⟩ := Option.bind_eq_some_iff.mp h
  refine ax_cS (As := [av_i a1, av_i (0), av_i (1)]) dX10_restore_3 (th_X10_in gq9) (And.intro wd_851 wd_59) wd_849 wd_850 cy_X10_in (by omega) (by decide) (Nat.le_of_ble_eq_true rfl) rfl ?_
  refine ax_if_ne (tgt := 13) dX10_restore_6 (by decide) (fun c10 => ?_) (fun c10 => ?_)
  · rw [if_neg c10] at h
    refine ax_aload_n (i := 0) dX10_restore_13 rfl rfl ?_
    obtain ⟨r11, gr11, h⟩ := Option.bind_eq_some_iff.mp h
    refine ax_getR (q := (RX10, TX10, 28)) (t := 7) (k := 2) dX10_restore_14 rfl (by decide) wd_758 rfl gr11 ?_
    refine ax_iload_n (i := 1) dX10_restore_17 rfl rfl ?_
    obtain ⟨x12, gx12, h⟩ := Option.bind_eq_some_iff.mp h
    refine ax_zald dX10_restore_18 gx12 ?_
    refine ax_if_ne (tgt := 26) dX10_restore_19 (by decide) (fun c13 => ?_) (fun c13 => ?_)
    · rw [if_neg c13] at h
      refine ax_iconst (v := (0)) dX10_restore_26 rfl ?_
      refine ax_istore_n (i := 2) (L2 := [some (av_r a0), some (av_i a1), some (av_i (0))]) dX10_restore_27 rfl (by decide) rfl rfl ?_
      exact ax_less (L' := [(some (av_r a0)), (some (av_i a1)), (some (av_i (0)))]) ⟨rfl, rfl, rfl, trivial⟩ (tb_X10_restore_28  _ _ _ _ _ h)
    · rw [if_pos c13] at h
      refine ax_sipush (v := (-1003)) dX10_restore_22 rfl ?_
      exact ax_reti dX10_restore_25 h
  · rw [if_pos c10] at h
    refine ax_sipush (v := (-1001)) dX10_restore_9 rfl ?_
    exact ax_reti dX10_restore_12 h
set_option maxRecDepth 100000 in
set_option maxHeartbeats 4000000 in
theorem th_X10_restore {q : Int32 × ax_S} {a0 : Option Nat} {a1 : Int32} {s : ax_S} (h : fn_X10_restore a0 a1 s = some q) : AC mm_X10_restore yX10_restore 1 0 0 [av_r a0, av_i a1] s (some (av_i q.1), q.2) := by
  exact ax_met (L0 := [some (av_r a0), some (av_i a1), none]) (by decide +kernel) rfl (fun h => absurd h (by decide)) ⟨rfl, rfl, trivial⟩ (Nat.le_of_ble_eq_true rfl) trivial (tw_X10_restore h)
/-! X10_addNode -/
abbrev mm_X10_addNode : ax_M := (RX10, cX10_addNode, (some .int), 2, false)
def fn_X10_addNode (a0 : Option Nat) (a1 : Int32) (s : ax_S) : Option (Int32 × ax_S) :=
  (fn_X10_in a1 (0) (6) s).bind fun q1 =>
  if q1.1 = 0 then
    some ((-1002), q1.2)
  else
    (ax_gr q1.2 7 0 a0).bind fun r3 =>
    (ax_al q1.2 9 r3 (0)).bind fun x4 =>
    if x4 = (12) then
      some ((-1004), q1.2)
    else
      (ax_sh q1.2 7 a0).bind fun w6 =>
      (fn_X10_adds a0 a1 q1.2).bind fun q7 =>
      some (q7.1, q7.2)
set_option maxRecDepth 100000 in
set_option maxHeartbeats 4000000 in
theorem tw_X10_addNode {q : Int32 × ax_S} {a0 : Option Nat} {a1 : Int32} {s : ax_S} (h : fn_X10_addNode a0 a1 s = some q) : AW mm_X10_addNode 2 0 0 0 [some (av_r a0), some (av_i a1)] [] s (some (av_i q.1), q.2) := by
  unfold fn_X10_addNode at h
  refine ax_iload_n (i := 1) dX10_addNode_0 rfl rfl ?_
  refine ax_iconst (v := (0)) dX10_addNode_1 rfl ?_
  refine ax_bipush (v := (6)) dX10_addNode_2 rfl ?_
  obtain ⟨q1, gq1, h⟩ := Option.bind_eq_some_iff.mp h
  refine ax_cS (As := [av_i a1, av_i (0), av_i (6)]) dX10_addNode_4 (th_X10_in gq1) (And.intro wd_851 wd_59) wd_849 wd_850 cy_X10_in (by omega) (by decide) (Nat.le_of_ble_eq_true rfl) rfl ?_
  refine ax_if_ne (tgt := 14) dX10_addNode_7 (by decide) (fun c2 => ?_) (fun c2 => ?_)
  · rw [if_neg c2] at h
    refine ax_aload_n (i := 0) dX10_addNode_14 rfl rfl ?_
    obtain ⟨r3, gr3, h⟩ := Option.bind_eq_some_iff.mp h
    refine ax_getR (q := (RX10, TX10, 28)) (t := 7) (k := 0) dX10_addNode_15 rfl (by decide) wd_756 rfl gr3 ?_
    refine ax_iconst (v := (0)) dX10_addNode_18 rfl ?_
    obtain ⟨x4, gx4, h⟩ := Option.bind_eq_some_iff.mp h
    refine ax_iald dX10_addNode_19 gx4 ?_
    refine ax_bipush (v := (12)) dX10_addNode_20 rfl ?_
    refine ax_icmp_ne (tgt := 31) dX10_addNode_22 (by decide) (fun c5 => ?_) (fun c5 => ?_)
    · rw [if_neg c5] at h
      refine ax_aload_n (i := 0) dX10_addNode_31 rfl rfl ?_
      refine ax_iload_n (i := 1) dX10_addNode_32 rfl rfl ?_
      obtain ⟨w6, gw6, h⟩ := Option.bind_eq_some_iff.mp h
      obtain ⟨q7, gq7, h⟩ := Option.bind_eq_some_iff.mp h
      refine ax_cV (As := [av_i a1]) (t := 7) dX10_addNode_33 gw6 (th_X10_adds gq7) rfl (And.intro wd_855 wd_59) wd_852 wd_854 wd_16 cy_X10_adds (by omega) (by decide) (Nat.le_of_ble_eq_true rfl) rfl ?_
      exact ax_reti dX10_addNode_36 h
    · rw [if_pos c5] at h
      refine ax_sipush (v := (-1004)) dX10_addNode_25 rfl ?_
      refine ax_goto (tgt := 36) dX10_addNode_28 (by decide) ?_
      exact ax_reti dX10_addNode_36 h
  · rw [if_pos c2] at h
    refine ax_sipush (v := (-1002)) dX10_addNode_10 rfl ?_
    exact ax_reti dX10_addNode_13 h
set_option maxRecDepth 100000 in
set_option maxHeartbeats 4000000 in
theorem th_X10_addNode {q : Int32 × ax_S} {a0 : Option Nat} {a1 : Int32} {s : ax_S} (h : fn_X10_addNode a0 a1 s = some q) : AC mm_X10_addNode yX10_addNode 2 0 0 [av_r a0, av_i a1] s (some (av_i q.1), q.2) := by
  exact ax_met (L0 := [some (av_r a0), some (av_i a1)]) (by decide +kernel) rfl (fun h => absurd h (by decide)) ⟨rfl, rfl, trivial⟩ (Nat.le_of_ble_eq_true rfl) trivial (tw_X10_addNode h)
/-! X10_sums -/
abbrev mm_X10_sums : ax_M := (RX10, cX10_sums, (some .int), 11, false)
def fb_X10_sums_127 (k16 : Option Nat → Int32 → Int32 → Int32 → Int32 → Int32 → Int32 → Int32 → ax_S → Option (Int32 × ax_S)) (a0 : Option Nat) (a1 : Int32) (a2 : Int32) (a3 : Int32) (a4 : Int32) (a5 : Int32) (a7 : Int32) (b0 : Int32) (b1 : Int32) (s : ax_S) : Option (Int32 × ax_S) :=
  ax_bd ((b0 + b1)) fun v1 =>
  k16 a0 a1 a2 a3 a4 a5 v1 (a7 + (1)) s
set_option maxRecDepth 100000 in
set_option maxHeartbeats 4000000 in
theorem tb_X10_sums_127 {q : Int32 × ax_S} {k16 : Option Nat → Int32 → Int32 → Int32 → Int32 → Int32 → Int32 → Int32 → ax_S → Option (Int32 × ax_S)} (hk16 : ∀ (a0 : Option Nat) (a1 : Int32) (a2 : Int32) (a3 : Int32) (a4 : Int32) (a5 : Int32) (a6 : Int32) (a7 : Int32) (s : ax_S), k16 a0 a1 a2 a3 a4 a5 a6 a7 s = some q → AW mm_X10_sums 0 0 0 16 [(some (av_r a0)), (some (av_i a1)), (some (av_i a2)), (some (av_i a3)), (some (av_i a4)), (some (av_i a5)), (some (av_i a6)), (some (av_i a7)), none, none, none] [] s (some (av_i q.1), q.2)) {a0 : Option Nat} {a1 : Int32} {a2 : Int32} {a3 : Int32} {a4 : Int32} {a5 : Int32} {a7 : Int32} {b0 : Int32} {b1 : Int32} {s : ax_S} (h : fb_X10_sums_127 k16 a0 a1 a2 a3 a4 a5 a7 b0 b1 s = some q) : AW mm_X10_sums 0 0 0 127 [(some (av_r a0)), (some (av_i a1)), (some (av_i a2)), (some (av_i a3)), (some (av_i a4)), (some (av_i a5)), none, (some (av_i a7)), none, none, none] [av_i b1, av_i b0] s (some (av_i q.1), q.2) := by
  unfold fb_X10_sums_127 at h
  refine ax_iadd dX10_sums_127 ?_
  refine ax_bdI h (fun v1 h => ?_)
  refine ax_istore (i := 6) (L2 := [some (av_r a0), some (av_i a1), some (av_i a2), some (av_i a3), some (av_i a4), some (av_i a5), some (av_i v1), some (av_i a7), none, none, none]) dX10_sums_128 (by decide) rfl rfl ?_
  refine ax_iinc (i := 7) (v := (a7 + (1))) (L2 := [some (av_r a0), some (av_i a1), some (av_i a2), some (av_i a3), some (av_i a4), some (av_i a5), some (av_i v1), some (av_i (a7 + (1))), none, none, none]) dX10_sums_130 rfl rfl (by decide) rfl rfl ?_
  refine ax_goto (tgt := 16) dX10_sums_133 (by decide) ?_
  exact ax_less (L' := [(some (av_r a0)), (some (av_i a1)), (some (av_i a2)), (some (av_i a3)), (some (av_i a4)), (some (av_i a5)), (some (av_i v1)), (some (av_i (a7 + (1)))), none, none, none]) ⟨rfl, rfl, rfl, rfl, rfl, rfl, rfl, rfl, trivial⟩ (hk16 _ _ _ _ _ _ _ _ _ h)
def fb_X10_sums_106 (k16 : Option Nat → Int32 → Int32 → Int32 → Int32 → Int32 → Int32 → Int32 → ax_S → Option (Int32 × ax_S)) (k76 : Option Nat → Int32 → Int32 → Int32 → Int32 → Int32 → Int32 → Int32 → Int32 → Int32 → Int32 → ax_S → Option (Int32 × ax_S)) (a0 : Option Nat) (a1 : Int32) (a2 : Int32) (a3 : Int32) (a4 : Int32) (a5 : Int32) (a6 : Int32) (a7 : Int32) (a8 : Int32) (a10 : Int32) (s : ax_S) : Option (Int32 × ax_S) :=
  k76 a0 a1 a2 a3 a4 a5 a6 a7 a8 (0) (a10 + (1)) s
set_option maxRecDepth 100000 in
set_option maxHeartbeats 4000000 in
theorem tb_X10_sums_106 {q : Int32 × ax_S} {k16 : Option Nat → Int32 → Int32 → Int32 → Int32 → Int32 → Int32 → Int32 → ax_S → Option (Int32 × ax_S)} {k76 : Option Nat → Int32 → Int32 → Int32 → Int32 → Int32 → Int32 → Int32 → Int32 → Int32 → Int32 → ax_S → Option (Int32 × ax_S)} (hk16 : ∀ (a0 : Option Nat) (a1 : Int32) (a2 : Int32) (a3 : Int32) (a4 : Int32) (a5 : Int32) (a6 : Int32) (a7 : Int32) (s : ax_S), k16 a0 a1 a2 a3 a4 a5 a6 a7 s = some q → AW mm_X10_sums 0 0 0 16 [(some (av_r a0)), (some (av_i a1)), (some (av_i a2)), (some (av_i a3)), (some (av_i a4)), (some (av_i a5)), (some (av_i a6)), (some (av_i a7)), none, none, none] [] s (some (av_i q.1), q.2)) (hk76 : ∀ (a0 : Option Nat) (a1 : Int32) (a2 : Int32) (a3 : Int32) (a4 : Int32) (a5 : Int32) (a6 : Int32) (a7 : Int32) (a8 : Int32) (a9 : Int32) (a10 : Int32) (s : ax_S), k76 a0 a1 a2 a3 a4 a5 a6 a7 a8 a9 a10 s = some q → AW mm_X10_sums 0 0 0 76 [(some (av_r a0)), (some (av_i a1)), (some (av_i a2)), (some (av_i a3)), (some (av_i a4)), (some (av_i a5)), (some (av_i a6)), (some (av_i a7)), (some (av_i a8)), (some (av_i a9)), (some (av_i a10))] [] s (some (av_i q.1), q.2)) {a0 : Option Nat} {a1 : Int32} {a2 : Int32} {a3 : Int32} {a4 : Int32} {a5 : Int32} {a6 : Int32} {a7 : Int32} {a8 : Int32} {a10 : Int32} {s : ax_S} (h : fb_X10_sums_106 k16 k76 a0 a1 a2 a3 a4 a5 a6 a7 a8 a10 s = some q) : AW mm_X10_sums 0 0 0 106 [(some (av_r a0)), (some (av_i a1)), (some (av_i a2)), (some (av_i a3)), (some (av_i a4)), (some (av_i a5)), (some (av_i a6)), (some (av_i a7)), (some (av_i a8)), none, (some (av_i a10))] [] s (some (av_i q.1), q.2) := by
  unfold fb_X10_sums_106 at h
  refine ax_iconst (v := (0)) dX10_sums_106 rfl ?_
  refine ax_istore (i := 9) (L2 := [some (av_r a0), some (av_i a1), some (av_i a2), some (av_i a3), some (av_i a4), some (av_i a5), some (av_i a6), some (av_i a7), some (av_i a8), some (av_i (0)), some (av_i a10)]) dX10_sums_107 (by decide) rfl rfl ?_
  refine ax_iinc (i := 10) (v := (a10 + (1))) (L2 := [some (av_r a0), some (av_i a1), some (av_i a2), some (av_i a3), some (av_i a4), some (av_i a5), some (av_i a6), some (av_i a7), some (av_i a8), some (av_i (0)), some (av_i (a10 + (1)))]) dX10_sums_109 rfl rfl (by decide) rfl rfl ?_
  refine ax_goto (tgt := 76) dX10_sums_112 (by decide) ?_
  exact ax_less (L' := [(some (av_r a0)), (some (av_i a1)), (some (av_i a2)), (some (av_i a3)), (some (av_i a4)), (some (av_i a5)), (some (av_i a6)), (some (av_i a7)), (some (av_i a8)), (some (av_i (0))), (some (av_i (a10 + (1))))]) ⟨rfl, rfl, rfl, rfl, rfl, rfl, rfl, rfl, rfl, rfl, rfl, trivial⟩ (hk76 _ _ _ _ _ _ _ _ _ _ _ _ h)
def fb_X10_sums_76 (k16 : Option Nat → Int32 → Int32 → Int32 → Int32 → Int32 → Int32 → Int32 → ax_S → Option (Int32 × ax_S)) : Nat → Option Nat → Int32 → Int32 → Int32 → Int32 → Int32 → Int32 → Int32 → Int32 → Int32 → Int32 → ax_S → Option (Int32 × ax_S)
  | 0, _, _, _, _, _, _, _, _, _, _, _, _ => none
  | n + 1, a0, a1, a2, a3, a4, a5, a6, a7, a8, a9, a10, s =>
    if a7 ≤ a10 then
      if a9 = 0 then
        fb_X10_sums_127 k16 a0 a1 a2 a3 a4 a5 a7 a6 (0) s
      else
        fb_X10_sums_127 k16 a0 a1 a2 a3 a4 a5 a7 a6 (1) s
    else
      if a9 = 0 then
        fb_X10_sums_106 k16 (fb_X10_sums_76 k16 n) a0 a1 a2 a3 a4 a5 a6 a7 a8 a10 s
      else
        (ax_gr s 7 8 a0).bind fun r5 =>
        (ax_al s 9 r5 (a1 + a10)).bind fun x6 =>
        if x6 = a8 then
          fb_X10_sums_106 k16 (fb_X10_sums_76 k16 n) a0 a1 a2 a3 a4 a5 a6 a7 a8 a10 s
        else
          (fb_X10_sums_76 k16 n) a0 a1 a2 a3 a4 a5 a6 a7 a8 (1) (a10 + (1)) s
set_option maxRecDepth 100000 in
set_option maxHeartbeats 4000000 in
theorem tb_X10_sums_76 {q : Int32 × ax_S} {k16 : Option Nat → Int32 → Int32 → Int32 → Int32 → Int32 → Int32 → Int32 → ax_S → Option (Int32 × ax_S)} (hk16 : ∀ (a0 : Option Nat) (a1 : Int32) (a2 : Int32) (a3 : Int32) (a4 : Int32) (a5 : Int32) (a6 : Int32) (a7 : Int32) (s : ax_S), k16 a0 a1 a2 a3 a4 a5 a6 a7 s = some q → AW mm_X10_sums 0 0 0 16 [(some (av_r a0)), (some (av_i a1)), (some (av_i a2)), (some (av_i a3)), (some (av_i a4)), (some (av_i a5)), (some (av_i a6)), (some (av_i a7)), none, none, none] [] s (some (av_i q.1), q.2)) : ∀ (n : Nat) (a0 : Option Nat) (a1 : Int32) (a2 : Int32) (a3 : Int32) (a4 : Int32) (a5 : Int32) (a6 : Int32) (a7 : Int32) (a8 : Int32) (a9 : Int32) (a10 : Int32) (s : ax_S) (h : fb_X10_sums_76 k16 n a0 a1 a2 a3 a4 a5 a6 a7 a8 a9 a10 s = some q), AW mm_X10_sums 0 0 0 76 [(some (av_r a0)), (some (av_i a1)), (some (av_i a2)), (some (av_i a3)), (some (av_i a4)), (some (av_i a5)), (some (av_i a6)), (some (av_i a7)), (some (av_i a8)), (some (av_i a9)), (some (av_i a10))] [] s (some (av_i q.1), q.2) := by
  intro n
  induction n with
  | zero =>
    intro a0 a1 a2 a3 a4 a5 a6 a7 a8 a9 a10 s h
    exact ax_no h
  | succ n ih =>
    intro a0 a1 a2 a3 a4 a5 a6 a7 a8 a9 a10 s h
    unfold fb_X10_sums_76 at h
    refine ax_iload (i := 10) dX10_sums_76 rfl ?_
    refine ax_iload (i := 7) dX10_sums_78 rfl ?_
    refine ax_icmp_ge (tgt := 115) dX10_sums_80 (by decide) (fun c2 => ?_) (fun c2 => ?_)
    · rw [if_pos c2] at h
      refine ax_iload (i := 6) dX10_sums_115 rfl ?_
      refine ax_iload (i := 9) dX10_sums_117 rfl ?_
      refine ax_if_eq (tgt := 126) dX10_sums_119 (by decide) (fun c3 => ?_) (fun c3 => ?_)
      · rw [if_pos c3] at h
        refine ax_iconst (v := (0)) dX10_sums_126 rfl ?_
        exact ax_less (L' := [(some (av_r a0)), (some (av_i a1)), (some (av_i a2)), (some (av_i a3)), (some (av_i a4)), (some (av_i a5)), none, (some (av_i a7)), none, none, none]) ⟨rfl, rfl, rfl, rfl, rfl, rfl, rfl, trivial⟩ (tb_X10_sums_127 hk16 h)
      · rw [if_neg c3] at h
        refine ax_iconst (v := (1)) dX10_sums_122 rfl ?_
        refine ax_goto (tgt := 127) dX10_sums_123 (by decide) ?_
        exact ax_less (L' := [(some (av_r a0)), (some (av_i a1)), (some (av_i a2)), (some (av_i a3)), (some (av_i a4)), (some (av_i a5)), none, (some (av_i a7)), none, none, none]) ⟨rfl, rfl, rfl, rfl, rfl, rfl, rfl, trivial⟩ (tb_X10_sums_127 hk16 h)
    · rw [if_neg c2] at h
      refine ax_iload (i := 9) dX10_sums_83 rfl ?_
      refine ax_if_eq (tgt := 106) dX10_sums_85 (by decide) (fun c4 => ?_) (fun c4 => ?_)
      · rw [if_pos c4] at h
        exact ax_less (L' := [(some (av_r a0)), (some (av_i a1)), (some (av_i a2)), (some (av_i a3)), (some (av_i a4)), (some (av_i a5)), (some (av_i a6)), (some (av_i a7)), (some (av_i a8)), none, (some (av_i a10))]) ⟨rfl, rfl, rfl, rfl, rfl, rfl, rfl, rfl, rfl, rfl, trivial⟩ (tb_X10_sums_106 hk16 ih h)
      · rw [if_neg c4] at h
        refine ax_aload_n (i := 0) dX10_sums_88 rfl rfl ?_
        obtain ⟨r5, gr5, h⟩ := Option.bind_eq_some_iff.mp h
        refine ax_getR (q := (RX10, TX10, 28)) (t := 7) (k := 8) dX10_sums_89 rfl (by decide) wd_764 rfl gr5 ?_
        refine ax_iload_n (i := 1) dX10_sums_92 rfl rfl ?_
        refine ax_iload (i := 10) dX10_sums_93 rfl ?_
        refine ax_iadd dX10_sums_95 ?_
        obtain ⟨x6, gx6, h⟩ := Option.bind_eq_some_iff.mp h
        refine ax_iald dX10_sums_96 gx6 ?_
        refine ax_iload (i := 8) dX10_sums_97 rfl ?_
        refine ax_icmp_eq (tgt := 106) dX10_sums_99 (by decide) (fun c7 => ?_) (fun c7 => ?_)
        · rw [if_pos c7] at h
          exact ax_less (L' := [(some (av_r a0)), (some (av_i a1)), (some (av_i a2)), (some (av_i a3)), (some (av_i a4)), (some (av_i a5)), (some (av_i a6)), (some (av_i a7)), (some (av_i a8)), none, (some (av_i a10))]) ⟨rfl, rfl, rfl, rfl, rfl, rfl, rfl, rfl, rfl, rfl, trivial⟩ (tb_X10_sums_106 hk16 ih h)
        · rw [if_neg c7] at h
          refine ax_iconst (v := (1)) dX10_sums_102 rfl ?_
          refine ax_goto (tgt := 107) dX10_sums_103 (by decide) ?_
          refine ax_istore (i := 9) (L2 := [some (av_r a0), some (av_i a1), some (av_i a2), some (av_i a3), some (av_i a4), some (av_i a5), some (av_i a6), some (av_i a7), some (av_i a8), some (av_i (1)), some (av_i a10)]) dX10_sums_107 (by decide) rfl rfl ?_
          refine ax_iinc (i := 10) (v := (a10 + (1))) (L2 := [some (av_r a0), some (av_i a1), some (av_i a2), some (av_i a3), some (av_i a4), some (av_i a5), some (av_i a6), some (av_i a7), some (av_i a8), some (av_i (1)), some (av_i (a10 + (1)))]) dX10_sums_109 rfl rfl (by decide) rfl rfl ?_
          refine ax_goto (tgt := 76) dX10_sums_112 (by decide) ?_
          exact ax_less (L' := [(some (av_r a0)), (some (av_i a1)), (some (av_i a2)), (some (av_i a3)), (some (av_i a4)), (some (av_i a5)), (some (av_i a6)), (some (av_i a7)), (some (av_i a8)), (some (av_i (1))), (some (av_i (a10 + (1))))]) ⟨rfl, rfl, rfl, rfl, rfl, rfl, rfl, rfl, rfl, rfl, rfl, trivial⟩ (ih _ _ _ _ _ _ _ _ _ _ _ _ h)
def fb_X10_sums_61 (k16 : Option Nat → Int32 → Int32 → Int32 → Int32 → Int32 → Int32 → Int32 → ax_S → Option (Int32 × ax_S)) (a0 : Option Nat) (a1 : Int32) (a2 : Int32) (a3 : Int32) (a5 : Int32) (a6 : Int32) (a7 : Int32) (a8 : Int32) (b0 : Int32) (s : ax_S) : Option (Int32 × ax_S) :=
  ax_bd ((a5 + a8)) fun v8 =>
  fb_X10_sums_76 k16 10000 a0 a1 a2 a3 b0 v8 a6 a7 a8 (1) (0) s
set_option maxRecDepth 100000 in
set_option maxHeartbeats 4000000 in
theorem tb_X10_sums_61 {q : Int32 × ax_S} {k16 : Option Nat → Int32 → Int32 → Int32 → Int32 → Int32 → Int32 → Int32 → ax_S → Option (Int32 × ax_S)} (hk16 : ∀ (a0 : Option Nat) (a1 : Int32) (a2 : Int32) (a3 : Int32) (a4 : Int32) (a5 : Int32) (a6 : Int32) (a7 : Int32) (s : ax_S), k16 a0 a1 a2 a3 a4 a5 a6 a7 s = some q → AW mm_X10_sums 0 0 0 16 [(some (av_r a0)), (some (av_i a1)), (some (av_i a2)), (some (av_i a3)), (some (av_i a4)), (some (av_i a5)), (some (av_i a6)), (some (av_i a7)), none, none, none] [] s (some (av_i q.1), q.2)) {a0 : Option Nat} {a1 : Int32} {a2 : Int32} {a3 : Int32} {a5 : Int32} {a6 : Int32} {a7 : Int32} {a8 : Int32} {b0 : Int32} {s : ax_S} (h : fb_X10_sums_61 k16 a0 a1 a2 a3 a5 a6 a7 a8 b0 s = some q) : AW mm_X10_sums 0 0 0 61 [(some (av_r a0)), (some (av_i a1)), (some (av_i a2)), (some (av_i a3)), none, (some (av_i a5)), (some (av_i a6)), (some (av_i a7)), (some (av_i a8)), none, none] [av_i b0] s (some (av_i q.1), q.2) := by
  unfold fb_X10_sums_61 at h
  refine ax_istore (i := 4) (L2 := [some (av_r a0), some (av_i a1), some (av_i a2), some (av_i a3), some (av_i b0), some (av_i a5), some (av_i a6), some (av_i a7), some (av_i a8), none, none]) dX10_sums_61 (by decide) rfl rfl ?_
  refine ax_iload (i := 5) dX10_sums_63 rfl ?_
  refine ax_iload (i := 8) dX10_sums_65 rfl ?_
  refine ax_iadd dX10_sums_67 ?_
  refine ax_bdI h (fun v8 h => ?_)
  refine ax_istore (i := 5) (L2 := [some (av_r a0), some (av_i a1), some (av_i a2), some (av_i a3), some (av_i b0), some (av_i v8), some (av_i a6), some (av_i a7), some (av_i a8), none, none]) dX10_sums_68 (by decide) rfl rfl ?_
  refine ax_iconst (v := (1)) dX10_sums_70 rfl ?_
  refine ax_istore (i := 9) (L2 := [some (av_r a0), some (av_i a1), some (av_i a2), some (av_i a3), some (av_i b0), some (av_i v8), some (av_i a6), some (av_i a7), some (av_i a8), some (av_i (1)), none]) dX10_sums_71 (by decide) rfl rfl ?_
  refine ax_iconst (v := (0)) dX10_sums_73 rfl ?_
  refine ax_istore (i := 10) (L2 := [some (av_r a0), some (av_i a1), some (av_i a2), some (av_i a3), some (av_i b0), some (av_i v8), some (av_i a6), some (av_i a7), some (av_i a8), some (av_i (1)), some (av_i (0))]) dX10_sums_74 (by decide) rfl rfl ?_
  exact ax_less (L' := [(some (av_r a0)), (some (av_i a1)), (some (av_i a2)), (some (av_i a3)), (some (av_i b0)), (some (av_i v8)), (some (av_i a6)), (some (av_i a7)), (some (av_i a8)), (some (av_i (1))), (some (av_i (0)))]) ⟨rfl, rfl, rfl, rfl, rfl, rfl, rfl, rfl, rfl, rfl, rfl, trivial⟩ (tb_X10_sums_76 hk16 _ _ _ _ _ _ _ _ _ _ _ _ _ h)
def fb_X10_sums_46 (k16 : Option Nat → Int32 → Int32 → Int32 → Int32 → Int32 → Int32 → Int32 → ax_S → Option (Int32 × ax_S)) (a0 : Option Nat) (a1 : Int32) (a2 : Int32) (a4 : Int32) (a5 : Int32) (a6 : Int32) (a7 : Int32) (a8 : Int32) (b0 : Int32) (s : ax_S) : Option (Int32 × ax_S) :=
  if a8 ≤ a4 then
    fb_X10_sums_61 k16 a0 a1 a2 b0 a5 a6 a7 a8 a4 s
  else
    fb_X10_sums_61 k16 a0 a1 a2 b0 a5 a6 a7 a8 a8 s
set_option maxRecDepth 100000 in
set_option maxHeartbeats 4000000 in
theorem tb_X10_sums_46 {q : Int32 × ax_S} {k16 : Option Nat → Int32 → Int32 → Int32 → Int32 → Int32 → Int32 → Int32 → ax_S → Option (Int32 × ax_S)} (hk16 : ∀ (a0 : Option Nat) (a1 : Int32) (a2 : Int32) (a3 : Int32) (a4 : Int32) (a5 : Int32) (a6 : Int32) (a7 : Int32) (s : ax_S), k16 a0 a1 a2 a3 a4 a5 a6 a7 s = some q → AW mm_X10_sums 0 0 0 16 [(some (av_r a0)), (some (av_i a1)), (some (av_i a2)), (some (av_i a3)), (some (av_i a4)), (some (av_i a5)), (some (av_i a6)), (some (av_i a7)), none, none, none] [] s (some (av_i q.1), q.2)) {a0 : Option Nat} {a1 : Int32} {a2 : Int32} {a4 : Int32} {a5 : Int32} {a6 : Int32} {a7 : Int32} {a8 : Int32} {b0 : Int32} {s : ax_S} (h : fb_X10_sums_46 k16 a0 a1 a2 a4 a5 a6 a7 a8 b0 s = some q) : AW mm_X10_sums 0 0 0 46 [(some (av_r a0)), (some (av_i a1)), (some (av_i a2)), none, (some (av_i a4)), (some (av_i a5)), (some (av_i a6)), (some (av_i a7)), (some (av_i a8)), none, none] [av_i b0] s (some (av_i q.1), q.2) := by
  unfold fb_X10_sums_46 at h
  refine ax_istore_n (i := 3) (L2 := [some (av_r a0), some (av_i a1), some (av_i a2), some (av_i b0), some (av_i a4), some (av_i a5), some (av_i a6), some (av_i a7), some (av_i a8), none, none]) dX10_sums_46 rfl (by decide) rfl rfl ?_
  refine ax_iload (i := 8) dX10_sums_47 rfl ?_
  refine ax_iload (i := 4) dX10_sums_49 rfl ?_
  refine ax_icmp_le (tgt := 59) dX10_sums_51 (by decide) (fun c9 => ?_) (fun c9 => ?_)
  · rw [if_pos c9] at h
    refine ax_iload (i := 4) dX10_sums_59 rfl ?_
    exact ax_less (L' := [(some (av_r a0)), (some (av_i a1)), (some (av_i a2)), (some (av_i b0)), none, (some (av_i a5)), (some (av_i a6)), (some (av_i a7)), (some (av_i a8)), none, none]) ⟨rfl, rfl, rfl, rfl, rfl, rfl, rfl, rfl, trivial⟩ (tb_X10_sums_61 hk16 h)
  · rw [if_neg c9] at h
    refine ax_iload (i := 8) dX10_sums_54 rfl ?_
    refine ax_goto (tgt := 61) dX10_sums_56 (by decide) ?_
    exact ax_less (L' := [(some (av_r a0)), (some (av_i a1)), (some (av_i a2)), (some (av_i b0)), none, (some (av_i a5)), (some (av_i a6)), (some (av_i a7)), (some (av_i a8)), none, none]) ⟨rfl, rfl, rfl, rfl, rfl, rfl, rfl, rfl, trivial⟩ (tb_X10_sums_61 hk16 h)
def fb_X10_sums_16 : Nat → Option Nat → Int32 → Int32 → Int32 → Int32 → Int32 → Int32 → Int32 → ax_S → Option (Int32 × ax_S)
  | 0, _, _, _, _, _, _, _, _, _ => none
  | n + 1, a0, a1, a2, a3, a4, a5, a6, a7, s =>
    if (32) ≤ a7 then
      if a2 = 0 then
        some (a3, s)
      else
        if a2 = (1) then
          some (a4, s)
        else
          if a2 = (2) then
            some (a5, s)
          else
            some (a6, s)
    else
      (ax_gr s 7 8 a0).bind fun r14 =>
      (ax_al s 9 r14 (a1 + a7)).bind fun x15 =>
      if a3 ≤ x15 then
        fb_X10_sums_46 (fb_X10_sums_16 n) a0 a1 a2 a4 a5 a6 a7 x15 a3 s
      else
        fb_X10_sums_46 (fb_X10_sums_16 n) a0 a1 a2 a4 a5 a6 a7 x15 x15 s
set_option maxRecDepth 100000 in
set_option maxHeartbeats 4000000 in
theorem tb_X10_sums_16 {q : Int32 × ax_S} : ∀ (n : Nat) (a0 : Option Nat) (a1 : Int32) (a2 : Int32) (a3 : Int32) (a4 : Int32) (a5 : Int32) (a6 : Int32) (a7 : Int32) (s : ax_S) (h : fb_X10_sums_16 n a0 a1 a2 a3 a4 a5 a6 a7 s = some q), AW mm_X10_sums 0 0 0 16 [(some (av_r a0)), (some (av_i a1)), (some (av_i a2)), (some (av_i a3)), (some (av_i a4)), (some (av_i a5)), (some (av_i a6)), (some (av_i a7)), none, none, none] [] s (some (av_i q.1), q.2) := by
  intro n
  induction n with
  | zero =>
    intro a0 a1 a2 a3 a4 a5 a6 a7 s h
    exact ax_no h
  | succ n ih =>
    intro a0 a1 a2 a3 a4 a5 a6 a7 s h
    unfold fb_X10_sums_16 at h
    refine ax_iload (i := 7) dX10_sums_16 rfl ?_
    refine ax_bipush (v := (32)) dX10_sums_18 rfl ?_
    refine ax_icmp_ge (tgt := 136) dX10_sums_20 (by decide) (fun c10 => ?_) (fun c10 => ?_)
    · rw [if_pos c10] at h
      refine ax_iload_n (i := 2) dX10_sums_136 rfl rfl ?_
      refine ax_if_ne (tgt := 144) dX10_sums_137 (by decide) (fun c11 => ?_) (fun c11 => ?_)
      · rw [if_neg c11] at h
        refine ax_iload_n (i := 2) dX10_sums_144 rfl rfl ?_
        refine ax_iconst (v := (1)) dX10_sums_145 rfl ?_
        refine ax_icmp_ne (tgt := 154) dX10_sums_146 (by decide) (fun c12 => ?_) (fun c12 => ?_)
        · rw [if_neg c12] at h
          refine ax_iload_n (i := 2) dX10_sums_154 rfl rfl ?_
          refine ax_iconst (v := (2)) dX10_sums_155 rfl ?_
          refine ax_icmp_ne (tgt := 164) dX10_sums_156 (by decide) (fun c13 => ?_) (fun c13 => ?_)
          · rw [if_neg c13] at h
            refine ax_iload (i := 6) dX10_sums_164 rfl ?_
            exact ax_reti dX10_sums_166 h
          · rw [if_pos c13] at h
            refine ax_iload (i := 5) dX10_sums_159 rfl ?_
            refine ax_goto (tgt := 166) dX10_sums_161 (by decide) ?_
            exact ax_reti dX10_sums_166 h
        · rw [if_pos c12] at h
          refine ax_iload (i := 4) dX10_sums_149 rfl ?_
          refine ax_goto (tgt := 166) dX10_sums_151 (by decide) ?_
          exact ax_reti dX10_sums_166 h
      · rw [if_pos c11] at h
        refine ax_iload_n (i := 3) dX10_sums_140 rfl rfl ?_
        refine ax_goto (tgt := 166) dX10_sums_141 (by decide) ?_
        exact ax_reti dX10_sums_166 h
    · rw [if_neg c10] at h
      refine ax_aload_n (i := 0) dX10_sums_23 rfl rfl ?_
      obtain ⟨r14, gr14, h⟩ := Option.bind_eq_some_iff.mp h
      refine ax_getR (q := (RX10, TX10, 28)) (t := 7) (k := 8) dX10_sums_24 rfl (by decide) wd_764 rfl gr14 ?_
      refine ax_iload_n (i := 1) dX10_sums_27 rfl rfl ?_
      refine ax_iload (i := 7) dX10_sums_28 rfl ?_
      refine ax_iadd dX10_sums_30 ?_
      obtain ⟨x15, gx15, h⟩ := Option.bind_eq_some_iff.mp h
      refine ax_iald dX10_sums_31 gx15 ?_
      refine ax_istore (i := 8) (L2 := [some (av_r a0), some (av_i a1), some (av_i a2), some (av_i a3), some (av_i a4), some (av_i a5), some (av_i a6), some (av_i a7), some (av_i x15), none, none]) dX10_sums_32 (by decide) rfl rfl ?_
      refine ax_iload (i := 8) dX10_sums_34 rfl ?_
      refine ax_iload_n (i := 3) dX10_sums_36 rfl rfl ?_
      refine ax_icmp_ge (tgt := 45) dX10_sums_37 (by decide) (fun c16 => ?_) (fun c16 => ?_)
      · rw [if_pos c16] at h
        refine ax_iload_n (i := 3) dX10_sums_45 rfl rfl ?_
        exact ax_less (L' := [(some (av_r a0)), (some (av_i a1)), (some (av_i a2)), none, (some (av_i a4)), (some (av_i a5)), (some (av_i a6)), (some (av_i a7)), (some (av_i x15)), none, none]) ⟨rfl, rfl, rfl, rfl, rfl, rfl, rfl, rfl, trivial⟩ (tb_X10_sums_46 ih h)
      · rw [if_neg c16] at h
        refine ax_iload (i := 8) dX10_sums_40 rfl ?_
        refine ax_goto (tgt := 46) dX10_sums_42 (by decide) ?_
        exact ax_less (L' := [(some (av_r a0)), (some (av_i a1)), (some (av_i a2)), none, (some (av_i a4)), (some (av_i a5)), (some (av_i a6)), (some (av_i a7)), (some (av_i x15)), none, none]) ⟨rfl, rfl, rfl, rfl, rfl, rfl, rfl, rfl, trivial⟩ (tb_X10_sums_46 ih h)
def fn_X10_sums (a0 : Option Nat) (a1 : Int32) (a2 : Int32) (s : ax_S) : Option (Int32 × ax_S) :=
  fb_X10_sums_16 10000 a0 a1 a2 (255) (0) (0) (0) (0) s
set_option maxRecDepth 100000 in
set_option maxHeartbeats 4000000 in
theorem tw_X10_sums {q : Int32 × ax_S} {a0 : Option Nat} {a1 : Int32} {a2 : Int32} {s : ax_S} (h : fn_X10_sums a0 a1 a2 s = some q) : AW mm_X10_sums 0 0 0 0 [some (av_r a0), some (av_i a1), some (av_i a2), none, none, none, none, none, none, none, none] [] s (some (av_i q.1), q.2) := by
  unfold fn_X10_sums at h
  refine ax_sipush (v := (255)) dX10_sums_0 rfl ?_
  refine ax_istore_n (i := 3) (L2 := [some (av_r a0), some (av_i a1), some (av_i a2), some (av_i (255)), none, none, none, none, none, none, none]) dX10_sums_3 rfl (by decide) rfl rfl ?_
  refine ax_iconst (v := (0)) dX10_sums_4 rfl ?_
  refine ax_istore (i := 4) (L2 := [some (av_r a0), some (av_i a1), some (av_i a2), some (av_i (255)), some (av_i (0)), none, none, none, none, none, none]) dX10_sums_5 (by decide) rfl rfl ?_
  refine ax_iconst (v := (0)) dX10_sums_7 rfl ?_
  refine ax_istore (i := 5) (L2 := [some (av_r a0), some (av_i a1), some (av_i a2), some (av_i (255)), some (av_i (0)), some (av_i (0)), none, none, none, none, none]) dX10_sums_8 (by decide) rfl rfl ?_
  refine ax_iconst (v := (0)) dX10_sums_10 rfl ?_
  refine ax_istore (i := 6) (L2 := [some (av_r a0), some (av_i a1), some (av_i a2), some (av_i (255)), some (av_i (0)), some (av_i (0)), some (av_i (0)), none, none, none, none]) dX10_sums_11 (by decide) rfl rfl ?_
  refine ax_iconst (v := (0)) dX10_sums_13 rfl ?_
  refine ax_istore (i := 7) (L2 := [some (av_r a0), some (av_i a1), some (av_i a2), some (av_i (255)), some (av_i (0)), some (av_i (0)), some (av_i (0)), some (av_i (0)), none, none, none]) dX10_sums_14 (by decide) rfl rfl ?_
  exact ax_less (L' := [(some (av_r a0)), (some (av_i a1)), (some (av_i a2)), (some (av_i (255))), (some (av_i (0))), (some (av_i (0))), (some (av_i (0))), (some (av_i (0))), none, none, none]) ⟨rfl, rfl, rfl, rfl, rfl, rfl, rfl, rfl, trivial⟩ (tb_X10_sums_16  _ _ _ _ _ _ _ _ _ _ h)
set_option maxRecDepth 100000 in
set_option maxHeartbeats 4000000 in
theorem th_X10_sums {q : Int32 × ax_S} {a0 : Option Nat} {a1 : Int32} {a2 : Int32} {s : ax_S} (h : fn_X10_sums a0 a1 a2 s = some q) : AC mm_X10_sums yX10_sums 0 0 0 [av_r a0, av_i a1, av_i a2] s (some (av_i q.1), q.2) := by
  exact ax_met (L0 := [some (av_r a0), some (av_i a1), some (av_i a2), none, none, none, none, none, none, none, none]) (by decide +kernel) rfl (fun h => absurd h (by decide)) ⟨rfl, rfl, rfl, trivial⟩ (Nat.le_of_ble_eq_true rfl) trivial (tw_X10_sums h)
/-! X10_sum -/
abbrev mm_X10_sum : ax_M := (RX10, cX10_sum, (some .int), 5, false)
def fn_X10_sum (a0 : Option Nat) (a1 : Int32) (a2 : Int32) (a3 : Int32) (a4 : Int32) (s : ax_S) : Option (Int32 × ax_S) :=
  (ax_sh s 7 a0).bind fun w1 =>
  (fn_X10_isPicture a0 a1 a2 s).bind fun q2 =>
  if q2.1 = 0 then
    some ((-1001), q2.2)
  else
    (fn_X10_in a3 (0) (2) q2.2).bind fun q4 =>
    if q4.1 = 0 then
      some ((-1001), q4.2)
    else
      (fn_X10_in a4 (0) (3) q4.2).bind fun q6 =>
      if q6.1 = 0 then
        some ((-1002), q6.2)
      else
        (ax_sh q6.2 7 a0).bind fun w8 =>
        (fn_X10_picture a0 a1 a2 q6.2).bind fun q9 =>
        (ax_sh q9.2 7 a0).bind fun w10 =>
        (fn_X10_sums a0 (((96) * q9.1) + ((32) * a3)) a4 q9.2).bind fun q11 =>
        some (q11.1, q11.2)
set_option maxRecDepth 100000 in
set_option maxHeartbeats 4000000 in
theorem tw_X10_sum {q : Int32 × ax_S} {a0 : Option Nat} {a1 : Int32} {a2 : Int32} {a3 : Int32} {a4 : Int32} {s : ax_S} (h : fn_X10_sum a0 a1 a2 a3 a4 s = some q) : AW mm_X10_sum 6 0 0 0 [some (av_r a0), some (av_i a1), some (av_i a2), some (av_i a3), some (av_i a4)] [] s (some (av_i q.1), q.2) := by
  unfold fn_X10_sum at h
  refine ax_aload_n (i := 0) dX10_sum_0 rfl rfl ?_
  refine ax_iload_n (i := 1) dX10_sum_1 rfl rfl ?_
  refine ax_iload_n (i := 2) dX10_sum_2 rfl rfl ?_
  obtain ⟨w1, gw1, h⟩ := Option.bind_eq_some_iff.mp h
  obtain ⟨q2, gq2, h⟩ := Option.bind_eq_some_iff.mp h
  refine ax_cV (As := [av_i a1, av_i a2]) (t := 7) dX10_sum_3 gw1 (th_X10_isPicture gq2) rfl (And.intro wd_950 wd_59) wd_947 wd_949 wd_28 cy_X10_isPicture (by omega) (by decide) (Nat.le_of_ble_eq_true rfl) rfl ?_
  refine ax_if_eq (tgt := 18) dX10_sum_6 (by decide) (fun c3 => ?_) (fun c3 => ?_)
  · rw [if_pos c3] at h
    refine ax_sipush (v := (-1001)) dX10_sum_18 rfl ?_
    exact ax_reti dX10_sum_21 h
  · rw [if_neg c3] at h
    refine ax_iload_n (i := 3) dX10_sum_9 rfl rfl ?_
    refine ax_iconst (v := (0)) dX10_sum_10 rfl ?_
    refine ax_iconst (v := (2)) dX10_sum_11 rfl ?_
    obtain ⟨q4, gq4, h⟩ := Option.bind_eq_some_iff.mp h
    refine ax_cS (As := [av_i a3, av_i (0), av_i (2)]) dX10_sum_12 (th_X10_in gq4) (And.intro wd_851 wd_59) wd_849 wd_850 cy_X10_in (by omega) (by decide) (Nat.le_of_ble_eq_true rfl) rfl ?_
    refine ax_if_ne (tgt := 22) dX10_sum_15 (by decide) (fun c5 => ?_) (fun c5 => ?_)
    · rw [if_neg c5] at h
      refine ax_iload (i := 4) dX10_sum_22 rfl ?_
      refine ax_iconst (v := (0)) dX10_sum_24 rfl ?_
      refine ax_iconst (v := (3)) dX10_sum_25 rfl ?_
      obtain ⟨q6, gq6, h⟩ := Option.bind_eq_some_iff.mp h
      refine ax_cS (As := [av_i a4, av_i (0), av_i (3)]) dX10_sum_26 (th_X10_in gq6) (And.intro wd_851 wd_59) wd_849 wd_850 cy_X10_in (by omega) (by decide) (Nat.le_of_ble_eq_true rfl) rfl ?_
      refine ax_if_eq (tgt := 55) dX10_sum_29 (by decide) (fun c7 => ?_) (fun c7 => ?_)
      · rw [if_pos c7] at h
        refine ax_sipush (v := (-1002)) dX10_sum_55 rfl ?_
        exact ax_reti dX10_sum_58 h
      · rw [if_neg c7] at h
        refine ax_aload_n (i := 0) dX10_sum_32 rfl rfl ?_
        refine ax_bipush (v := (96)) dX10_sum_33 rfl ?_
        refine ax_aload_n (i := 0) dX10_sum_35 rfl rfl ?_
        refine ax_iload_n (i := 1) dX10_sum_36 rfl rfl ?_
        refine ax_iload_n (i := 2) dX10_sum_37 rfl rfl ?_
        obtain ⟨w8, gw8, h⟩ := Option.bind_eq_some_iff.mp h
        obtain ⟨q9, gq9, h⟩ := Option.bind_eq_some_iff.mp h
        refine ax_cV (As := [av_i a1, av_i a2]) (t := 7) dX10_sum_38 gw8 (th_X10_picture gq9) rfl (And.intro wd_954 wd_59) wd_951 wd_953 wd_29 cy_X10_picture (by omega) (by decide) (Nat.le_of_ble_eq_true rfl) rfl ?_
        refine ax_imul dX10_sum_41 ?_
        refine ax_bipush (v := (32)) dX10_sum_42 rfl ?_
        refine ax_iload_n (i := 3) dX10_sum_44 rfl rfl ?_
        refine ax_imul dX10_sum_45 ?_
        refine ax_iadd dX10_sum_46 ?_
        refine ax_iload (i := 4) dX10_sum_47 rfl ?_
        obtain ⟨w10, gw10, h⟩ := Option.bind_eq_some_iff.mp h
        obtain ⟨q11, gq11, h⟩ := Option.bind_eq_some_iff.mp h
        refine ax_cV (As := [av_i (((96) * q9.1) + ((32) * a3)), av_i a4]) (t := 7) dX10_sum_49 gw10 (th_X10_sums gq11) rfl (And.intro wd_1012 wd_59) wd_1009 wd_1011 wd_40 cy_X10_sums (by omega) (by decide) (Nat.le_of_ble_eq_true rfl) rfl ?_
        refine ax_goto (tgt := 58) dX10_sum_52 (by decide) ?_
        exact ax_reti dX10_sum_58 h
    · rw [if_pos c5] at h
      refine ax_sipush (v := (-1001)) dX10_sum_18 rfl ?_
      exact ax_reti dX10_sum_21 h
set_option maxRecDepth 100000 in
set_option maxHeartbeats 4000000 in
theorem th_X10_sum {q : Int32 × ax_S} {a0 : Option Nat} {a1 : Int32} {a2 : Int32} {a3 : Int32} {a4 : Int32} {s : ax_S} (h : fn_X10_sum a0 a1 a2 a3 a4 s = some q) : AC mm_X10_sum yX10_sum 6 0 0 [av_r a0, av_i a1, av_i a2, av_i a3, av_i a4] s (some (av_i q.1), q.2) := by
  exact ax_met (L0 := [some (av_r a0), some (av_i a1), some (av_i a2), some (av_i a3), some (av_i a4)]) (by decide +kernel) rfl (fun h => absurd h (by decide)) ⟨rfl, rfl, rfl, rfl, rfl, trivial⟩ (Nat.le_of_ble_eq_true rfl) trivial (tw_X10_sum h)
/-! X10_isInput -/
abbrev mm_X10_isInput : ax_M := (RX10, cX10_isInput, (some .boolean), 3, false)
def fi_X10_isInput (a0 : Option Nat) (a1 : Int32) (a2 : Int32) (s : ax_S) : Option (Int32 × ax_S) :=
  (ax_sh s 7 a0).bind fun w1 =>
  (fn_X10_isNode a0 a1 s).bind fun q2 =>
  if q2.1 = 0 then
    some ((0), q2.2)
  else
    (ax_gr q2.2 7 13 a0).bind fun r4 =>
    (ax_sh q2.2 7 a0).bind fun w5 =>
    (fn_X10_kind a0 a1 q2.2).bind fun q6 =>
    (ax_al q6.2 9 r4 q6.1).bind fun x7 =>
    (fn_X10_in a2 (0) (x7 - (1)) q6.2).bind fun q8 =>
    if q8.1 = 0 then
      some ((0), q8.2)
    else
      some ((1), q8.2)
set_option maxRecDepth 100000 in
set_option maxHeartbeats 4000000 in
theorem tw_X10_isInput {q : Int32 × ax_S} {a0 : Option Nat} {a1 : Int32} {a2 : Int32} {s : ax_S} (h : fi_X10_isInput a0 a1 a2 s = some q) : AW mm_X10_isInput 2 0 0 0 [some (av_r a0), some (av_i a1), some (av_i a2)] [] s (some (av_i q.1), q.2) := by
  unfold fi_X10_isInput at h
  refine ax_aload_n (i := 0) dX10_isInput_0 rfl rfl ?_
  refine ax_iload_n (i := 1) dX10_isInput_1 rfl rfl ?_
  obtain ⟨w1, gw1, h⟩ := Option.bind_eq_some_iff.mp h
  obtain ⟨q2, gq2, h⟩ := Option.bind_eq_some_iff.mp h
  refine ax_cV (As := [av_i a1]) (t := 7) dX10_isInput_2 gw1 (th_X10_isNode gq2) rfl (And.intro wd_873 wd_59) wd_870 wd_872 wd_18 cy_X10_isNode (by omega) (by decide) (Nat.le_of_ble_eq_true rfl) rfl ?_
  refine ax_if_eq (tgt := 32) dX10_isInput_5 (by decide) (fun c3 => ?_) (fun c3 => ?_)
  · rw [if_pos c3] at h
    refine ax_iconst (v := (0)) dX10_isInput_32 rfl ?_
    exact ax_reti dX10_isInput_33 h
  · rw [if_neg c3] at h
    refine ax_iload_n (i := 2) dX10_isInput_8 rfl rfl ?_
    refine ax_iconst (v := (0)) dX10_isInput_9 rfl ?_
    refine ax_aload_n (i := 0) dX10_isInput_10 rfl rfl ?_
    obtain ⟨r4, gr4, h⟩ := Option.bind_eq_some_iff.mp h
    refine ax_getR (q := (RX10, TX10, 28)) (t := 7) (k := 13) dX10_isInput_11 rfl (by decide) wd_769 rfl gr4 ?_
    refine ax_aload_n (i := 0) dX10_isInput_14 rfl rfl ?_
    refine ax_iload_n (i := 1) dX10_isInput_15 rfl rfl ?_
    obtain ⟨w5, gw5, h⟩ := Option.bind_eq_some_iff.mp h
    obtain ⟨q6, gq6, h⟩ := Option.bind_eq_some_iff.mp h
    refine ax_cV (As := [av_i a1]) (t := 7) dX10_isInput_16 gw5 (th_X10_kind gq6) rfl (And.intro wd_877 wd_59) wd_874 wd_876 wd_19 cy_X10_kind (by omega) (by decide) (Nat.le_of_ble_eq_true rfl) rfl ?_
    obtain ⟨x7, gx7, h⟩ := Option.bind_eq_some_iff.mp h
    refine ax_iald dX10_isInput_19 gx7 ?_
    refine ax_iconst (v := (1)) dX10_isInput_20 rfl ?_
    refine ax_isub dX10_isInput_21 ?_
    obtain ⟨q8, gq8, h⟩ := Option.bind_eq_some_iff.mp h
    refine ax_cS (As := [av_i a2, av_i (0), av_i (x7 - (1))]) dX10_isInput_22 (th_X10_in gq8) (And.intro wd_851 wd_59) wd_849 wd_850 cy_X10_in (by omega) (by decide) (Nat.le_of_ble_eq_true rfl) rfl ?_
    refine ax_if_eq (tgt := 32) dX10_isInput_25 (by decide) (fun c9 => ?_) (fun c9 => ?_)
    · rw [if_pos c9] at h
      refine ax_iconst (v := (0)) dX10_isInput_32 rfl ?_
      exact ax_reti dX10_isInput_33 h
    · rw [if_neg c9] at h
      refine ax_iconst (v := (1)) dX10_isInput_28 rfl ?_
      refine ax_goto (tgt := 33) dX10_isInput_29 (by decide) ?_
      exact ax_reti dX10_isInput_33 h
def fn_X10_isInput (a0 : Option Nat) (a1 : Int32) (a2 : Int32) (s : ax_S) : Option (Int32 × ax_S) := ax_bz (fi_X10_isInput a0 a1 a2 s)
set_option maxRecDepth 100000 in
set_option maxHeartbeats 4000000 in
theorem th_X10_isInput {q : Int32 × ax_S} {a0 : Option Nat} {a1 : Int32} {a2 : Int32} {s : ax_S} (h : fn_X10_isInput a0 a1 a2 s = some q) : AC mm_X10_isInput yX10_isInput 2 0 0 [av_r a0, av_i a1, av_i a2] s (some (av_i q.1), q.2) := by
  obtain ⟨h, hz⟩ := ax_bz_of h
  exact ax_met (L0 := [some (av_r a0), some (av_i a1), some (av_i a2)]) (by decide +kernel) rfl (fun h => absurd h (by decide)) ⟨rfl, rfl, rfl, trivial⟩ (Nat.le_of_ble_eq_true rfl) hz (tw_X10_isInput h)
/-! X10_input -/
abbrev mm_X10_input : ax_M := (RX10, cX10_input, (some .int), 3, false)
def fn_X10_input (a0 : Option Nat) (a1 : Int32) (a2 : Int32) (s : ax_S) : Option (Int32 × ax_S) :=
  (ax_sh s 7 a0).bind fun w1 =>
  (fn_X10_isInput a0 a1 a2 s).bind fun q2 =>
  if q2.1 = 0 then
    some ((-1001), q2.2)
  else
    (ax_gr q2.2 7 0 a0).bind fun r4 =>
    (fn_X10_at a1 ((3) + a2) q2.2).bind fun q5 =>
    (ax_al q5.2 9 r4 q5.1).bind fun x6 =>
    some (x6, q5.2)
set_option maxRecDepth 100000 in
set_option maxHeartbeats 4000000 in
theorem tw_X10_input {q : Int32 × ax_S} {a0 : Option Nat} {a1 : Int32} {a2 : Int32} {s : ax_S} (h : fn_X10_input a0 a1 a2 s = some q) : AW mm_X10_input 3 0 0 0 [some (av_r a0), some (av_i a1), some (av_i a2)] [] s (some (av_i q.1), q.2) := by
  unfold fn_X10_input at h
  refine ax_aload_n (i := 0) dX10_input_0 rfl rfl ?_
  refine ax_iload_n (i := 1) dX10_input_1 rfl rfl ?_
  refine ax_iload_n (i := 2) dX10_input_2 rfl rfl ?_
  obtain ⟨w1, gw1, h⟩ := Option.bind_eq_some_iff.mp h
  obtain ⟨q2, gq2, h⟩ := Option.bind_eq_some_iff.mp h
  refine ax_cV (As := [av_i a1, av_i a2]) (t := 7) dX10_input_3 gw1 (th_X10_isInput gq2) rfl (And.intro wd_869 wd_59) wd_866 wd_868 wd_17 cy_X10_isInput (by omega) (by decide) (Nat.le_of_ble_eq_true rfl) rfl ?_
  refine ax_if_eq (tgt := 24) dX10_input_6 (by decide) (fun c3 => ?_) (fun c3 => ?_)
  · rw [if_pos c3] at h
    refine ax_sipush (v := (-1001)) dX10_input_24 rfl ?_
    exact ax_reti dX10_input_27 h
  · rw [if_neg c3] at h
    refine ax_aload_n (i := 0) dX10_input_9 rfl rfl ?_
    obtain ⟨r4, gr4, h⟩ := Option.bind_eq_some_iff.mp h
    refine ax_getR (q := (RX10, TX10, 28)) (t := 7) (k := 0) dX10_input_10 rfl (by decide) wd_756 rfl gr4 ?_
    refine ax_iload_n (i := 1) dX10_input_13 rfl rfl ?_
    refine ax_iconst (v := (3)) dX10_input_14 rfl ?_
    refine ax_iload_n (i := 2) dX10_input_15 rfl rfl ?_
    refine ax_iadd dX10_input_16 ?_
    obtain ⟨q5, gq5, h⟩ := Option.bind_eq_some_iff.mp h
    refine ax_cS (As := [av_i a1, av_i ((3) + a2)]) dX10_input_17 (th_X10_at gq5) (And.intro wd_858 wd_59) wd_856 wd_857 cy_X10_at (by omega) (by decide) (Nat.le_of_ble_eq_true rfl) rfl ?_
    obtain ⟨x6, gx6, h⟩ := Option.bind_eq_some_iff.mp h
    refine ax_iald dX10_input_20 gx6 ?_
    refine ax_goto (tgt := 27) dX10_input_21 (by decide) ?_
    exact ax_reti dX10_input_27 h
set_option maxRecDepth 100000 in
set_option maxHeartbeats 4000000 in
theorem th_X10_input {q : Int32 × ax_S} {a0 : Option Nat} {a1 : Int32} {a2 : Int32} {s : ax_S} (h : fn_X10_input a0 a1 a2 s = some q) : AC mm_X10_input yX10_input 3 0 0 [av_r a0, av_i a1, av_i a2] s (some (av_i q.1), q.2) := by
  exact ax_met (L0 := [some (av_r a0), some (av_i a1), some (av_i a2)]) (by decide +kernel) rfl (fun h => absurd h (by decide)) ⟨rfl, rfl, rfl, trivial⟩ (Nat.le_of_ble_eq_true rfl) trivial (tw_X10_input h)
/-! X10_voids -/
abbrev mm_X10_voids : ax_M := (RX10, cX10_voids, (some .int), 10, false)
def fb_X10_voids_18 : Nat → Option Nat → Int32 → Int32 → Int32 → Int32 → Int32 → Int32 → Int32 → ax_S → Option (Int32 × ax_S)
  | 0, _, _, _, _, _, _, _, _, _ => none
  | n + 1, a0, a2, a3, a4, a5, a6, a7, a8, s =>
    if a8 < 0 then
      (ax_gr s 7 10 a0).bind fun r2 =>
      (ax_al s 9 r2 (4)).bind fun x3 =>
      (ax_as s 9 r2 (4) (x3 + a7)).bind fun s4 =>
      some (a7, s4)
    else
      (ax_gr s 7 6 a0).bind fun r5 =>
      (ax_al s 9 r5 a8).bind fun x6 =>
      (ax_gr s 7 5 a0).bind fun r7 =>
      (ax_al s 9 r7 a8).bind fun x8 =>
      if ((a6 >>> (x8 &&& 31)) &&& (1)) = (1) then
        (fn_X10_in x6 a2 a3 s).bind fun q10 =>
        if q10.1 = 0 then
          (fb_X10_voids_18 n) a0 a2 a3 a4 a5 a6 a7 (a8 + (-1)) q10.2
        else
          (fn_X10_in x6 a4 a5 q10.2).bind fun q12 =>
          if q12.1 = 0 then
            (ax_sh q12.2 7 a0).bind fun w14 =>
            (fn_X10_drops a0 a8 q12.2).bind fun q15 =>
            (fb_X10_voids_18 n) a0 a2 a3 a4 a5 a6 (a7 + (1)) (a8 + (-1)) q15
          else
            (fb_X10_voids_18 n) a0 a2 a3 a4 a5 a6 a7 (a8 + (-1)) q12.2
      else
        (fb_X10_voids_18 n) a0 a2 a3 a4 a5 a6 a7 (a8 + (-1)) s
set_option maxRecDepth 100000 in
set_option maxHeartbeats 4000000 in
theorem tb_X10_voids_18 {q : Int32 × ax_S} : ∀ (n : Nat) (a0 : Option Nat) (a2 : Int32) (a3 : Int32) (a4 : Int32) (a5 : Int32) (a6 : Int32) (a7 : Int32) (a8 : Int32) (s : ax_S) (h : fb_X10_voids_18 n a0 a2 a3 a4 a5 a6 a7 a8 s = some q), AW mm_X10_voids 2 0 0 18 [(some (av_r a0)), none, (some (av_i a2)), (some (av_i a3)), (some (av_i a4)), (some (av_i a5)), (some (av_i a6)), (some (av_i a7)), (some (av_i a8)), none] [] s (some (av_i q.1), q.2) := by
  intro n
  induction n with
  | zero =>
    intro a0 a2 a3 a4 a5 a6 a7 a8 s h
    exact ax_no h
  | succ n ih =>
    intro a0 a2 a3 a4 a5 a6 a7 a8 s h
    unfold fb_X10_voids_18 at h
    refine ax_iload (i := 8) dX10_voids_18 rfl ?_
    refine ax_if_lt (tgt := 85) dX10_voids_20 (by decide) (fun c1 => ?_) (fun c1 => ?_)
    · rw [if_pos c1] at h
      refine ax_aload_n (i := 0) dX10_voids_85 rfl rfl ?_
      obtain ⟨r2, gr2, h⟩ := Option.bind_eq_some_iff.mp h
      refine ax_getR (q := (RX10, TX10, 28)) (t := 7) (k := 10) dX10_voids_86 rfl (by decide) wd_766 rfl gr2 ?_
      refine ax_iconst (v := (4)) dX10_voids_89 rfl ?_
      refine ax_dup2 dX10_voids_90 trivial trivial ?_
      obtain ⟨x3, gx3, h⟩ := Option.bind_eq_some_iff.mp h
      refine ax_iald dX10_voids_91 gx3 ?_
      refine ax_iload (i := 7) dX10_voids_92 rfl ?_
      refine ax_iadd dX10_voids_94 ?_
      obtain ⟨s4, gs4, h⟩ := Option.bind_eq_some_iff.mp h
      refine ax_iast dX10_voids_95 gs4 ?_
      refine ax_iload (i := 7) dX10_voids_96 rfl ?_
      exact ax_reti dX10_voids_98 h
    · rw [if_neg c1] at h
      refine ax_aload_n (i := 0) dX10_voids_23 rfl rfl ?_
      obtain ⟨r5, gr5, h⟩ := Option.bind_eq_some_iff.mp h
      refine ax_getR (q := (RX10, TX10, 28)) (t := 7) (k := 6) dX10_voids_24 rfl (by decide) wd_762 rfl gr5 ?_
      refine ax_iload (i := 8) dX10_voids_27 rfl ?_
      obtain ⟨x6, gx6, h⟩ := Option.bind_eq_some_iff.mp h
      refine ax_iald dX10_voids_29 gx6 ?_
      refine ax_istore (i := 9) (L2 := [some (av_r a0), none, some (av_i a2), some (av_i a3), some (av_i a4), some (av_i a5), some (av_i a6), some (av_i a7), some (av_i a8), some (av_i x6)]) dX10_voids_30 (by decide) rfl rfl ?_
      refine ax_iload (i := 6) dX10_voids_32 rfl ?_
      refine ax_aload_n (i := 0) dX10_voids_34 rfl rfl ?_
      obtain ⟨r7, gr7, h⟩ := Option.bind_eq_some_iff.mp h
      refine ax_getR (q := (RX10, TX10, 28)) (t := 7) (k := 5) dX10_voids_35 rfl (by decide) wd_761 rfl gr7 ?_
      refine ax_iload (i := 8) dX10_voids_38 rfl ?_
      obtain ⟨x8, gx8, h⟩ := Option.bind_eq_some_iff.mp h
      refine ax_iald dX10_voids_40 gx8 ?_
      refine ax_ishr dX10_voids_41 ?_
      refine ax_iconst (v := (1)) dX10_voids_42 rfl ?_
      refine ax_iand dX10_voids_43 ?_
      refine ax_iconst (v := (1)) dX10_voids_44 rfl ?_
      refine ax_icmp_ne (tgt := 79) dX10_voids_45 (by decide) (fun c9 => ?_) (fun c9 => ?_)
      · rw [if_neg c9] at h
        refine ax_iinc (i := 8) (v := (a8 + (-1))) (L2 := [some (av_r a0), none, some (av_i a2), some (av_i a3), some (av_i a4), some (av_i a5), some (av_i a6), some (av_i a7), some (av_i (a8 + (-1))), some (av_i x6)]) dX10_voids_79 rfl rfl (by decide) rfl rfl ?_
        refine ax_goto (tgt := 18) dX10_voids_82 (by decide) ?_
        exact ax_less (L' := [(some (av_r a0)), none, (some (av_i a2)), (some (av_i a3)), (some (av_i a4)), (some (av_i a5)), (some (av_i a6)), (some (av_i a7)), (some (av_i (a8 + (-1)))), none]) ⟨rfl, rfl, rfl, rfl, rfl, rfl, rfl, rfl, trivial⟩ (ih _ _ _ _ _ _ _ _ _ h)
      · rw [if_pos c9] at h
        refine ax_iload (i := 9) dX10_voids_48 rfl ?_
        refine ax_iload_n (i := 2) dX10_voids_50 rfl rfl ?_
        refine ax_iload_n (i := 3) dX10_voids_51 rfl rfl ?_
        obtain ⟨q10, gq10, h⟩ := Option.bind_eq_some_iff.mp h
        refine ax_cS (As := [av_i x6, av_i a2, av_i a3]) dX10_voids_52 (th_X10_in gq10) (And.intro wd_851 wd_59) wd_849 wd_850 cy_X10_in (by omega) (by decide) (Nat.le_of_ble_eq_true rfl) rfl ?_
        refine ax_if_eq (tgt := 79) dX10_voids_55 (by decide) (fun c11 => ?_) (fun c11 => ?_)
        · rw [if_pos c11] at h
          refine ax_iinc (i := 8) (v := (a8 + (-1))) (L2 := [some (av_r a0), none, some (av_i a2), some (av_i a3), some (av_i a4), some (av_i a5), some (av_i a6), some (av_i a7), some (av_i (a8 + (-1))), some (av_i x6)]) dX10_voids_79 rfl rfl (by decide) rfl rfl ?_
          refine ax_goto (tgt := 18) dX10_voids_82 (by decide) ?_
          exact ax_less (L' := [(some (av_r a0)), none, (some (av_i a2)), (some (av_i a3)), (some (av_i a4)), (some (av_i a5)), (some (av_i a6)), (some (av_i a7)), (some (av_i (a8 + (-1)))), none]) ⟨rfl, rfl, rfl, rfl, rfl, rfl, rfl, rfl, trivial⟩ (ih _ _ _ _ _ _ _ _ _ h)
        · rw [if_neg c11] at h
          refine ax_iload (i := 9) dX10_voids_58 rfl ?_
          refine ax_iload (i := 4) dX10_voids_60 rfl ?_
          refine ax_iload (i := 5) dX10_voids_62 rfl ?_
          obtain ⟨q12, gq12, h⟩ := Option.bind_eq_some_iff.mp h
          refine ax_cS (As := [av_i x6, av_i a4, av_i a5]) dX10_voids_64 (th_X10_in gq12) (And.intro wd_851 wd_59) wd_849 wd_850 cy_X10_in (by omega) (by decide) (Nat.le_of_ble_eq_true rfl) rfl ?_
          refine ax_if_ne (tgt := 79) dX10_voids_67 (by decide) (fun c13 => ?_) (fun c13 => ?_)
          · rw [if_neg c13] at h
            refine ax_iinc (i := 8) (v := (a8 + (-1))) (L2 := [some (av_r a0), none, some (av_i a2), some (av_i a3), some (av_i a4), some (av_i a5), some (av_i a6), some (av_i a7), some (av_i (a8 + (-1))), some (av_i x6)]) dX10_voids_79 rfl rfl (by decide) rfl rfl ?_
            refine ax_goto (tgt := 18) dX10_voids_82 (by decide) ?_
            exact ax_less (L' := [(some (av_r a0)), none, (some (av_i a2)), (some (av_i a3)), (some (av_i a4)), (some (av_i a5)), (some (av_i a6)), (some (av_i a7)), (some (av_i (a8 + (-1)))), none]) ⟨rfl, rfl, rfl, rfl, rfl, rfl, rfl, rfl, trivial⟩ (ih _ _ _ _ _ _ _ _ _ h)
          · rw [if_pos c13] at h
            refine ax_aload_n (i := 0) dX10_voids_70 rfl rfl ?_
            refine ax_iload (i := 8) dX10_voids_71 rfl ?_
            obtain ⟨w14, gw14, h⟩ := Option.bind_eq_some_iff.mp h
            obtain ⟨q15, gq15, h⟩ := Option.bind_eq_some_iff.mp h
            refine ax_cV (As := [av_i a8]) (t := 7) dX10_voids_73 gw14 (th_X10_drops gq15) rfl (And.intro wd_889 wd_59) wd_886 wd_888 wd_22 cy_X10_drops (by omega) (by decide) (Nat.le_of_ble_eq_true rfl) rfl ?_
            refine ax_iinc (i := 7) (v := (a7 + (1))) (L2 := [some (av_r a0), none, some (av_i a2), some (av_i a3), some (av_i a4), some (av_i a5), some (av_i a6), some (av_i (a7 + (1))), some (av_i a8), some (av_i x6)]) dX10_voids_76 rfl rfl (by decide) rfl rfl ?_
            refine ax_iinc (i := 8) (v := (a8 + (-1))) (L2 := [some (av_r a0), none, some (av_i a2), some (av_i a3), some (av_i a4), some (av_i a5), some (av_i a6), some (av_i (a7 + (1))), some (av_i (a8 + (-1))), some (av_i x6)]) dX10_voids_79 rfl rfl (by decide) rfl rfl ?_
            refine ax_goto (tgt := 18) dX10_voids_82 (by decide) ?_
            exact ax_less (L' := [(some (av_r a0)), none, (some (av_i a2)), (some (av_i a3)), (some (av_i a4)), (some (av_i a5)), (some (av_i a6)), (some (av_i (a7 + (1)))), (some (av_i (a8 + (-1)))), none]) ⟨rfl, rfl, rfl, rfl, rfl, rfl, rfl, rfl, trivial⟩ (ih _ _ _ _ _ _ _ _ _ h)
def fn_X10_voids (a0 : Option Nat) (a1 : Int32) (a2 : Int32) (a3 : Int32) (a4 : Int32) (a5 : Int32) (s : ax_S) : Option (Int32 × ax_S) :=
  (ax_sh s 7 a0).bind fun w16 =>
  (fn_X10_dependents a0 a1 s).bind fun q17 =>
  (ax_gi q17.2 7 4 a0).bind fun x18 =>
  ax_bd ((x18 - (1))) fun v19 =>
  fb_X10_voids_18 10000 a0 a2 a3 a4 a5 q17.1 (0) v19 q17.2
set_option maxRecDepth 100000 in
set_option maxHeartbeats 4000000 in
theorem tw_X10_voids {q : Int32 × ax_S} {a0 : Option Nat} {a1 : Int32} {a2 : Int32} {a3 : Int32} {a4 : Int32} {a5 : Int32} {s : ax_S} (h : fn_X10_voids a0 a1 a2 a3 a4 a5 s = some q) : AW mm_X10_voids 2 0 0 0 [some (av_r a0), some (av_i a1), some (av_i a2), some (av_i a3), some (av_i a4), some (av_i a5), none, none, none, none] [] s (some (av_i q.1), q.2) := by
  unfold fn_X10_voids at h
  refine ax_aload_n (i := 0) dX10_voids_0 rfl rfl ?_
  refine ax_iload_n (i := 1) dX10_voids_1 rfl rfl ?_
  obtain ⟨w16, gw16, h⟩ := Option.bind_eq_some_iff.mp h
  obtain ⟨q17, gq17, h⟩ := Option.bind_eq_some_iff.mp h
  refine ax_cV (As := [av_i a1]) (t := 7) dX10_voids_2 gw16 (th_X10_dependents gq17) rfl (And.intro wd_881 wd_59) wd_878 wd_880 wd_20 cy_X10_dependents (by omega) (by decide) (Nat.le_of_ble_eq_true rfl) rfl ?_
  refine ax_istore (i := 6) (L2 := [some (av_r a0), some (av_i a1), some (av_i a2), some (av_i a3), some (av_i a4), some (av_i a5), some (av_i q17.1), none, none, none]) dX10_voids_5 (by decide) rfl rfl ?_
  refine ax_iconst (v := (0)) dX10_voids_7 rfl ?_
  refine ax_istore (i := 7) (L2 := [some (av_r a0), some (av_i a1), some (av_i a2), some (av_i a3), some (av_i a4), some (av_i a5), some (av_i q17.1), some (av_i (0)), none, none]) dX10_voids_8 (by decide) rfl rfl ?_
  refine ax_aload_n (i := 0) dX10_voids_10 rfl rfl ?_
  obtain ⟨x18, gx18, h⟩ := Option.bind_eq_some_iff.mp h
  refine ax_getI (q := (RX10, TX10, 28)) (t := 7) (k := 4) dX10_voids_11 rfl (by decide) wd_760 rfl gx18 ?_
  refine ax_iconst (v := (1)) dX10_voids_14 rfl ?_
  refine ax_isub dX10_voids_15 ?_
  refine ax_bdI h (fun v19 h => ?_)
  refine ax_istore (i := 8) (L2 := [some (av_r a0), some (av_i a1), some (av_i a2), some (av_i a3), some (av_i a4), some (av_i a5), some (av_i q17.1), some (av_i (0)), some (av_i v19), none]) dX10_voids_16 (by decide) rfl rfl ?_
  exact ax_less (L' := [(some (av_r a0)), none, (some (av_i a2)), (some (av_i a3)), (some (av_i a4)), (some (av_i a5)), (some (av_i q17.1)), (some (av_i (0))), (some (av_i v19)), none]) ⟨rfl, rfl, rfl, rfl, rfl, rfl, rfl, rfl, trivial⟩ (tb_X10_voids_18  _ _ _ _ _ _ _ _ _ _ h)
set_option maxRecDepth 100000 in
set_option maxHeartbeats 4000000 in
theorem th_X10_voids {q : Int32 × ax_S} {a0 : Option Nat} {a1 : Int32} {a2 : Int32} {a3 : Int32} {a4 : Int32} {a5 : Int32} {s : ax_S} (h : fn_X10_voids a0 a1 a2 a3 a4 a5 s = some q) : AC mm_X10_voids yX10_voids 2 0 0 [av_r a0, av_i a1, av_i a2, av_i a3, av_i a4, av_i a5] s (some (av_i q.1), q.2) := by
  exact ax_met (L0 := [some (av_r a0), some (av_i a1), some (av_i a2), some (av_i a3), some (av_i a4), some (av_i a5), none, none, none, none]) (by decide +kernel) rfl (fun h => absurd h (by decide)) ⟨rfl, rfl, rfl, rfl, rfl, rfl, trivial⟩ (Nat.le_of_ble_eq_true rfl) trivial (tw_X10_voids h)
/-! X10_connect -/
abbrev mm_X10_connect : ax_M := (RX10, cX10_connect, (some .int), 4, false)
def fb_X10_connect_52 (a0 : Option Nat) (a1 : Int32) (a2 : Int32) (a3 : Int32) (s : ax_S) : Option (Int32 × ax_S) :=
  (ax_gr s 7 0 a0).bind fun r1 =>
  (fn_X10_at a1 ((3) + a2) s).bind fun q2 =>
  (ax_as q2.2 9 r1 q2.1 a3).bind fun s3 =>
  if a2 = 0 then
    (ax_sh s3 7 a0).bind fun w13 =>
    (fn_X10_voids a0 a1 (0) (99) (1) (0) s3).bind fun q14 =>
    some (q14.1, q14.2)
  else
    (ax_gr s3 7 0 a0).bind fun r5 =>
    (fn_X10_at a1 (1) s3).bind fun q6 =>
    (ax_al q6.2 9 r5 q6.1).bind fun x7 =>
    (ax_gr q6.2 7 0 a0).bind fun r8 =>
    (fn_X10_at a1 (2) q6.2).bind fun q9 =>
    (ax_al q9.2 9 r8 q9.1).bind fun x10 =>
    (ax_sh q9.2 7 a0).bind fun w11 =>
    (fn_X10_voids a0 a1 x7 x10 (1) (0) q9.2).bind fun q12 =>
    some (q12.1, q12.2)
set_option maxRecDepth 100000 in
set_option maxHeartbeats 4000000 in
theorem tb_X10_connect_52 {q : Int32 × ax_S} {a0 : Option Nat} {a1 : Int32} {a2 : Int32} {a3 : Int32} {s : ax_S} (h : fb_X10_connect_52 a0 a1 a2 a3 s = some q) : AW mm_X10_connect 3 0 0 52 [(some (av_r a0)), (some (av_i a1)), (some (av_i a2)), (some (av_i a3))] [] s (some (av_i q.1), q.2) := by
  unfold fb_X10_connect_52 at h
  refine ax_aload_n (i := 0) dX10_connect_52 rfl rfl ?_
  obtain ⟨r1, gr1, h⟩ := Option.bind_eq_some_iff.mp h
  refine ax_getR (q := (RX10, TX10, 28)) (t := 7) (k := 0) dX10_connect_53 rfl (by decide) wd_756 rfl gr1 ?_
  refine ax_iload_n (i := 1) dX10_connect_56 rfl rfl ?_
  refine ax_iconst (v := (3)) dX10_connect_57 rfl ?_
  refine ax_iload_n (i := 2) dX10_connect_58 rfl rfl ?_
  refine ax_iadd dX10_connect_59 ?_
  obtain ⟨q2, gq2, h⟩ := Option.bind_eq_some_iff.mp h
  refine ax_cS (As := [av_i a1, av_i ((3) + a2)]) dX10_connect_60 (th_X10_at gq2) (And.intro wd_858 wd_59) wd_856 wd_857 cy_X10_at (by omega) (by decide) (Nat.le_of_ble_eq_true rfl) rfl ?_
  refine ax_iload_n (i := 3) dX10_connect_63 rfl rfl ?_
  obtain ⟨s3, gs3, h⟩ := Option.bind_eq_some_iff.mp h
  refine ax_iast dX10_connect_64 gs3 ?_
  refine ax_iload_n (i := 2) dX10_connect_65 rfl rfl ?_
  refine ax_if_ne (tgt := 82) dX10_connect_66 (by decide) (fun c4 => ?_) (fun c4 => ?_)
  · rw [if_neg c4] at h
    refine ax_aload_n (i := 0) dX10_connect_82 rfl rfl ?_
    refine ax_iload_n (i := 1) dX10_connect_83 rfl rfl ?_
    refine ax_aload_n (i := 0) dX10_connect_84 rfl rfl ?_
    obtain ⟨r5, gr5, h⟩ := Option.bind_eq_some_iff.mp h
    refine ax_getR (q := (RX10, TX10, 28)) (t := 7) (k := 0) dX10_connect_85 rfl (by decide) wd_756 rfl gr5 ?_
    refine ax_iload_n (i := 1) dX10_connect_88 rfl rfl ?_
    refine ax_iconst (v := (1)) dX10_connect_89 rfl ?_
    obtain ⟨q6, gq6, h⟩ := Option.bind_eq_some_iff.mp h
    refine ax_cS (As := [av_i a1, av_i (1)]) dX10_connect_90 (th_X10_at gq6) (And.intro wd_858 wd_59) wd_856 wd_857 cy_X10_at (by omega) (by decide) (Nat.le_of_ble_eq_true rfl) rfl ?_
    obtain ⟨x7, gx7, h⟩ := Option.bind_eq_some_iff.mp h
    refine ax_iald dX10_connect_93 gx7 ?_
    refine ax_aload_n (i := 0) dX10_connect_94 rfl rfl ?_
    obtain ⟨r8, gr8, h⟩ := Option.bind_eq_some_iff.mp h
    refine ax_getR (q := (RX10, TX10, 28)) (t := 7) (k := 0) dX10_connect_95 rfl (by decide) wd_756 rfl gr8 ?_
    refine ax_iload_n (i := 1) dX10_connect_98 rfl rfl ?_
    refine ax_iconst (v := (2)) dX10_connect_99 rfl ?_
    obtain ⟨q9, gq9, h⟩ := Option.bind_eq_some_iff.mp h
    refine ax_cS (As := [av_i a1, av_i (2)]) dX10_connect_100 (th_X10_at gq9) (And.intro wd_858 wd_59) wd_856 wd_857 cy_X10_at (by omega) (by decide) (Nat.le_of_ble_eq_true rfl) rfl ?_
    obtain ⟨x10, gx10, h⟩ := Option.bind_eq_some_iff.mp h
    refine ax_iald dX10_connect_103 gx10 ?_
    refine ax_iconst (v := (1)) dX10_connect_104 rfl ?_
    refine ax_iconst (v := (0)) dX10_connect_105 rfl ?_
    obtain ⟨w11, gw11, h⟩ := Option.bind_eq_some_iff.mp h
    obtain ⟨q12, gq12, h⟩ := Option.bind_eq_some_iff.mp h
    refine ax_cV (As := [av_i a1, av_i x7, av_i x10, av_i (1), av_i (0)]) (t := 7) dX10_connect_106 gw11 (th_X10_voids gq12) rfl (And.intro wd_885 wd_59) wd_882 wd_884 wd_21 cy_X10_voids (by omega) (by decide) (Nat.le_of_ble_eq_true rfl) rfl ?_
    exact ax_reti dX10_connect_109 h
  · rw [if_pos c4] at h
    refine ax_aload_n (i := 0) dX10_connect_69 rfl rfl ?_
    refine ax_iload_n (i := 1) dX10_connect_70 rfl rfl ?_
    refine ax_iconst (v := (0)) dX10_connect_71 rfl ?_
    refine ax_bipush (v := (99)) dX10_connect_72 rfl ?_
    refine ax_iconst (v := (1)) dX10_connect_74 rfl ?_
    refine ax_iconst (v := (0)) dX10_connect_75 rfl ?_
    obtain ⟨w13, gw13, h⟩ := Option.bind_eq_some_iff.mp h
    obtain ⟨q14, gq14, h⟩ := Option.bind_eq_some_iff.mp h
    refine ax_cV (As := [av_i a1, av_i (0), av_i (99), av_i (1), av_i (0)]) (t := 7) dX10_connect_76 gw13 (th_X10_voids gq14) rfl (And.intro wd_885 wd_59) wd_882 wd_884 wd_21 cy_X10_voids (by omega) (by decide) (Nat.le_of_ble_eq_true rfl) rfl ?_
    refine ax_goto (tgt := 109) dX10_connect_79 (by decide) ?_
    exact ax_reti dX10_connect_109 h
def fb_X10_connect_28 (a0 : Option Nat) (a1 : Int32) (a2 : Int32) (a3 : Int32) (s : ax_S) : Option (Int32 × ax_S) :=
  if a3 = (-1005) then
    fb_X10_connect_52 a0 a1 a2 a3 s
  else
    (ax_sh s 7 a0).bind fun w16 =>
    (fn_X10_dependents a0 a1 s).bind fun q17 =>
    if ((q17.1 >>> (a3 &&& 31)) &&& (1)) = (1) then
      some ((-1003), q17.2)
    else
      fb_X10_connect_52 a0 a1 a2 a3 q17.2
set_option maxRecDepth 100000 in
set_option maxHeartbeats 4000000 in
theorem tb_X10_connect_28 {q : Int32 × ax_S} {a0 : Option Nat} {a1 : Int32} {a2 : Int32} {a3 : Int32} {s : ax_S} (h : fb_X10_connect_28 a0 a1 a2 a3 s = some q) : AW mm_X10_connect 3 0 0 28 [(some (av_r a0)), (some (av_i a1)), (some (av_i a2)), (some (av_i a3))] [] s (some (av_i q.1), q.2) := by
  unfold fb_X10_connect_28 at h
  refine ax_iload_n (i := 3) dX10_connect_28 rfl rfl ?_
  refine ax_sipush (v := (-1005)) dX10_connect_29 rfl ?_
  refine ax_icmp_eq (tgt := 52) dX10_connect_32 (by decide) (fun c15 => ?_) (fun c15 => ?_)
  · rw [if_pos c15] at h
    exact ax_less (L' := [(some (av_r a0)), (some (av_i a1)), (some (av_i a2)), (some (av_i a3))]) ⟨rfl, rfl, rfl, rfl, trivial⟩ (tb_X10_connect_52  h)
  · rw [if_neg c15] at h
    refine ax_aload_n (i := 0) dX10_connect_35 rfl rfl ?_
    refine ax_iload_n (i := 1) dX10_connect_36 rfl rfl ?_
    obtain ⟨w16, gw16, h⟩ := Option.bind_eq_some_iff.mp h
    obtain ⟨q17, gq17, h⟩ := Option.bind_eq_some_iff.mp h
    refine ax_cV (As := [av_i a1]) (t := 7) dX10_connect_37 gw16 (th_X10_dependents gq17) rfl (And.intro wd_881 wd_59) wd_878 wd_880 wd_20 cy_X10_dependents (by omega) (by decide) (Nat.le_of_ble_eq_true rfl) rfl ?_
    refine ax_iload_n (i := 3) dX10_connect_40 rfl rfl ?_
    refine ax_ishr dX10_connect_41 ?_
    refine ax_iconst (v := (1)) dX10_connect_42 rfl ?_
    refine ax_iand dX10_connect_43 ?_
    refine ax_iconst (v := (1)) dX10_connect_44 rfl ?_
    refine ax_icmp_ne (tgt := 52) dX10_connect_45 (by decide) (fun c18 => ?_) (fun c18 => ?_)
    · rw [if_neg c18] at h
      exact ax_less (L' := [(some (av_r a0)), (some (av_i a1)), (some (av_i a2)), (some (av_i a3))]) ⟨rfl, rfl, rfl, rfl, trivial⟩ (tb_X10_connect_52  h)
    · rw [if_pos c18] at h
      refine ax_sipush (v := (-1003)) dX10_connect_48 rfl ?_
      exact ax_reti dX10_connect_51 h
def fn_X10_connect (a0 : Option Nat) (a1 : Int32) (a2 : Int32) (a3 : Int32) (s : ax_S) : Option (Int32 × ax_S) :=
  (ax_sh s 7 a0).bind fun w19 =>
  (fn_X10_isInput a0 a1 a2 s).bind fun q20 =>
  if q20.1 = 0 then
    some ((-1001), q20.2)
  else
    if a3 = (-1005) then
      fb_X10_connect_28 a0 a1 a2 a3 q20.2
    else
      (ax_sh q20.2 7 a0).bind fun w23 =>
      (fn_X10_isNode a0 a3 q20.2).bind fun q24 =>
      if q24.1 = 0 then
        some ((-1001), q24.2)
      else
        fb_X10_connect_28 a0 a1 a2 a3 q24.2
set_option maxRecDepth 100000 in
set_option maxHeartbeats 4000000 in
theorem tw_X10_connect {q : Int32 × ax_S} {a0 : Option Nat} {a1 : Int32} {a2 : Int32} {a3 : Int32} {s : ax_S} (h : fn_X10_connect a0 a1 a2 a3 s = some q) : AW mm_X10_connect 3 0 0 0 [some (av_r a0), some (av_i a1), some (av_i a2), some (av_i a3)] [] s (some (av_i q.1), q.2) := by
  unfold fn_X10_connect at h
  refine ax_aload_n (i := 0) dX10_connect_0 rfl rfl ?_
  refine ax_iload_n (i := 1) dX10_connect_1 rfl rfl ?_
  refine ax_iload_n (i := 2) dX10_connect_2 rfl rfl ?_
  obtain ⟨w19, gw19, h⟩ := Option.bind_eq_some_iff.mp h
  obtain ⟨q20, gq20, h⟩ := Option.bind_eq_some_iff.mp h
  refine ax_cV (As := [av_i a1, av_i a2]) (t := 7) dX10_connect_3 gw19 (th_X10_isInput gq20) rfl (And.intro wd_869 wd_59) wd_866 wd_868 wd_17 cy_X10_isInput (by omega) (by decide) (Nat.le_of_ble_eq_true rfl) rfl ?_
  refine ax_if_eq (tgt := 24) dX10_connect_6 (by decide) (fun c21 => ?_) (fun c21 => ?_)
  · rw [if_pos c21] at h
    refine ax_sipush (v := (-1001)) dX10_connect_24 rfl ?_
    exact ax_reti dX10_connect_27 h
  · rw [if_neg c21] at h
    refine ax_iload_n (i := 3) dX10_connect_9 rfl rfl ?_
    refine ax_sipush (v := (-1005)) dX10_connect_10 rfl ?_
    refine ax_icmp_eq (tgt := 28) dX10_connect_13 (by decide) (fun c22 => ?_) (fun c22 => ?_)
    · rw [if_pos c22] at h
      exact ax_less (L' := [(some (av_r a0)), (some (av_i a1)), (some (av_i a2)), (some (av_i a3))]) ⟨rfl, rfl, rfl, rfl, trivial⟩ (tb_X10_connect_28  h)
    · rw [if_neg c22] at h
      refine ax_aload_n (i := 0) dX10_connect_16 rfl rfl ?_
      refine ax_iload_n (i := 3) dX10_connect_17 rfl rfl ?_
      obtain ⟨w23, gw23, h⟩ := Option.bind_eq_some_iff.mp h
      obtain ⟨q24, gq24, h⟩ := Option.bind_eq_some_iff.mp h
      refine ax_cV (As := [av_i a3]) (t := 7) dX10_connect_18 gw23 (th_X10_isNode gq24) rfl (And.intro wd_873 wd_59) wd_870 wd_872 wd_18 cy_X10_isNode (by omega) (by decide) (Nat.le_of_ble_eq_true rfl) rfl ?_
      refine ax_if_ne (tgt := 28) dX10_connect_21 (by decide) (fun c25 => ?_) (fun c25 => ?_)
      · rw [if_neg c25] at h
        exact ax_less (L' := [(some (av_r a0)), (some (av_i a1)), (some (av_i a2)), (some (av_i a3))]) ⟨rfl, rfl, rfl, rfl, trivial⟩ (tb_X10_connect_28  h)
      · rw [if_pos c25] at h
        refine ax_sipush (v := (-1001)) dX10_connect_24 rfl ?_
        exact ax_reti dX10_connect_27 h
set_option maxRecDepth 100000 in
set_option maxHeartbeats 4000000 in
theorem th_X10_connect {q : Int32 × ax_S} {a0 : Option Nat} {a1 : Int32} {a2 : Int32} {a3 : Int32} {s : ax_S} (h : fn_X10_connect a0 a1 a2 a3 s = some q) : AC mm_X10_connect yX10_connect 3 0 0 [av_r a0, av_i a1, av_i a2, av_i a3] s (some (av_i q.1), q.2) := by
  exact ax_met (L0 := [some (av_r a0), some (av_i a1), some (av_i a2), some (av_i a3)]) (by decide +kernel) rfl (fun h => absurd h (by decide)) ⟨rfl, rfl, rfl, rfl, trivial⟩ (Nat.le_of_ble_eq_true rfl) trivial (tw_X10_connect h)
/-! X10_node -/
abbrev mm_X10_node : ax_M := (RX10, cX10_node, (some .int), 3, false)
def fn_X10_node (a0 : Option Nat) (a1 : Int32) (a2 : Int32) (s : ax_S) : Option (Int32 × ax_S) :=
  (ax_sh s 7 a0).bind fun w1 =>
  (fn_X10_isNode a0 a1 s).bind fun q2 =>
  if q2.1 = 0 then
    some ((-1001), q2.2)
  else
    (fn_X10_in a2 (0) (5) q2.2).bind fun q4 =>
    if q4.1 = 0 then
      some ((-1002), q4.2)
    else
      (ax_sh q4.2 7 a0).bind fun w6 =>
      (fn_X10_nodeTells a0 a1 a2 q4.2).bind fun q7 =>
      some (q7.1, q7.2)
set_option maxRecDepth 100000 in
set_option maxHeartbeats 4000000 in
theorem tw_X10_node {q : Int32 × ax_S} {a0 : Option Nat} {a1 : Int32} {a2 : Int32} {s : ax_S} (h : fn_X10_node a0 a1 a2 s = some q) : AW mm_X10_node 4 0 0 0 [some (av_r a0), some (av_i a1), some (av_i a2)] [] s (some (av_i q.1), q.2) := by
  unfold fn_X10_node at h
  refine ax_aload_n (i := 0) dX10_node_0 rfl rfl ?_
  refine ax_iload_n (i := 1) dX10_node_1 rfl rfl ?_
  obtain ⟨w1, gw1, h⟩ := Option.bind_eq_some_iff.mp h
  obtain ⟨q2, gq2, h⟩ := Option.bind_eq_some_iff.mp h
  refine ax_cV (As := [av_i a1]) (t := 7) dX10_node_2 gw1 (th_X10_isNode gq2) rfl (And.intro wd_873 wd_59) wd_870 wd_872 wd_18 cy_X10_isNode (by omega) (by decide) (Nat.le_of_ble_eq_true rfl) rfl ?_
  refine ax_if_ne (tgt := 12) dX10_node_5 (by decide) (fun c3 => ?_) (fun c3 => ?_)
  · rw [if_neg c3] at h
    refine ax_iload_n (i := 2) dX10_node_12 rfl rfl ?_
    refine ax_iconst (v := (0)) dX10_node_13 rfl ?_
    refine ax_iconst (v := (5)) dX10_node_14 rfl ?_
    obtain ⟨q4, gq4, h⟩ := Option.bind_eq_some_iff.mp h
    refine ax_cS (As := [av_i a2, av_i (0), av_i (5)]) dX10_node_15 (th_X10_in gq4) (And.intro wd_851 wd_59) wd_849 wd_850 cy_X10_in (by omega) (by decide) (Nat.le_of_ble_eq_true rfl) rfl ?_
    refine ax_if_eq (tgt := 30) dX10_node_18 (by decide) (fun c5 => ?_) (fun c5 => ?_)
    · rw [if_pos c5] at h
      refine ax_sipush (v := (-1002)) dX10_node_30 rfl ?_
      exact ax_reti dX10_node_33 h
    · rw [if_neg c5] at h
      refine ax_aload_n (i := 0) dX10_node_21 rfl rfl ?_
      refine ax_iload_n (i := 1) dX10_node_22 rfl rfl ?_
      refine ax_iload_n (i := 2) dX10_node_23 rfl rfl ?_
      obtain ⟨w6, gw6, h⟩ := Option.bind_eq_some_iff.mp h
      obtain ⟨q7, gq7, h⟩ := Option.bind_eq_some_iff.mp h
      refine ax_cV (As := [av_i a1, av_i a2]) (t := 7) dX10_node_24 gw6 (th_X10_nodeTells gq7) rfl (And.intro wd_919 wd_59) wd_916 wd_918 wd_24 cy_X10_nodeTells (by omega) (by decide) (Nat.le_of_ble_eq_true rfl) rfl ?_
      refine ax_goto (tgt := 33) dX10_node_27 (by decide) ?_
      exact ax_reti dX10_node_33 h
  · rw [if_pos c3] at h
    refine ax_sipush (v := (-1001)) dX10_node_8 rfl ?_
    exact ax_reti dX10_node_11 h
set_option maxRecDepth 100000 in
set_option maxHeartbeats 4000000 in
theorem th_X10_node {q : Int32 × ax_S} {a0 : Option Nat} {a1 : Int32} {a2 : Int32} {s : ax_S} (h : fn_X10_node a0 a1 a2 s = some q) : AC mm_X10_node yX10_node 4 0 0 [av_r a0, av_i a1, av_i a2] s (some (av_i q.1), q.2) := by
  exact ax_met (L0 := [some (av_r a0), some (av_i a1), some (av_i a2)]) (by decide +kernel) rfl (fun h => absurd h (by decide)) ⟨rfl, rfl, rfl, trivial⟩ (Nat.le_of_ble_eq_true rfl) trivial (tw_X10_node h)
/-! X10_faultDepth -/
abbrev mm_X10_faultDepth : ax_M := (RX10, cX10_faultDepth, (some .int), 1, false)
def fn_X10_faultDepth (a0 : Option Nat) (s : ax_S) : Option (Int32 × ax_S) :=
  (ax_sh s 7 a0).bind fun w1 =>
  (fn_X10_isText a0 s).bind fun q2 =>
  if q2.1 = 0 then
    (ax_gi q2.2 7 20 a0).bind fun x4 =>
    some (x4, q2.2)
  else
    some ((-1005), q2.2)
set_option maxRecDepth 100000 in
set_option maxHeartbeats 4000000 in
theorem tw_X10_faultDepth {q : Int32 × ax_S} {a0 : Option Nat} {s : ax_S} (h : fn_X10_faultDepth a0 s = some q) : AW mm_X10_faultDepth 5 0 0 0 [some (av_r a0)] [] s (some (av_i q.1), q.2) := by
  unfold fn_X10_faultDepth at h
  refine ax_aload_n (i := 0) dX10_faultDepth_0 rfl rfl ?_
  obtain ⟨w1, gw1, h⟩ := Option.bind_eq_some_iff.mp h
  obtain ⟨q2, gq2, h⟩ := Option.bind_eq_some_iff.mp h
  refine ax_cV (As := []) (t := 7) dX10_faultDepth_1 gw1 (th_X10_isText gq2) rfl (And.intro wd_1048 wd_59) wd_1045 wd_1047 wd_42 cy_X10_isText (by omega) (by decide) (Nat.le_of_ble_eq_true rfl) rfl ?_
  refine ax_if_eq (tgt := 13) dX10_faultDepth_4 (by decide) (fun c3 => ?_) (fun c3 => ?_)
  · rw [if_pos c3] at h
    refine ax_aload_n (i := 0) dX10_faultDepth_13 rfl rfl ?_
    obtain ⟨x4, gx4, h⟩ := Option.bind_eq_some_iff.mp h
    refine ax_getI (q := (RX10, TX10, 28)) (t := 7) (k := 20) dX10_faultDepth_14 rfl (by decide) wd_776 rfl gx4 ?_
    exact ax_reti dX10_faultDepth_17 h
  · rw [if_neg c3] at h
    refine ax_sipush (v := (-1005)) dX10_faultDepth_7 rfl ?_
    refine ax_goto (tgt := 17) dX10_faultDepth_10 (by decide) ?_
    exact ax_reti dX10_faultDepth_17 h
set_option maxRecDepth 100000 in
set_option maxHeartbeats 4000000 in
theorem th_X10_faultDepth {q : Int32 × ax_S} {a0 : Option Nat} {s : ax_S} (h : fn_X10_faultDepth a0 s = some q) : AC mm_X10_faultDepth yX10_faultDepth 5 0 0 [av_r a0] s (some (av_i q.1), q.2) := by
  exact ax_met (L0 := [some (av_r a0)]) (by decide +kernel) rfl (fun h => absurd h (by decide)) ⟨rfl, trivial⟩ (Nat.le_of_ble_eq_true rfl) trivial (tw_X10_faultDepth h)
/-! X10_clear -/
abbrev mm_X10_clear : ax_M := (RX10, cX10_clear, (some .int), 2, false)
def fn_X10_clear (a0 : Option Nat) (s : ax_S) : Option (Int32 × ax_S) :=
  (ax_gr s 7 0 a0).bind fun r1 =>
  (ax_al s 9 r1 (0)).bind fun x2 =>
  (ax_gr s 7 0 a0).bind fun r3 =>
  (ax_as s 9 r3 (0) (0)).bind fun s4 =>
  (ax_pi s4 7 4 a0 (0)).bind fun s5 =>
  some (x2, s5)
set_option maxRecDepth 100000 in
set_option maxHeartbeats 4000000 in
theorem tw_X10_clear {q : Int32 × ax_S} {a0 : Option Nat} {s : ax_S} (h : fn_X10_clear a0 s = some q) : AW mm_X10_clear 0 0 0 0 [some (av_r a0), none] [] s (some (av_i q.1), q.2) := by
  unfold fn_X10_clear at h
  refine ax_aload_n (i := 0) dX10_clear_0 rfl rfl ?_
  obtain ⟨r1, gr1, h⟩ := Option.bind_eq_some_iff.mp h
  refine ax_getR (q := (RX10, TX10, 28)) (t := 7) (k := 0) dX10_clear_1 rfl (by decide) wd_756 rfl gr1 ?_
  refine ax_iconst (v := (0)) dX10_clear_4 rfl ?_
  obtain ⟨x2, gx2, h⟩ := Option.bind_eq_some_iff.mp h
  refine ax_iald dX10_clear_5 gx2 ?_
  refine ax_istore_n (i := 1) (L2 := [some (av_r a0), some (av_i x2)]) dX10_clear_6 rfl (by decide) rfl rfl ?_
  refine ax_aload_n (i := 0) dX10_clear_7 rfl rfl ?_
  obtain ⟨r3, gr3, h⟩ := Option.bind_eq_some_iff.mp h
  refine ax_getR (q := (RX10, TX10, 28)) (t := 7) (k := 0) dX10_clear_8 rfl (by decide) wd_756 rfl gr3 ?_
  refine ax_iconst (v := (0)) dX10_clear_11 rfl ?_
  refine ax_iconst (v := (0)) dX10_clear_12 rfl ?_
  obtain ⟨s4, gs4, h⟩ := Option.bind_eq_some_iff.mp h
  refine ax_iast dX10_clear_13 gs4 ?_
  refine ax_aload_n (i := 0) dX10_clear_14 rfl rfl ?_
  refine ax_iconst (v := (0)) dX10_clear_15 rfl ?_
  obtain ⟨s5, gs5, h⟩ := Option.bind_eq_some_iff.mp h
  refine ax_putI (q := (RX10, TX10, 28)) (t := 7) (k := 4) dX10_clear_16 rfl (by decide) wd_760 rfl rfl ⟨rfl, rfl⟩ gs5 ?_
  refine ax_iload_n (i := 1) dX10_clear_19 rfl rfl ?_
  exact ax_reti dX10_clear_20 h
set_option maxRecDepth 100000 in
set_option maxHeartbeats 4000000 in
theorem th_X10_clear {q : Int32 × ax_S} {a0 : Option Nat} {s : ax_S} (h : fn_X10_clear a0 s = some q) : AC mm_X10_clear yX10_clear 0 0 0 [av_r a0] s (some (av_i q.1), q.2) := by
  exact ax_met (L0 := [some (av_r a0), none]) (by decide +kernel) rfl (fun h => absurd h (by decide)) ⟨rfl, trivial⟩ (Nat.le_of_ble_eq_true rfl) trivial (tw_X10_clear h)
/-! X10_nodes -/
abbrev mm_X10_nodes : ax_M := (RX10, cX10_nodes, (some .int), 1, false)
def fn_X10_nodes (a0 : Option Nat) (s : ax_S) : Option (Int32 × ax_S) :=
  (ax_gr s 7 0 a0).bind fun r1 =>
  (ax_al s 9 r1 (0)).bind fun x2 =>
  some (x2, s)
set_option maxRecDepth 100000 in
set_option maxHeartbeats 4000000 in
theorem tw_X10_nodes {q : Int32 × ax_S} {a0 : Option Nat} {s : ax_S} (h : fn_X10_nodes a0 s = some q) : AW mm_X10_nodes 0 0 0 0 [some (av_r a0)] [] s (some (av_i q.1), q.2) := by
  unfold fn_X10_nodes at h
  refine ax_aload_n (i := 0) dX10_nodes_0 rfl rfl ?_
  obtain ⟨r1, gr1, h⟩ := Option.bind_eq_some_iff.mp h
  refine ax_getR (q := (RX10, TX10, 28)) (t := 7) (k := 0) dX10_nodes_1 rfl (by decide) wd_756 rfl gr1 ?_
  refine ax_iconst (v := (0)) dX10_nodes_4 rfl ?_
  obtain ⟨x2, gx2, h⟩ := Option.bind_eq_some_iff.mp h
  refine ax_iald dX10_nodes_5 gx2 ?_
  exact ax_reti dX10_nodes_6 h
set_option maxRecDepth 100000 in
set_option maxHeartbeats 4000000 in
theorem th_X10_nodes {q : Int32 × ax_S} {a0 : Option Nat} {s : ax_S} (h : fn_X10_nodes a0 s = some q) : AC mm_X10_nodes yX10_nodes 0 0 0 [av_r a0] s (some (av_i q.1), q.2) := by
  exact ax_met (L0 := [some (av_r a0)]) (by decide +kernel) rfl (fun h => absurd h (by decide)) ⟨rfl, trivial⟩ (Nat.le_of_ble_eq_true rfl) trivial (tw_X10_nodes h)
/-! X10_init -/
abbrev mm_X10_init : ax_M := (RX10, cX10_init, none, 1, true)
def fn_X10_init (a0 : Option Nat) (s : ax_S) : Option (ax_S) :=
  (ax_sh s 7 a0).bind fun w1 =>
  ax_bd (ax_nw s 9 121) fun s2 =>
  ax_bd (some s.1.length) fun r3 =>
  (ax_pr s2 7 0 a0 r3).bind fun s4 =>
  ax_bd (ax_nw s4 9 242) fun s5 =>
  ax_bd (some s4.1.length) fun r6 =>
  (ax_pr s5 7 1 a0 r6).bind fun s7 =>
  ax_bd (ax_nw s7 10 2) fun s8 =>
  ax_bd (some s7.1.length) fun r9 =>
  (ax_pr s8 7 2 a0 r9).bind fun s10 =>
  (ax_pi s10 7 3 a0 (16)).bind fun s11 =>
  ax_bd (ax_nw s11 9 48) fun s12 =>
  ax_bd (some s11.1.length) fun r13 =>
  (ax_pr s12 7 5 a0 r13).bind fun s14 =>
  ax_bd (ax_nw s14 9 48) fun s15 =>
  ax_bd (some s14.1.length) fun r16 =>
  (ax_pr s15 7 6 a0 r16).bind fun s17 =>
  ax_bd (ax_nw s17 9 48) fun s18 =>
  ax_bd (some s17.1.length) fun r19 =>
  (ax_pr s18 7 7 a0 r19).bind fun s20 =>
  ax_bd (ax_nw s20 9 4608) fun s21 =>
  ax_bd (some s20.1.length) fun r22 =>
  (ax_pr s21 7 8 a0 r22).bind fun s23 =>
  ax_bd (ax_nw s23 9 5) fun s24 =>
  ax_bd (some s23.1.length) fun r25 =>
  (ax_pr s24 7 10 a0 r25).bind fun s26 =>
  ax_bd (ax_nw s26 9 80) fun s27 =>
  ax_bd (some s26.1.length) fun r28 =>
  (ax_pr s27 7 11 a0 r28).bind fun s29 =>
  ax_bd (ax_nw s29 9 7) fun s30 =>
  ax_bd (some s29.1.length) fun r31 =>
  (ax_as s30 9 r31 (0) (0)).bind fun s32 =>
  (ax_as s32 9 r31 (1) (1)).bind fun s33 =>
  (ax_as s33 9 r31 (2) (1)).bind fun s34 =>
  (ax_as s34 9 r31 (3) (1)).bind fun s35 =>
  (ax_as s35 9 r31 (4) (1)).bind fun s36 =>
  (ax_as s36 9 r31 (5) (1)).bind fun s37 =>
  (ax_as s37 9 r31 (6) (3)).bind fun s38 =>
  (ax_pr s38 7 13 a0 r31).bind fun s39 =>
  ax_bd (ax_nw s39 9 7) fun s40 =>
  ax_bd (some s39.1.length) fun r41 =>
  (ax_as s40 9 r41 (0) (1)).bind fun s42 =>
  (ax_as s42 9 r41 (1) (3)).bind fun s43 =>
  (ax_as s43 9 r41 (2) (3)).bind fun s44 =>
  (ax_as s44 9 r41 (3) (0)).bind fun s45 =>
  (ax_as s45 9 r41 (4) (1)).bind fun s46 =>
  (ax_as s46 9 r41 (5) (4)).bind fun s47 =>
  (ax_as s47 9 r41 (6) (0)).bind fun s48 =>
  (ax_pr s48 7 14 a0 r41).bind fun s49 =>
  ax_bd (ax_nw s49 9 12) fun s50 =>
  ax_bd (some s49.1.length) fun r51 =>
  (ax_pr s50 7 15 a0 r51).bind fun s52 =>
  ax_bd (ax_nw s52 9 13) fun s53 =>
  ax_bd (some s52.1.length) fun r54 =>
  (ax_pr s53 7 16 a0 r54).bind fun s55 =>
  ax_bd (ax_nw s55 9 13) fun s56 =>
  ax_bd (some s55.1.length) fun r57 =>
  (ax_pr s56 7 17 a0 r57).bind fun s58 =>
  ax_bd (ax_nw s58 9 7) fun s59 =>
  ax_bd (some s58.1.length) fun r60 =>
  (ax_pr s59 7 22 a0 r60).bind fun s61 =>
  ax_bd (ax_nw s61 9 7) fun s62 =>
  ax_bd (some s61.1.length) fun r63 =>
  (ax_pr s62 7 23 a0 r63).bind fun s64 =>
  ax_bd (ax_nw s64 9 240) fun s65 =>
  ax_bd (some s64.1.length) fun r66 =>
  (ax_pr s65 7 24 a0 r66).bind fun s67 =>
  ax_bd (ax_nw s67 9 40) fun s68 =>
  ax_bd (some s67.1.length) fun r69 =>
  (ax_pr s68 7 26 a0 r69).bind fun s70 =>
  some s70
set_option maxRecDepth 100000 in
set_option maxHeartbeats 4000000 in
theorem tw_X10_init {q : ax_S} {a0 : Option Nat} {s : ax_S} (h : fn_X10_init a0 s = some q) : AW mm_X10_init 1 18 5548 0 [some (av_r a0)] [] s (none, q) := by
  unfold fn_X10_init at h
  refine ax_aload_n (i := 0) dX10_init_0 rfl rfl ?_
  obtain ⟨w1, gw1, h⟩ := Option.bind_eq_some_iff.mp h
  refine ax_cO dX10_init_1 gw1 wd_755 wd_77 wd_78 (by omega) (Nat.le_of_ble_eq_true rfl) ?_
  refine ax_aload_n (i := 0) dX10_init_4 rfl rfl ?_
  refine ax_bipush (v := (121)) dX10_init_5 rfl ?_
  refine ax_newA (t := 9) (n := 121) (bc := 17) (bs := 5427) dX10_init_7 (by decide) rfl wd_119 (by decide) (by decide) (by decide) ?_
  refine ax_bdS h (fun s2 h => ?_)
  refine ax_bdR h (fun r3 h => ?_)
  obtain ⟨s4, gs4, h⟩ := Option.bind_eq_some_iff.mp h
  refine ax_putRF (q := (RX10, TX10, 28)) (t := 7) (k := 0) dX10_init_9 rfl (by decide) wd_756 rfl rfl rfl rfl (fun w => by cases w <;> exact ⟨rfl, rfl⟩) gs4 ?_
  refine ax_aload_n (i := 0) dX10_init_12 rfl rfl ?_
  refine ax_sipush (v := (242)) dX10_init_13 rfl ?_
  refine ax_newA (t := 9) (n := 242) (bc := 16) (bs := 5185) dX10_init_16 (by decide) rfl wd_119 (by decide) (by decide) (by decide) ?_
  refine ax_bdS h (fun s5 h => ?_)
  refine ax_bdR h (fun r6 h => ?_)
  obtain ⟨s7, gs7, h⟩ := Option.bind_eq_some_iff.mp h
  refine ax_putRF (q := (RX10, TX10, 28)) (t := 7) (k := 1) dX10_init_18 rfl (by decide) wd_757 rfl rfl rfl rfl (fun w => by cases w <;> exact ⟨rfl, rfl⟩) gs7 ?_
  refine ax_aload_n (i := 0) dX10_init_21 rfl rfl ?_
  refine ax_iconst (v := (2)) dX10_init_22 rfl ?_
  refine ax_newA (t := 10) (n := 2) (bc := 15) (bs := 5183) dX10_init_23 (by decide) rfl wd_269 (by decide) (by decide) (by decide) ?_
  refine ax_bdS h (fun s8 h => ?_)
  refine ax_bdR h (fun r9 h => ?_)
  obtain ⟨s10, gs10, h⟩ := Option.bind_eq_some_iff.mp h
  refine ax_putRF (q := (RX10, TX10, 28)) (t := 7) (k := 2) dX10_init_25 rfl (by decide) wd_758 rfl rfl rfl rfl (fun w => by cases w <;> exact ⟨rfl, rfl⟩) gs10 ?_
  refine ax_aload_n (i := 0) dX10_init_28 rfl rfl ?_
  refine ax_bipush (v := (16)) dX10_init_29 rfl ?_
  obtain ⟨s11, gs11, h⟩ := Option.bind_eq_some_iff.mp h
  refine ax_putI (q := (RX10, TX10, 28)) (t := 7) (k := 3) dX10_init_31 rfl (by decide) wd_759 rfl rfl ⟨rfl, rfl⟩ gs11 ?_
  refine ax_aload_n (i := 0) dX10_init_34 rfl rfl ?_
  refine ax_bipush (v := (48)) dX10_init_35 rfl ?_
  refine ax_newA (t := 9) (n := 48) (bc := 14) (bs := 5135) dX10_init_37 (by decide) rfl wd_119 (by decide) (by decide) (by decide) ?_
  refine ax_bdS h (fun s12 h => ?_)
  refine ax_bdR h (fun r13 h => ?_)
  obtain ⟨s14, gs14, h⟩ := Option.bind_eq_some_iff.mp h
  refine ax_putRF (q := (RX10, TX10, 28)) (t := 7) (k := 5) dX10_init_39 rfl (by decide) wd_761 rfl rfl rfl rfl (fun w => by cases w <;> exact ⟨rfl, rfl⟩) gs14 ?_
  refine ax_aload_n (i := 0) dX10_init_42 rfl rfl ?_
  refine ax_bipush (v := (48)) dX10_init_43 rfl ?_
  refine ax_newA (t := 9) (n := 48) (bc := 13) (bs := 5087) dX10_init_45 (by decide) rfl wd_119 (by decide) (by decide) (by decide) ?_
  refine ax_bdS h (fun s15 h => ?_)
  refine ax_bdR h (fun r16 h => ?_)
  obtain ⟨s17, gs17, h⟩ := Option.bind_eq_some_iff.mp h
  refine ax_putRF (q := (RX10, TX10, 28)) (t := 7) (k := 6) dX10_init_47 rfl (by decide) wd_762 rfl rfl rfl rfl (fun w => by cases w <;> exact ⟨rfl, rfl⟩) gs17 ?_
  refine ax_aload_n (i := 0) dX10_init_50 rfl rfl ?_
  refine ax_bipush (v := (48)) dX10_init_51 rfl ?_
  refine ax_newA (t := 9) (n := 48) (bc := 12) (bs := 5039) dX10_init_53 (by decide) rfl wd_119 (by decide) (by decide) (by decide) ?_
  refine ax_bdS h (fun s18 h => ?_)
  refine ax_bdR h (fun r19 h => ?_)
  obtain ⟨s20, gs20, h⟩ := Option.bind_eq_some_iff.mp h
  refine ax_putRF (q := (RX10, TX10, 28)) (t := 7) (k := 7) dX10_init_55 rfl (by decide) wd_763 rfl rfl rfl rfl (fun w => by cases w <;> exact ⟨rfl, rfl⟩) gs20 ?_
  refine ax_aload_n (i := 0) dX10_init_58 rfl rfl ?_
  refine ax_sipush (v := (4608)) dX10_init_59 rfl ?_
  refine ax_newA (t := 9) (n := 4608) (bc := 11) (bs := 431) dX10_init_62 (by decide) rfl wd_119 (by decide) (by decide) (by decide) ?_
  refine ax_bdS h (fun s21 h => ?_)
  refine ax_bdR h (fun r22 h => ?_)
  obtain ⟨s23, gs23, h⟩ := Option.bind_eq_some_iff.mp h
  refine ax_putRF (q := (RX10, TX10, 28)) (t := 7) (k := 8) dX10_init_64 rfl (by decide) wd_764 rfl rfl rfl rfl (fun w => by cases w <;> exact ⟨rfl, rfl⟩) gs23 ?_
  refine ax_aload_n (i := 0) dX10_init_67 rfl rfl ?_
  refine ax_iconst (v := (5)) dX10_init_68 rfl ?_
  refine ax_newA (t := 9) (n := 5) (bc := 10) (bs := 426) dX10_init_69 (by decide) rfl wd_119 (by decide) (by decide) (by decide) ?_
  refine ax_bdS h (fun s24 h => ?_)
  refine ax_bdR h (fun r25 h => ?_)
  obtain ⟨s26, gs26, h⟩ := Option.bind_eq_some_iff.mp h
  refine ax_putRF (q := (RX10, TX10, 28)) (t := 7) (k := 10) dX10_init_71 rfl (by decide) wd_766 rfl rfl rfl rfl (fun w => by cases w <;> exact ⟨rfl, rfl⟩) gs26 ?_
  refine ax_aload_n (i := 0) dX10_init_74 rfl rfl ?_
  refine ax_bipush (v := (80)) dX10_init_75 rfl ?_
  refine ax_newA (t := 9) (n := 80) (bc := 9) (bs := 346) dX10_init_77 (by decide) rfl wd_119 (by decide) (by decide) (by decide) ?_
  refine ax_bdS h (fun s27 h => ?_)
  refine ax_bdR h (fun r28 h => ?_)
  obtain ⟨s29, gs29, h⟩ := Option.bind_eq_some_iff.mp h
  refine ax_putRF (q := (RX10, TX10, 28)) (t := 7) (k := 11) dX10_init_79 rfl (by decide) wd_767 rfl rfl rfl rfl (fun w => by cases w <;> exact ⟨rfl, rfl⟩) gs29 ?_
  refine ax_aload_n (i := 0) dX10_init_82 rfl rfl ?_
  refine ax_bipush (v := (7)) dX10_init_83 rfl ?_
  refine ax_newA (t := 9) (n := 7) (bc := 8) (bs := 339) dX10_init_85 (by decide) rfl wd_119 (by decide) (by decide) (by decide) ?_
  refine ax_bdS h (fun s30 h => ?_)
  refine ax_bdR h (fun r31 h => ?_)
  refine ax_dup dX10_init_87 trivial ?_
  refine ax_iconst (v := (0)) dX10_init_88 rfl ?_
  refine ax_iconst (v := (0)) dX10_init_89 rfl ?_
  obtain ⟨s32, gs32, h⟩ := Option.bind_eq_some_iff.mp h
  refine ax_iast dX10_init_90 gs32 ?_
  refine ax_dup dX10_init_91 trivial ?_
  refine ax_iconst (v := (1)) dX10_init_92 rfl ?_
  refine ax_iconst (v := (1)) dX10_init_93 rfl ?_
  obtain ⟨s33, gs33, h⟩ := Option.bind_eq_some_iff.mp h
  refine ax_iast dX10_init_94 gs33 ?_
  refine ax_dup dX10_init_95 trivial ?_
  refine ax_iconst (v := (2)) dX10_init_96 rfl ?_
  refine ax_iconst (v := (1)) dX10_init_97 rfl ?_
  obtain ⟨s34, gs34, h⟩ := Option.bind_eq_some_iff.mp h
  refine ax_iast dX10_init_98 gs34 ?_
  refine ax_dup dX10_init_99 trivial ?_
  refine ax_iconst (v := (3)) dX10_init_100 rfl ?_
  refine ax_iconst (v := (1)) dX10_init_101 rfl ?_
  obtain ⟨s35, gs35, h⟩ := Option.bind_eq_some_iff.mp h
  refine ax_iast dX10_init_102 gs35 ?_
  refine ax_dup dX10_init_103 trivial ?_
  refine ax_iconst (v := (4)) dX10_init_104 rfl ?_
  refine ax_iconst (v := (1)) dX10_init_105 rfl ?_
  obtain ⟨s36, gs36, h⟩ := Option.bind_eq_some_iff.mp h
  refine ax_iast dX10_init_106 gs36 ?_
  refine ax_dup dX10_init_107 trivial ?_
  refine ax_iconst (v := (5)) dX10_init_108 rfl ?_
  refine ax_iconst (v := (1)) dX10_init_109 rfl ?_
  obtain ⟨s37, gs37, h⟩ := Option.bind_eq_some_iff.mp h
  refine ax_iast dX10_init_110 gs37 ?_
  refine ax_dup dX10_init_111 trivial ?_
  refine ax_bipush (v := (6)) dX10_init_112 rfl ?_
  refine ax_iconst (v := (3)) dX10_init_114 rfl ?_
  obtain ⟨s38, gs38, h⟩ := Option.bind_eq_some_iff.mp h
  refine ax_iast dX10_init_115 gs38 ?_
  obtain ⟨s39, gs39, h⟩ := Option.bind_eq_some_iff.mp h
  refine ax_putRF (q := (RX10, TX10, 28)) (t := 7) (k := 13) dX10_init_116 rfl (by decide) wd_769 rfl rfl rfl rfl (fun w => by cases w <;> exact ⟨rfl, rfl⟩) gs39 ?_
  refine ax_aload_n (i := 0) dX10_init_119 rfl rfl ?_
  refine ax_bipush (v := (7)) dX10_init_120 rfl ?_
  refine ax_newA (t := 9) (n := 7) (bc := 7) (bs := 332) dX10_init_122 (by decide) rfl wd_119 (by decide) (by decide) (by decide) ?_
  refine ax_bdS h (fun s40 h => ?_)
  refine ax_bdR h (fun r41 h => ?_)
  refine ax_dup dX10_init_124 trivial ?_
  refine ax_iconst (v := (0)) dX10_init_125 rfl ?_
  refine ax_iconst (v := (1)) dX10_init_126 rfl ?_
  obtain ⟨s42, gs42, h⟩ := Option.bind_eq_some_iff.mp h
  refine ax_iast dX10_init_127 gs42 ?_
  refine ax_dup dX10_init_128 trivial ?_
  refine ax_iconst (v := (1)) dX10_init_129 rfl ?_
  refine ax_iconst (v := (3)) dX10_init_130 rfl ?_
  obtain ⟨s43, gs43, h⟩ := Option.bind_eq_some_iff.mp h
  refine ax_iast dX10_init_131 gs43 ?_
  refine ax_dup dX10_init_132 trivial ?_
  refine ax_iconst (v := (2)) dX10_init_133 rfl ?_
  refine ax_iconst (v := (3)) dX10_init_134 rfl ?_
  obtain ⟨s44, gs44, h⟩ := Option.bind_eq_some_iff.mp h
  refine ax_iast dX10_init_135 gs44 ?_
  refine ax_dup dX10_init_136 trivial ?_
  refine ax_iconst (v := (3)) dX10_init_137 rfl ?_
  refine ax_iconst (v := (0)) dX10_init_138 rfl ?_
  obtain ⟨s45, gs45, h⟩ := Option.bind_eq_some_iff.mp h
  refine ax_iast dX10_init_139 gs45 ?_
  refine ax_dup dX10_init_140 trivial ?_
  refine ax_iconst (v := (4)) dX10_init_141 rfl ?_
  refine ax_iconst (v := (1)) dX10_init_142 rfl ?_
  obtain ⟨s46, gs46, h⟩ := Option.bind_eq_some_iff.mp h
  refine ax_iast dX10_init_143 gs46 ?_
  refine ax_dup dX10_init_144 trivial ?_
  refine ax_iconst (v := (5)) dX10_init_145 rfl ?_
  refine ax_iconst (v := (4)) dX10_init_146 rfl ?_
  obtain ⟨s47, gs47, h⟩ := Option.bind_eq_some_iff.mp h
  refine ax_iast dX10_init_147 gs47 ?_
  refine ax_dup dX10_init_148 trivial ?_
  refine ax_bipush (v := (6)) dX10_init_149 rfl ?_
  refine ax_iconst (v := (0)) dX10_init_151 rfl ?_
  obtain ⟨s48, gs48, h⟩ := Option.bind_eq_some_iff.mp h
  refine ax_iast dX10_init_152 gs48 ?_
  obtain ⟨s49, gs49, h⟩ := Option.bind_eq_some_iff.mp h
  refine ax_putRF (q := (RX10, TX10, 28)) (t := 7) (k := 14) dX10_init_153 rfl (by decide) wd_770 rfl rfl rfl rfl (fun w => by cases w <;> exact ⟨rfl, rfl⟩) gs49 ?_
  refine ax_aload_n (i := 0) dX10_init_156 rfl rfl ?_
  refine ax_bipush (v := (12)) dX10_init_157 rfl ?_
  refine ax_newA (t := 9) (n := 12) (bc := 6) (bs := 320) dX10_init_159 (by decide) rfl wd_119 (by decide) (by decide) (by decide) ?_
  refine ax_bdS h (fun s50 h => ?_)
  refine ax_bdR h (fun r51 h => ?_)
  obtain ⟨s52, gs52, h⟩ := Option.bind_eq_some_iff.mp h
  refine ax_putRF (q := (RX10, TX10, 28)) (t := 7) (k := 15) dX10_init_161 rfl (by decide) wd_771 rfl rfl rfl rfl (fun w => by cases w <;> exact ⟨rfl, rfl⟩) gs52 ?_
  refine ax_aload_n (i := 0) dX10_init_164 rfl rfl ?_
  refine ax_bipush (v := (13)) dX10_init_165 rfl ?_
  refine ax_newA (t := 9) (n := 13) (bc := 5) (bs := 307) dX10_init_167 (by decide) rfl wd_119 (by decide) (by decide) (by decide) ?_
  refine ax_bdS h (fun s53 h => ?_)
  refine ax_bdR h (fun r54 h => ?_)
  obtain ⟨s55, gs55, h⟩ := Option.bind_eq_some_iff.mp h
  refine ax_putRF (q := (RX10, TX10, 28)) (t := 7) (k := 16) dX10_init_169 rfl (by decide) wd_772 rfl rfl rfl rfl (fun w => by cases w <;> exact ⟨rfl, rfl⟩) gs55 ?_
  refine ax_aload_n (i := 0) dX10_init_172 rfl rfl ?_
  refine ax_bipush (v := (13)) dX10_init_173 rfl ?_
  refine ax_newA (t := 9) (n := 13) (bc := 4) (bs := 294) dX10_init_175 (by decide) rfl wd_119 (by decide) (by decide) (by decide) ?_
  refine ax_bdS h (fun s56 h => ?_)
  refine ax_bdR h (fun r57 h => ?_)
  obtain ⟨s58, gs58, h⟩ := Option.bind_eq_some_iff.mp h
  refine ax_putRF (q := (RX10, TX10, 28)) (t := 7) (k := 17) dX10_init_177 rfl (by decide) wd_773 rfl rfl rfl rfl (fun w => by cases w <;> exact ⟨rfl, rfl⟩) gs58 ?_
  refine ax_aload_n (i := 0) dX10_init_180 rfl rfl ?_
  refine ax_bipush (v := (7)) dX10_init_181 rfl ?_
  refine ax_newA (t := 9) (n := 7) (bc := 3) (bs := 287) dX10_init_183 (by decide) rfl wd_119 (by decide) (by decide) (by decide) ?_
  refine ax_bdS h (fun s59 h => ?_)
  refine ax_bdR h (fun r60 h => ?_)
  obtain ⟨s61, gs61, h⟩ := Option.bind_eq_some_iff.mp h
  refine ax_putRF (q := (RX10, TX10, 28)) (t := 7) (k := 22) dX10_init_185 rfl (by decide) wd_778 rfl rfl rfl rfl (fun w => by cases w <;> exact ⟨rfl, rfl⟩) gs61 ?_
  refine ax_aload_n (i := 0) dX10_init_188 rfl rfl ?_
  refine ax_bipush (v := (7)) dX10_init_189 rfl ?_
  refine ax_newA (t := 9) (n := 7) (bc := 2) (bs := 280) dX10_init_191 (by decide) rfl wd_119 (by decide) (by decide) (by decide) ?_
  refine ax_bdS h (fun s62 h => ?_)
  refine ax_bdR h (fun r63 h => ?_)
  obtain ⟨s64, gs64, h⟩ := Option.bind_eq_some_iff.mp h
  refine ax_putRF (q := (RX10, TX10, 28)) (t := 7) (k := 23) dX10_init_193 rfl (by decide) wd_779 rfl rfl rfl rfl (fun w => by cases w <;> exact ⟨rfl, rfl⟩) gs64 ?_
  refine ax_aload_n (i := 0) dX10_init_196 rfl rfl ?_
  refine ax_sipush (v := (240)) dX10_init_197 rfl ?_
  refine ax_newA (t := 9) (n := 240) (bc := 1) (bs := 40) dX10_init_200 (by decide) rfl wd_119 (by decide) (by decide) (by decide) ?_
  refine ax_bdS h (fun s65 h => ?_)
  refine ax_bdR h (fun r66 h => ?_)
  obtain ⟨s67, gs67, h⟩ := Option.bind_eq_some_iff.mp h
  refine ax_putRF (q := (RX10, TX10, 28)) (t := 7) (k := 24) dX10_init_202 rfl (by decide) wd_780 rfl rfl rfl rfl (fun w => by cases w <;> exact ⟨rfl, rfl⟩) gs67 ?_
  refine ax_aload_n (i := 0) dX10_init_205 rfl rfl ?_
  refine ax_bipush (v := (40)) dX10_init_206 rfl ?_
  refine ax_newA (t := 9) (n := 40) (bc := 0) (bs := 0) dX10_init_208 (by decide) rfl wd_119 (by decide) (by decide) (by decide) ?_
  refine ax_bdS h (fun s68 h => ?_)
  refine ax_bdR h (fun r69 h => ?_)
  obtain ⟨s70, gs70, h⟩ := Option.bind_eq_some_iff.mp h
  refine ax_putRF (q := (RX10, TX10, 28)) (t := 7) (k := 26) dX10_init_210 rfl (by decide) wd_782 rfl rfl rfl rfl (fun w => by cases w <;> exact ⟨rfl, rfl⟩) gs70 ?_
  exact ax_retv dX10_init_213 h
set_option maxRecDepth 100000 in
set_option maxHeartbeats 4000000 in
theorem th_X10_init {q : ax_S} {a0 : Option Nat} {s : ax_S} (h : fn_X10_init a0 s = some q) : AC mm_X10_init yX10_init 1 18 5548 [av_r a0] s (none, q) := by
  exact ax_met (L0 := [some (av_r a0)]) (by decide +kernel) rfl (fun _ => rfl) ⟨rfl, trivial⟩ (Nat.le_of_ble_eq_true rfl) trivial (tw_X10_init h)
/-! X10_low -/
abbrev mm_X10_low : ax_M := (RX10, cX10_low, (some .int), 1, false)
def fn_X10_low (a0 : Int32) (s : ax_S) : Option (Int32 × ax_S) :=
  if a0 = (2) then
    some ((-255), s)
  else
    some ((0), s)
set_option maxRecDepth 100000 in
set_option maxHeartbeats 4000000 in
theorem tw_X10_low {q : Int32 × ax_S} {a0 : Int32} {s : ax_S} (h : fn_X10_low a0 s = some q) : AW mm_X10_low 0 0 0 0 [some (av_i a0)] [] s (some (av_i q.1), q.2) := by
  unfold fn_X10_low at h
  refine ax_iload_n (i := 0) dX10_low_0 rfl rfl ?_
  refine ax_iconst (v := (2)) dX10_low_1 rfl ?_
  refine ax_icmp_ne (tgt := 11) dX10_low_2 (by decide) (fun c1 => ?_) (fun c1 => ?_)
  · rw [if_neg c1] at h
    refine ax_iconst (v := (0)) dX10_low_11 rfl ?_
    exact ax_reti dX10_low_12 h
  · rw [if_pos c1] at h
    refine ax_sipush (v := (-255)) dX10_low_5 rfl ?_
    refine ax_goto (tgt := 12) dX10_low_8 (by decide) ?_
    exact ax_reti dX10_low_12 h
set_option maxRecDepth 100000 in
set_option maxHeartbeats 4000000 in
theorem th_X10_low {q : Int32 × ax_S} {a0 : Int32} {s : ax_S} (h : fn_X10_low a0 s = some q) : AC mm_X10_low yX10_low 0 0 0 [av_i a0] s (some (av_i q.1), q.2) := by
  exact ax_met (L0 := [some (av_i a0)]) (by decide +kernel) rfl (fun h => absurd h (by decide)) ⟨rfl, trivial⟩ (Nat.le_of_ble_eq_true rfl) trivial (tw_X10_low h)
/-! X10_set -/
abbrev mm_X10_set : ax_M := (RX10, cX10_set, (some .int), 4, false)
def fn_X10_set (a0 : Option Nat) (a1 : Int32) (a2 : Int32) (a3 : Int32) (s : ax_S) : Option (Int32 × ax_S) :=
  (ax_sh s 7 a0).bind fun w1 =>
  (fn_X10_isParameter a0 a1 a2 s).bind fun q2 =>
  if q2.1 = 0 then
    some ((-1001), q2.2)
  else
    (ax_sh q2.2 7 a0).bind fun w4 =>
    (fn_X10_kind a0 a1 q2.2).bind fun q5 =>
    (fn_X10_low q5.1 q5.2).bind fun q6 =>
    (ax_sh q6.2 7 a0).bind fun w7 =>
    (fn_X10_kind a0 a1 q6.2).bind fun q8 =>
    (fn_X10_high q8.1 a2 q8.2).bind fun q9 =>
    (fn_X10_in a3 q6.1 q9.1 q9.2).bind fun q10 =>
    if q10.1 = 0 then
      some ((-1002), q10.2)
    else
      (ax_gr q10.2 7 0 a0).bind fun r12 =>
      (fn_X10_at a1 ((6) + a2) q10.2).bind fun q13 =>
      (ax_as q13.2 9 r12 q13.1 a3).bind fun s14 =>
      (ax_gr s14 7 0 a0).bind fun r15 =>
      (fn_X10_at a1 (1) s14).bind fun q16 =>
      (ax_al q16.2 9 r15 q16.1).bind fun x17 =>
      (ax_gr q16.2 7 0 a0).bind fun r18 =>
      (fn_X10_at a1 (2) q16.2).bind fun q19 =>
      (ax_al q19.2 9 r18 q19.1).bind fun x20 =>
      (ax_sh q19.2 7 a0).bind fun w21 =>
      (fn_X10_voids a0 a1 x17 x20 (1) (0) q19.2).bind fun q22 =>
      some (q22.1, q22.2)
set_option maxRecDepth 100000 in
set_option maxHeartbeats 4000000 in
theorem tw_X10_set {q : Int32 × ax_S} {a0 : Option Nat} {a1 : Int32} {a2 : Int32} {a3 : Int32} {s : ax_S} (h : fn_X10_set a0 a1 a2 a3 s = some q) : AW mm_X10_set 3 0 0 0 [some (av_r a0), some (av_i a1), some (av_i a2), some (av_i a3)] [] s (some (av_i q.1), q.2) := by
  unfold fn_X10_set at h
  refine ax_aload_n (i := 0) dX10_set_0 rfl rfl ?_
  refine ax_iload_n (i := 1) dX10_set_1 rfl rfl ?_
  refine ax_iload_n (i := 2) dX10_set_2 rfl rfl ?_
  obtain ⟨w1, gw1, h⟩ := Option.bind_eq_some_iff.mp h
  obtain ⟨q2, gq2, h⟩ := Option.bind_eq_some_iff.mp h
  refine ax_cV (As := [av_i a1, av_i a2]) (t := 7) dX10_set_3 gw1 (th_X10_isParameter gq2) rfl (And.intro wd_897 wd_59) wd_894 wd_896 wd_23 cy_X10_isParameter (by omega) (by decide) (Nat.le_of_ble_eq_true rfl) rfl ?_
  refine ax_if_ne (tgt := 13) dX10_set_6 (by decide) (fun c3 => ?_) (fun c3 => ?_)
  · rw [if_neg c3] at h
    refine ax_iload_n (i := 3) dX10_set_13 rfl rfl ?_
    refine ax_aload_n (i := 0) dX10_set_14 rfl rfl ?_
    refine ax_iload_n (i := 1) dX10_set_15 rfl rfl ?_
    obtain ⟨w4, gw4, h⟩ := Option.bind_eq_some_iff.mp h
    obtain ⟨q5, gq5, h⟩ := Option.bind_eq_some_iff.mp h
    refine ax_cV (As := [av_i a1]) (t := 7) dX10_set_16 gw4 (th_X10_kind gq5) rfl (And.intro wd_877 wd_59) wd_874 wd_876 wd_19 cy_X10_kind (by omega) (by decide) (Nat.le_of_ble_eq_true rfl) rfl ?_
    obtain ⟨q6, gq6, h⟩ := Option.bind_eq_some_iff.mp h
    refine ax_cS (As := [av_i q5.1]) dX10_set_19 (th_X10_low gq6) (And.intro wd_900 wd_59) wd_898 wd_899 cy_X10_low (by omega) (by decide) (Nat.le_of_ble_eq_true rfl) rfl ?_
    refine ax_aload_n (i := 0) dX10_set_22 rfl rfl ?_
    refine ax_iload_n (i := 1) dX10_set_23 rfl rfl ?_
    obtain ⟨w7, gw7, h⟩ := Option.bind_eq_some_iff.mp h
    obtain ⟨q8, gq8, h⟩ := Option.bind_eq_some_iff.mp h
    refine ax_cV (As := [av_i a1]) (t := 7) dX10_set_24 gw7 (th_X10_kind gq8) rfl (And.intro wd_877 wd_59) wd_874 wd_876 wd_19 cy_X10_kind (by omega) (by decide) (Nat.le_of_ble_eq_true rfl) rfl ?_
    refine ax_iload_n (i := 2) dX10_set_27 rfl rfl ?_
    obtain ⟨q9, gq9, h⟩ := Option.bind_eq_some_iff.mp h
    refine ax_cS (As := [av_i q8.1, av_i a2]) dX10_set_28 (th_X10_high gq9) (And.intro wd_903 wd_59) wd_901 wd_902 cy_X10_high (by omega) (by decide) (Nat.le_of_ble_eq_true rfl) rfl ?_
    obtain ⟨q10, gq10, h⟩ := Option.bind_eq_some_iff.mp h
    refine ax_cS (As := [av_i a3, av_i q6.1, av_i q9.1]) dX10_set_31 (th_X10_in gq10) (And.intro wd_851 wd_59) wd_849 wd_850 cy_X10_in (by omega) (by decide) (Nat.le_of_ble_eq_true rfl) rfl ?_
    refine ax_if_ne (tgt := 41) dX10_set_34 (by decide) (fun c11 => ?_) (fun c11 => ?_)
    · rw [if_neg c11] at h
      refine ax_aload_n (i := 0) dX10_set_41 rfl rfl ?_
      obtain ⟨r12, gr12, h⟩ := Option.bind_eq_some_iff.mp h
      refine ax_getR (q := (RX10, TX10, 28)) (t := 7) (k := 0) dX10_set_42 rfl (by decide) wd_756 rfl gr12 ?_
      refine ax_iload_n (i := 1) dX10_set_45 rfl rfl ?_
      refine ax_bipush (v := (6)) dX10_set_46 rfl ?_
      refine ax_iload_n (i := 2) dX10_set_48 rfl rfl ?_
      refine ax_iadd dX10_set_49 ?_
      obtain ⟨q13, gq13, h⟩ := Option.bind_eq_some_iff.mp h
      refine ax_cS (As := [av_i a1, av_i ((6) + a2)]) dX10_set_50 (th_X10_at gq13) (And.intro wd_858 wd_59) wd_856 wd_857 cy_X10_at (by omega) (by decide) (Nat.le_of_ble_eq_true rfl) rfl ?_
      refine ax_iload_n (i := 3) dX10_set_53 rfl rfl ?_
      obtain ⟨s14, gs14, h⟩ := Option.bind_eq_some_iff.mp h
      refine ax_iast dX10_set_54 gs14 ?_
      refine ax_aload_n (i := 0) dX10_set_55 rfl rfl ?_
      refine ax_iload_n (i := 1) dX10_set_56 rfl rfl ?_
      refine ax_aload_n (i := 0) dX10_set_57 rfl rfl ?_
      obtain ⟨r15, gr15, h⟩ := Option.bind_eq_some_iff.mp h
      refine ax_getR (q := (RX10, TX10, 28)) (t := 7) (k := 0) dX10_set_58 rfl (by decide) wd_756 rfl gr15 ?_
      refine ax_iload_n (i := 1) dX10_set_61 rfl rfl ?_
      refine ax_iconst (v := (1)) dX10_set_62 rfl ?_
      obtain ⟨q16, gq16, h⟩ := Option.bind_eq_some_iff.mp h
      refine ax_cS (As := [av_i a1, av_i (1)]) dX10_set_63 (th_X10_at gq16) (And.intro wd_858 wd_59) wd_856 wd_857 cy_X10_at (by omega) (by decide) (Nat.le_of_ble_eq_true rfl) rfl ?_
      obtain ⟨x17, gx17, h⟩ := Option.bind_eq_some_iff.mp h
      refine ax_iald dX10_set_66 gx17 ?_
      refine ax_aload_n (i := 0) dX10_set_67 rfl rfl ?_
      obtain ⟨r18, gr18, h⟩ := Option.bind_eq_some_iff.mp h
      refine ax_getR (q := (RX10, TX10, 28)) (t := 7) (k := 0) dX10_set_68 rfl (by decide) wd_756 rfl gr18 ?_
      refine ax_iload_n (i := 1) dX10_set_71 rfl rfl ?_
      refine ax_iconst (v := (2)) dX10_set_72 rfl ?_
      obtain ⟨q19, gq19, h⟩ := Option.bind_eq_some_iff.mp h
      refine ax_cS (As := [av_i a1, av_i (2)]) dX10_set_73 (th_X10_at gq19) (And.intro wd_858 wd_59) wd_856 wd_857 cy_X10_at (by omega) (by decide) (Nat.le_of_ble_eq_true rfl) rfl ?_
      obtain ⟨x20, gx20, h⟩ := Option.bind_eq_some_iff.mp h
      refine ax_iald dX10_set_76 gx20 ?_
      refine ax_iconst (v := (1)) dX10_set_77 rfl ?_
      refine ax_iconst (v := (0)) dX10_set_78 rfl ?_
      obtain ⟨w21, gw21, h⟩ := Option.bind_eq_some_iff.mp h
      obtain ⟨q22, gq22, h⟩ := Option.bind_eq_some_iff.mp h
      refine ax_cV (As := [av_i a1, av_i x17, av_i x20, av_i (1), av_i (0)]) (t := 7) dX10_set_79 gw21 (th_X10_voids gq22) rfl (And.intro wd_885 wd_59) wd_882 wd_884 wd_21 cy_X10_voids (by omega) (by decide) (Nat.le_of_ble_eq_true rfl) rfl ?_
      exact ax_reti dX10_set_82 h
    · rw [if_pos c11] at h
      refine ax_sipush (v := (-1002)) dX10_set_37 rfl ?_
      exact ax_reti dX10_set_40 h
  · rw [if_pos c3] at h
    refine ax_sipush (v := (-1001)) dX10_set_9 rfl ?_
    exact ax_reti dX10_set_12 h
set_option maxRecDepth 100000 in
set_option maxHeartbeats 4000000 in
theorem th_X10_set {q : Int32 × ax_S} {a0 : Option Nat} {a1 : Int32} {a2 : Int32} {a3 : Int32} {s : ax_S} (h : fn_X10_set a0 a1 a2 a3 s = some q) : AC mm_X10_set yX10_set 3 0 0 [av_r a0, av_i a1, av_i a2, av_i a3] s (some (av_i q.1), q.2) := by
  exact ax_met (L0 := [some (av_r a0), some (av_i a1), some (av_i a2), some (av_i a3)]) (by decide +kernel) rfl (fun h => absurd h (by decide)) ⟨rfl, rfl, rfl, rfl, trivial⟩ (Nat.le_of_ble_eq_true rfl) trivial (tw_X10_set h)
/-! X10_save -/
abbrev mm_X10_save : ax_M := (RX10, cX10_save, (some .int), 3, false)
def fb_X10_save_15 : Nat → Option Nat → Int32 → Int32 → ax_S → Option (Int32 × ax_S)
  | 0, _, _, _, _ => none
  | n + 1, a0, a1, a2, s =>
    if (121) ≤ a2 then
      (ax_gr s 7 2 a0).bind fun r2 =>
      (ax_as s 10 r2 a1 (1)).bind fun s3 =>
      (ax_gr s3 7 0 a0).bind fun r4 =>
      (ax_al s3 9 r4 (0)).bind fun x5 =>
      some (x5, s3)
    else
      (ax_gr s 7 1 a0).bind fun r6 =>
      (ax_gr s 7 0 a0).bind fun r7 =>
      (ax_al s 9 r7 a2).bind fun x8 =>
      (ax_as s 9 r6 (((121) * a1) + a2) x8).bind fun s9 =>
      (fb_X10_save_15 n) a0 a1 (a2 + (1)) s9
set_option maxRecDepth 100000 in
set_option maxHeartbeats 4000000 in
theorem tb_X10_save_15 {q : Int32 × ax_S} : ∀ (n : Nat) (a0 : Option Nat) (a1 : Int32) (a2 : Int32) (s : ax_S) (h : fb_X10_save_15 n a0 a1 a2 s = some q), AW mm_X10_save 1 0 0 15 [(some (av_r a0)), (some (av_i a1)), (some (av_i a2))] [] s (some (av_i q.1), q.2) := by
  intro n
  induction n with
  | zero =>
    intro a0 a1 a2 s h
    exact ax_no h
  | succ n ih =>
    intro a0 a1 a2 s h
    unfold fb_X10_save_15 at h
    refine ax_iload_n (i := 2) dX10_save_15 rfl rfl ?_
    refine ax_bipush (v := (121)) dX10_save_16 rfl ?_
    refine ax_icmp_ge (tgt := 44) dX10_save_18 (by decide) (fun c1 => ?_) (fun c1 => ?_)
    · rw [if_pos c1] at h
      refine ax_aload_n (i := 0) dX10_save_44 rfl rfl ?_
      obtain ⟨r2, gr2, h⟩ := Option.bind_eq_some_iff.mp h
      refine ax_getR (q := (RX10, TX10, 28)) (t := 7) (k := 2) dX10_save_45 rfl (by decide) wd_758 rfl gr2 ?_
      refine ax_iload_n (i := 1) dX10_save_48 rfl rfl ?_
      refine ax_iconst (v := (1)) dX10_save_49 rfl ?_
      obtain ⟨s3, gs3, h⟩ := Option.bind_eq_some_iff.mp h
      refine ax_zast dX10_save_50 rfl gs3 ?_
      refine ax_aload_n (i := 0) dX10_save_51 rfl rfl ?_
      obtain ⟨r4, gr4, h⟩ := Option.bind_eq_some_iff.mp h
      refine ax_getR (q := (RX10, TX10, 28)) (t := 7) (k := 0) dX10_save_52 rfl (by decide) wd_756 rfl gr4 ?_
      refine ax_iconst (v := (0)) dX10_save_55 rfl ?_
      obtain ⟨x5, gx5, h⟩ := Option.bind_eq_some_iff.mp h
      refine ax_iald dX10_save_56 gx5 ?_
      exact ax_reti dX10_save_57 h
    · rw [if_neg c1] at h
      refine ax_aload_n (i := 0) dX10_save_21 rfl rfl ?_
      obtain ⟨r6, gr6, h⟩ := Option.bind_eq_some_iff.mp h
      refine ax_getR (q := (RX10, TX10, 28)) (t := 7) (k := 1) dX10_save_22 rfl (by decide) wd_757 rfl gr6 ?_
      refine ax_bipush (v := (121)) dX10_save_25 rfl ?_
      refine ax_iload_n (i := 1) dX10_save_27 rfl rfl ?_
      refine ax_imul dX10_save_28 ?_
      refine ax_iload_n (i := 2) dX10_save_29 rfl rfl ?_
      refine ax_iadd dX10_save_30 ?_
      refine ax_aload_n (i := 0) dX10_save_31 rfl rfl ?_
      obtain ⟨r7, gr7, h⟩ := Option.bind_eq_some_iff.mp h
      refine ax_getR (q := (RX10, TX10, 28)) (t := 7) (k := 0) dX10_save_32 rfl (by decide) wd_756 rfl gr7 ?_
      refine ax_iload_n (i := 2) dX10_save_35 rfl rfl ?_
      obtain ⟨x8, gx8, h⟩ := Option.bind_eq_some_iff.mp h
      refine ax_iald dX10_save_36 gx8 ?_
      obtain ⟨s9, gs9, h⟩ := Option.bind_eq_some_iff.mp h
      refine ax_iast dX10_save_37 gs9 ?_
      refine ax_iinc (i := 2) (v := (a2 + (1))) (L2 := [some (av_r a0), some (av_i a1), some (av_i (a2 + (1)))]) dX10_save_38 rfl rfl (by decide) rfl rfl ?_
      refine ax_goto (tgt := 15) dX10_save_41 (by decide) ?_
      exact ax_less (L' := [(some (av_r a0)), (some (av_i a1)), (some (av_i (a2 + (1))))]) ⟨rfl, rfl, rfl, trivial⟩ (ih _ _ _ _ h)
def fn_X10_save (a0 : Option Nat) (a1 : Int32) (s : ax_S) : Option (Int32 × ax_S) :=
  (fn_X10_in a1 (0) (1) s).bind fun q10 =>
  if q10.1 = 0 then
    some ((-1001), q10.2)
  else
    fb_X10_save_15 10000 a0 a1 (0) q10.2
set_option maxRecDepth 100000 in
set_option maxHeartbeats 4000000 in
theorem tw_X10_save {q : Int32 × ax_S} {a0 : Option Nat} {a1 : Int32} {s : ax_S} (h : fn_X10_save a0 a1 s = some q) : AW mm_X10_save 1 0 0 0 [some (av_r a0), some (av_i a1), none] [] s (some (av_i q.1), q.2) := by
  unfold fn_X10_save at h
  refine ax_iload_n (i := 1) dX10_save_0 rfl rfl ?_
  refine ax_iconst (v := (0)) dX10_save_1 rfl ?_
  refine ax_iconst (v := (1)) dX10_save_2 rfl ?_
  obtain ⟨q10, gq10, h⟩ := Option.bind_eq_some_iff.mp h
  refine ax_cS (As := [av_i a1, av_i (0), av_i (1)]) dX10_save_3 (th_X10_in gq10) (And.intro wd_851 wd_59) wd_849 wd_850 cy_X10_in (by omega) (by decide) (Nat.le_of_ble_eq_true rfl) rfl ?_
  refine ax_if_ne (tgt := 13) dX10_save_6 (by decide) (fun c11 => ?_) (fun c11 => ?_)
  · rw [if_neg c11] at h
    refine ax_iconst (v := (0)) dX10_save_13 rfl ?_
    refine ax_istore_n (i := 2) (L2 := [some (av_r a0), some (av_i a1), some (av_i (0))]) dX10_save_14 rfl (by decide) rfl rfl ?_
    exact ax_less (L' := [(some (av_r a0)), (some (av_i a1)), (some (av_i (0)))]) ⟨rfl, rfl, rfl, trivial⟩ (tb_X10_save_15  _ _ _ _ _ h)
  · rw [if_pos c11] at h
    refine ax_sipush (v := (-1001)) dX10_save_9 rfl ?_
    exact ax_reti dX10_save_12 h
set_option maxRecDepth 100000 in
set_option maxHeartbeats 4000000 in
theorem th_X10_save {q : Int32 × ax_S} {a0 : Option Nat} {a1 : Int32} {s : ax_S} (h : fn_X10_save a0 a1 s = some q) : AC mm_X10_save yX10_save 1 0 0 [av_r a0, av_i a1] s (some (av_i q.1), q.2) := by
  exact ax_met (L0 := [some (av_r a0), some (av_i a1), none]) (by decide +kernel) rfl (fun h => absurd h (by decide)) ⟨rfl, rfl, trivial⟩ (Nat.le_of_ble_eq_true rfl) trivial (tw_X10_save h)
/-! X10_append -/
abbrev mm_X10_append : ax_M := (RX10, cX10_append, (some .int), 2, false)
def fn_X10_append (a0 : Option Nat) (a1 : Int32) (s : ax_S) : Option (Int32 × ax_S) :=
  (fn_X10_in a1 (0) (127) s).bind fun q1 =>
  if q1.1 = 0 then
    some ((-1002), q1.2)
  else
    (ax_gi q1.2 7 12 a0).bind fun x3 =>
    if x3 = (80) then
      some ((-1004), q1.2)
    else
      (ax_gr q1.2 7 11 a0).bind fun r5 =>
      (ax_gi q1.2 7 12 a0).bind fun x6 =>
      (ax_as q1.2 9 r5 x6 a1).bind fun s7 =>
      (ax_gi s7 7 12 a0).bind fun x8 =>
      (ax_pi s7 7 12 a0 (x8 + (1))).bind fun s9 =>
      (ax_gi s9 7 12 a0).bind fun x10 =>
      some (x10, s9)
set_option maxRecDepth 100000 in
set_option maxHeartbeats 4000000 in
theorem tw_X10_append {q : Int32 × ax_S} {a0 : Option Nat} {a1 : Int32} {s : ax_S} (h : fn_X10_append a0 a1 s = some q) : AW mm_X10_append 1 0 0 0 [some (av_r a0), some (av_i a1)] [] s (some (av_i q.1), q.2) := by
  unfold fn_X10_append at h
  refine ax_iload_n (i := 1) dX10_append_0 rfl rfl ?_
  refine ax_iconst (v := (0)) dX10_append_1 rfl ?_
  refine ax_bipush (v := (127)) dX10_append_2 rfl ?_
  obtain ⟨q1, gq1, h⟩ := Option.bind_eq_some_iff.mp h
  refine ax_cS (As := [av_i a1, av_i (0), av_i (127)]) dX10_append_4 (th_X10_in gq1) (And.intro wd_851 wd_59) wd_849 wd_850 cy_X10_in (by omega) (by decide) (Nat.le_of_ble_eq_true rfl) rfl ?_
  refine ax_if_ne (tgt := 14) dX10_append_7 (by decide) (fun c2 => ?_) (fun c2 => ?_)
  · rw [if_neg c2] at h
    refine ax_aload_n (i := 0) dX10_append_14 rfl rfl ?_
    obtain ⟨x3, gx3, h⟩ := Option.bind_eq_some_iff.mp h
    refine ax_getI (q := (RX10, TX10, 28)) (t := 7) (k := 12) dX10_append_15 rfl (by decide) wd_768 rfl gx3 ?_
    refine ax_bipush (v := (80)) dX10_append_18 rfl ?_
    refine ax_icmp_ne (tgt := 27) dX10_append_20 (by decide) (fun c4 => ?_) (fun c4 => ?_)
    · rw [if_neg c4] at h
      refine ax_aload_n (i := 0) dX10_append_27 rfl rfl ?_
      obtain ⟨r5, gr5, h⟩ := Option.bind_eq_some_iff.mp h
      refine ax_getR (q := (RX10, TX10, 28)) (t := 7) (k := 11) dX10_append_28 rfl (by decide) wd_767 rfl gr5 ?_
      refine ax_aload_n (i := 0) dX10_append_31 rfl rfl ?_
      obtain ⟨x6, gx6, h⟩ := Option.bind_eq_some_iff.mp h
      refine ax_getI (q := (RX10, TX10, 28)) (t := 7) (k := 12) dX10_append_32 rfl (by decide) wd_768 rfl gx6 ?_
      refine ax_iload_n (i := 1) dX10_append_35 rfl rfl ?_
      obtain ⟨s7, gs7, h⟩ := Option.bind_eq_some_iff.mp h
      refine ax_iast dX10_append_36 gs7 ?_
      refine ax_aload_n (i := 0) dX10_append_37 rfl rfl ?_
      refine ax_dup dX10_append_38 trivial ?_
      obtain ⟨x8, gx8, h⟩ := Option.bind_eq_some_iff.mp h
      refine ax_getI (q := (RX10, TX10, 28)) (t := 7) (k := 12) dX10_append_39 rfl (by decide) wd_768 rfl gx8 ?_
      refine ax_iconst (v := (1)) dX10_append_42 rfl ?_
      refine ax_iadd dX10_append_43 ?_
      obtain ⟨s9, gs9, h⟩ := Option.bind_eq_some_iff.mp h
      refine ax_putI (q := (RX10, TX10, 28)) (t := 7) (k := 12) dX10_append_44 rfl (by decide) wd_768 rfl rfl ⟨rfl, rfl⟩ gs9 ?_
      refine ax_aload_n (i := 0) dX10_append_47 rfl rfl ?_
      obtain ⟨x10, gx10, h⟩ := Option.bind_eq_some_iff.mp h
      refine ax_getI (q := (RX10, TX10, 28)) (t := 7) (k := 12) dX10_append_48 rfl (by decide) wd_768 rfl gx10 ?_
      exact ax_reti dX10_append_51 h
    · rw [if_pos c4] at h
      refine ax_sipush (v := (-1004)) dX10_append_23 rfl ?_
      exact ax_reti dX10_append_26 h
  · rw [if_pos c2] at h
    refine ax_sipush (v := (-1002)) dX10_append_10 rfl ?_
    exact ax_reti dX10_append_13 h
set_option maxRecDepth 100000 in
set_option maxHeartbeats 4000000 in
theorem th_X10_append {q : Int32 × ax_S} {a0 : Option Nat} {a1 : Int32} {s : ax_S} (h : fn_X10_append a0 a1 s = some q) : AC mm_X10_append yX10_append 1 0 0 [av_r a0, av_i a1] s (some (av_i q.1), q.2) := by
  exact ax_met (L0 := [some (av_r a0), some (av_i a1)]) (by decide +kernel) rfl (fun h => absurd h (by decide)) ⟨rfl, rfl, trivial⟩ (Nat.le_of_ble_eq_true rfl) trivial (tw_X10_append h)
/-! X10_setRange -/
abbrev mm_X10_setRange : ax_M := (RX10, cX10_setRange, (some .int), 6, false)
def fn_X10_setRange (a0 : Option Nat) (a1 : Int32) (a2 : Int32) (a3 : Int32) (s : ax_S) : Option (Int32 × ax_S) :=
  (ax_sh s 7 a0).bind fun w1 =>
  (fn_X10_isNode a0 a1 s).bind fun q2 =>
  if q2.1 = 0 then
    some ((-1001), q2.2)
  else
    (fn_X10_in a2 (0) (99) q2.2).bind fun q4 =>
    if q4.1 = 0 then
      some ((-1002), q4.2)
    else
      (fn_X10_in a3 a2 (99) q4.2).bind fun q6 =>
      if q6.1 = 0 then
        some ((-1002), q6.2)
      else
        (ax_gr q6.2 7 0 a0).bind fun r8 =>
        (fn_X10_at a1 (1) q6.2).bind fun q9 =>
        (ax_al q9.2 9 r8 q9.1).bind fun x10 =>
        (ax_gr q9.2 7 0 a0).bind fun r11 =>
        (fn_X10_at a1 (2) q9.2).bind fun q12 =>
        (ax_al q12.2 9 r11 q12.1).bind fun x13 =>
        (ax_gr q12.2 7 0 a0).bind fun r14 =>
        (fn_X10_at a1 (1) q12.2).bind fun q15 =>
        (ax_as q15.2 9 r14 q15.1 a2).bind fun s16 =>
        (ax_gr s16 7 0 a0).bind fun r17 =>
        (fn_X10_at a1 (2) s16).bind fun q18 =>
        (ax_as q18.2 9 r17 q18.1 a3).bind fun s19 =>
        (ax_sh s19 7 a0).bind fun w20 =>
        (fn_X10_voids a0 a1 x10 x13 a2 a3 s19).bind fun q21 =>
        (ax_sh q21.2 7 a0).bind fun w22 =>
        (fn_X10_voids a0 a1 a2 a3 x10 x13 q21.2).bind fun q23 =>
        some ((q21.1 + q23.1), q23.2)
set_option maxRecDepth 100000 in
set_option maxHeartbeats 4000000 in
theorem tw_X10_setRange {q : Int32 × ax_S} {a0 : Option Nat} {a1 : Int32} {a2 : Int32} {a3 : Int32} {s : ax_S} (h : fn_X10_setRange a0 a1 a2 a3 s = some q) : AW mm_X10_setRange 3 0 0 0 [some (av_r a0), some (av_i a1), some (av_i a2), some (av_i a3), none, none] [] s (some (av_i q.1), q.2) := by
  unfold fn_X10_setRange at h
  refine ax_aload_n (i := 0) dX10_setRange_0 rfl rfl ?_
  refine ax_iload_n (i := 1) dX10_setRange_1 rfl rfl ?_
  obtain ⟨w1, gw1, h⟩ := Option.bind_eq_some_iff.mp h
  obtain ⟨q2, gq2, h⟩ := Option.bind_eq_some_iff.mp h
  refine ax_cV (As := [av_i a1]) (t := 7) dX10_setRange_2 gw1 (th_X10_isNode gq2) rfl (And.intro wd_873 wd_59) wd_870 wd_872 wd_18 cy_X10_isNode (by omega) (by decide) (Nat.le_of_ble_eq_true rfl) rfl ?_
  refine ax_if_ne (tgt := 12) dX10_setRange_5 (by decide) (fun c3 => ?_) (fun c3 => ?_)
  · rw [if_neg c3] at h
    refine ax_iload_n (i := 2) dX10_setRange_12 rfl rfl ?_
    refine ax_iconst (v := (0)) dX10_setRange_13 rfl ?_
    refine ax_bipush (v := (99)) dX10_setRange_14 rfl ?_
    obtain ⟨q4, gq4, h⟩ := Option.bind_eq_some_iff.mp h
    refine ax_cS (As := [av_i a2, av_i (0), av_i (99)]) dX10_setRange_16 (th_X10_in gq4) (And.intro wd_851 wd_59) wd_849 wd_850 cy_X10_in (by omega) (by decide) (Nat.le_of_ble_eq_true rfl) rfl ?_
    refine ax_if_eq (tgt := 32) dX10_setRange_19 (by decide) (fun c5 => ?_) (fun c5 => ?_)
    · rw [if_pos c5] at h
      refine ax_sipush (v := (-1002)) dX10_setRange_32 rfl ?_
      exact ax_reti dX10_setRange_35 h
    · rw [if_neg c5] at h
      refine ax_iload_n (i := 3) dX10_setRange_22 rfl rfl ?_
      refine ax_iload_n (i := 2) dX10_setRange_23 rfl rfl ?_
      refine ax_bipush (v := (99)) dX10_setRange_24 rfl ?_
      obtain ⟨q6, gq6, h⟩ := Option.bind_eq_some_iff.mp h
      refine ax_cS (As := [av_i a3, av_i a2, av_i (99)]) dX10_setRange_26 (th_X10_in gq6) (And.intro wd_851 wd_59) wd_849 wd_850 cy_X10_in (by omega) (by decide) (Nat.le_of_ble_eq_true rfl) rfl ?_
      refine ax_if_ne (tgt := 36) dX10_setRange_29 (by decide) (fun c7 => ?_) (fun c7 => ?_)
      · rw [if_neg c7] at h
        refine ax_aload_n (i := 0) dX10_setRange_36 rfl rfl ?_
        obtain ⟨r8, gr8, h⟩ := Option.bind_eq_some_iff.mp h
        refine ax_getR (q := (RX10, TX10, 28)) (t := 7) (k := 0) dX10_setRange_37 rfl (by decide) wd_756 rfl gr8 ?_
        refine ax_iload_n (i := 1) dX10_setRange_40 rfl rfl ?_
        refine ax_iconst (v := (1)) dX10_setRange_41 rfl ?_
        obtain ⟨q9, gq9, h⟩ := Option.bind_eq_some_iff.mp h
        refine ax_cS (As := [av_i a1, av_i (1)]) dX10_setRange_42 (th_X10_at gq9) (And.intro wd_858 wd_59) wd_856 wd_857 cy_X10_at (by omega) (by decide) (Nat.le_of_ble_eq_true rfl) rfl ?_
        obtain ⟨x10, gx10, h⟩ := Option.bind_eq_some_iff.mp h
        refine ax_iald dX10_setRange_45 gx10 ?_
        refine ax_istore (i := 4) (L2 := [some (av_r a0), some (av_i a1), some (av_i a2), some (av_i a3), some (av_i x10), none]) dX10_setRange_46 (by decide) rfl rfl ?_
        refine ax_aload_n (i := 0) dX10_setRange_48 rfl rfl ?_
        obtain ⟨r11, gr11, h⟩ := Option.bind_eq_some_iff.mp h
        refine ax_getR (q := (RX10, TX10, 28)) (t := 7) (k := 0) dX10_setRange_49 rfl (by decide) wd_756 rfl gr11 ?_
        refine ax_iload_n (i := 1) dX10_setRange_52 rfl rfl ?_
        refine ax_iconst (v := (2)) dX10_setRange_53 rfl ?_
        obtain ⟨q12, gq12, h⟩ := Option.bind_eq_some_iff.mp h
        refine ax_cS (As := [av_i a1, av_i (2)]) dX10_setRange_54 (th_X10_at gq12) (And.intro wd_858 wd_59) wd_856 wd_857 cy_X10_at (by omega) (by decide) (Nat.le_of_ble_eq_true rfl) rfl ?_
        obtain ⟨x13, gx13, h⟩ := Option.bind_eq_some_iff.mp h
        refine ax_iald dX10_setRange_57 gx13 ?_
        refine ax_istore (i := 5) (L2 := [some (av_r a0), some (av_i a1), some (av_i a2), some (av_i a3), some (av_i x10), some (av_i x13)]) dX10_setRange_58 (by decide) rfl rfl ?_
        refine ax_aload_n (i := 0) dX10_setRange_60 rfl rfl ?_
        obtain ⟨r14, gr14, h⟩ := Option.bind_eq_some_iff.mp h
        refine ax_getR (q := (RX10, TX10, 28)) (t := 7) (k := 0) dX10_setRange_61 rfl (by decide) wd_756 rfl gr14 ?_
        refine ax_iload_n (i := 1) dX10_setRange_64 rfl rfl ?_
        refine ax_iconst (v := (1)) dX10_setRange_65 rfl ?_
        obtain ⟨q15, gq15, h⟩ := Option.bind_eq_some_iff.mp h
        refine ax_cS (As := [av_i a1, av_i (1)]) dX10_setRange_66 (th_X10_at gq15) (And.intro wd_858 wd_59) wd_856 wd_857 cy_X10_at (by omega) (by decide) (Nat.le_of_ble_eq_true rfl) rfl ?_
        refine ax_iload_n (i := 2) dX10_setRange_69 rfl rfl ?_
        obtain ⟨s16, gs16, h⟩ := Option.bind_eq_some_iff.mp h
        refine ax_iast dX10_setRange_70 gs16 ?_
        refine ax_aload_n (i := 0) dX10_setRange_71 rfl rfl ?_
        obtain ⟨r17, gr17, h⟩ := Option.bind_eq_some_iff.mp h
        refine ax_getR (q := (RX10, TX10, 28)) (t := 7) (k := 0) dX10_setRange_72 rfl (by decide) wd_756 rfl gr17 ?_
        refine ax_iload_n (i := 1) dX10_setRange_75 rfl rfl ?_
        refine ax_iconst (v := (2)) dX10_setRange_76 rfl ?_
        obtain ⟨q18, gq18, h⟩ := Option.bind_eq_some_iff.mp h
        refine ax_cS (As := [av_i a1, av_i (2)]) dX10_setRange_77 (th_X10_at gq18) (And.intro wd_858 wd_59) wd_856 wd_857 cy_X10_at (by omega) (by decide) (Nat.le_of_ble_eq_true rfl) rfl ?_
        refine ax_iload_n (i := 3) dX10_setRange_80 rfl rfl ?_
        obtain ⟨s19, gs19, h⟩ := Option.bind_eq_some_iff.mp h
        refine ax_iast dX10_setRange_81 gs19 ?_
        refine ax_aload_n (i := 0) dX10_setRange_82 rfl rfl ?_
        refine ax_iload_n (i := 1) dX10_setRange_83 rfl rfl ?_
        refine ax_iload (i := 4) dX10_setRange_84 rfl ?_
        refine ax_iload (i := 5) dX10_setRange_86 rfl ?_
        refine ax_iload_n (i := 2) dX10_setRange_88 rfl rfl ?_
        refine ax_iload_n (i := 3) dX10_setRange_89 rfl rfl ?_
        obtain ⟨w20, gw20, h⟩ := Option.bind_eq_some_iff.mp h
        obtain ⟨q21, gq21, h⟩ := Option.bind_eq_some_iff.mp h
        refine ax_cV (As := [av_i a1, av_i x10, av_i x13, av_i a2, av_i a3]) (t := 7) dX10_setRange_90 gw20 (th_X10_voids gq21) rfl (And.intro wd_885 wd_59) wd_882 wd_884 wd_21 cy_X10_voids (by omega) (by decide) (Nat.le_of_ble_eq_true rfl) rfl ?_
        refine ax_aload_n (i := 0) dX10_setRange_93 rfl rfl ?_
        refine ax_iload_n (i := 1) dX10_setRange_94 rfl rfl ?_
        refine ax_iload_n (i := 2) dX10_setRange_95 rfl rfl ?_
        refine ax_iload_n (i := 3) dX10_setRange_96 rfl rfl ?_
        refine ax_iload (i := 4) dX10_setRange_97 rfl ?_
        refine ax_iload (i := 5) dX10_setRange_99 rfl ?_
        obtain ⟨w22, gw22, h⟩ := Option.bind_eq_some_iff.mp h
        obtain ⟨q23, gq23, h⟩ := Option.bind_eq_some_iff.mp h
        refine ax_cV (As := [av_i a1, av_i a2, av_i a3, av_i x10, av_i x13]) (t := 7) dX10_setRange_101 gw22 (th_X10_voids gq23) rfl (And.intro wd_885 wd_59) wd_882 wd_884 wd_21 cy_X10_voids (by omega) (by decide) (Nat.le_of_ble_eq_true rfl) rfl ?_
        refine ax_iadd dX10_setRange_104 ?_
        exact ax_reti dX10_setRange_105 h
      · rw [if_pos c7] at h
        refine ax_sipush (v := (-1002)) dX10_setRange_32 rfl ?_
        exact ax_reti dX10_setRange_35 h
  · rw [if_pos c3] at h
    refine ax_sipush (v := (-1001)) dX10_setRange_8 rfl ?_
    exact ax_reti dX10_setRange_11 h
set_option maxRecDepth 100000 in
set_option maxHeartbeats 4000000 in
theorem th_X10_setRange {q : Int32 × ax_S} {a0 : Option Nat} {a1 : Int32} {a2 : Int32} {a3 : Int32} {s : ax_S} (h : fn_X10_setRange a0 a1 a2 a3 s = some q) : AC mm_X10_setRange yX10_setRange 3 0 0 [av_r a0, av_i a1, av_i a2, av_i a3] s (some (av_i q.1), q.2) := by
  exact ax_met (L0 := [some (av_r a0), some (av_i a1), some (av_i a2), some (av_i a3), none, none]) (by decide +kernel) rfl (fun h => absurd h (by decide)) ⟨rfl, rfl, rfl, rfl, trivial⟩ (Nat.le_of_ble_eq_true rfl) trivial (tw_X10_setRange h)
/-! X10_count -/
abbrev mm_X10_count : ax_M := (RX10, cX10_count, (some .int), 2, false)
def fn_X10_count (a0 : Option Nat) (a1 : Int32) (s : ax_S) : Option (Int32 × ax_S) :=
  (fn_X10_in a1 (0) (4) s).bind fun q1 =>
  if q1.1 = 0 then
    some ((-1001), q1.2)
  else
    (ax_sh q1.2 7 a0).bind fun w3 =>
    (fn_X10_countOf a0 a1 q1.2).bind fun q4 =>
    some (q4.1, q4.2)
set_option maxRecDepth 100000 in
set_option maxHeartbeats 4000000 in
theorem tw_X10_count {q : Int32 × ax_S} {a0 : Option Nat} {a1 : Int32} {s : ax_S} (h : fn_X10_count a0 a1 s = some q) : AW mm_X10_count 1 0 0 0 [some (av_r a0), some (av_i a1)] [] s (some (av_i q.1), q.2) := by
  unfold fn_X10_count at h
  refine ax_iload_n (i := 1) dX10_count_0 rfl rfl ?_
  refine ax_iconst (v := (0)) dX10_count_1 rfl ?_
  refine ax_iconst (v := (4)) dX10_count_2 rfl ?_
  obtain ⟨q1, gq1, h⟩ := Option.bind_eq_some_iff.mp h
  refine ax_cS (As := [av_i a1, av_i (0), av_i (4)]) dX10_count_3 (th_X10_in gq1) (And.intro wd_851 wd_59) wd_849 wd_850 cy_X10_in (by omega) (by decide) (Nat.le_of_ble_eq_true rfl) rfl ?_
  refine ax_if_eq (tgt := 17) dX10_count_6 (by decide) (fun c2 => ?_) (fun c2 => ?_)
  · rw [if_pos c2] at h
    refine ax_sipush (v := (-1001)) dX10_count_17 rfl ?_
    exact ax_reti dX10_count_20 h
  · rw [if_neg c2] at h
    refine ax_aload_n (i := 0) dX10_count_9 rfl rfl ?_
    refine ax_iload_n (i := 1) dX10_count_10 rfl rfl ?_
    obtain ⟨w3, gw3, h⟩ := Option.bind_eq_some_iff.mp h
    obtain ⟨q4, gq4, h⟩ := Option.bind_eq_some_iff.mp h
    refine ax_cV (As := [av_i a1]) (t := 7) dX10_count_11 gw3 (th_X10_countOf gq4) rfl (And.intro wd_1032 wd_59) wd_1029 wd_1031 wd_41 cy_X10_countOf (by omega) (by decide) (Nat.le_of_ble_eq_true rfl) rfl ?_
    refine ax_goto (tgt := 20) dX10_count_14 (by decide) ?_
    exact ax_reti dX10_count_20 h
set_option maxRecDepth 100000 in
set_option maxHeartbeats 4000000 in
theorem th_X10_count {q : Int32 × ax_S} {a0 : Option Nat} {a1 : Int32} {s : ax_S} (h : fn_X10_count a0 a1 s = some q) : AC mm_X10_count yX10_count 1 0 0 [av_r a0, av_i a1] s (some (av_i q.1), q.2) := by
  exact ax_met (L0 := [some (av_r a0), some (av_i a1)]) (by decide +kernel) rfl (fun h => absurd h (by decide)) ⟨rfl, rfl, trivial⟩ (Nat.le_of_ble_eq_true rfl) trivial (tw_X10_count h)
/-! X10_value -/
abbrev mm_X10_value : ax_M := (RX10, cX10_value, (some .int), 6, false)
def fn_X10_value (a0 : Option Nat) (a1 : Int32) (a2 : Int32) (a3 : Int32) (a4 : Int32) (a5 : Int32) (s : ax_S) : Option (Int32 × ax_S) :=
  (ax_sh s 7 a0).bind fun w1 =>
  (fn_X10_isPicture a0 a1 a2 s).bind fun q2 =>
  if q2.1 = 0 then
    some ((-1001), q2.2)
  else
    (fn_X10_in a3 (0) (7) q2.2).bind fun q4 =>
    if q4.1 = 0 then
      some ((-1001), q4.2)
    else
      (fn_X10_in a4 (0) (3) q4.2).bind fun q6 =>
      if q6.1 = 0 then
        some ((-1001), q6.2)
      else
        (fn_X10_in a5 (0) (2) q6.2).bind fun q8 =>
        if q8.1 = 0 then
          some ((-1001), q8.2)
        else
          (ax_gr q8.2 7 8 a0).bind fun r10 =>
          (ax_sh q8.2 7 a0).bind fun w11 =>
          (fn_X10_picture a0 a1 a2 q8.2).bind fun q12 =>
          (ax_al q12.2 9 r10 (((((96) * q12.1) + ((32) * a5)) + ((8) * a4)) + a3)).bind fun x13 =>
          some (x13, q12.2)
set_option maxRecDepth 100000 in
set_option maxHeartbeats 4000000 in
theorem tw_X10_value {q : Int32 × ax_S} {a0 : Option Nat} {a1 : Int32} {a2 : Int32} {a3 : Int32} {a4 : Int32} {a5 : Int32} {s : ax_S} (h : fn_X10_value a0 a1 a2 a3 a4 a5 s = some q) : AW mm_X10_value 6 0 0 0 [some (av_r a0), some (av_i a1), some (av_i a2), some (av_i a3), some (av_i a4), some (av_i a5)] [] s (some (av_i q.1), q.2) := by
  unfold fn_X10_value at h
  refine ax_aload_n (i := 0) dX10_value_0 rfl rfl ?_
  refine ax_iload_n (i := 1) dX10_value_1 rfl rfl ?_
  refine ax_iload_n (i := 2) dX10_value_2 rfl rfl ?_
  obtain ⟨w1, gw1, h⟩ := Option.bind_eq_some_iff.mp h
  obtain ⟨q2, gq2, h⟩ := Option.bind_eq_some_iff.mp h
  refine ax_cV (As := [av_i a1, av_i a2]) (t := 7) dX10_value_3 gw1 (th_X10_isPicture gq2) rfl (And.intro wd_950 wd_59) wd_947 wd_949 wd_28 cy_X10_isPicture (by omega) (by decide) (Nat.le_of_ble_eq_true rfl) rfl ?_
  refine ax_if_eq (tgt := 39) dX10_value_6 (by decide) (fun c3 => ?_) (fun c3 => ?_)
  · rw [if_pos c3] at h
    refine ax_sipush (v := (-1001)) dX10_value_39 rfl ?_
    exact ax_reti dX10_value_42 h
  · rw [if_neg c3] at h
    refine ax_iload_n (i := 3) dX10_value_9 rfl rfl ?_
    refine ax_iconst (v := (0)) dX10_value_10 rfl ?_
    refine ax_bipush (v := (7)) dX10_value_11 rfl ?_
    obtain ⟨q4, gq4, h⟩ := Option.bind_eq_some_iff.mp h
    refine ax_cS (As := [av_i a3, av_i (0), av_i (7)]) dX10_value_13 (th_X10_in gq4) (And.intro wd_851 wd_59) wd_849 wd_850 cy_X10_in (by omega) (by decide) (Nat.le_of_ble_eq_true rfl) rfl ?_
    refine ax_if_eq (tgt := 39) dX10_value_16 (by decide) (fun c5 => ?_) (fun c5 => ?_)
    · rw [if_pos c5] at h
      refine ax_sipush (v := (-1001)) dX10_value_39 rfl ?_
      exact ax_reti dX10_value_42 h
    · rw [if_neg c5] at h
      refine ax_iload (i := 4) dX10_value_19 rfl ?_
      refine ax_iconst (v := (0)) dX10_value_21 rfl ?_
      refine ax_iconst (v := (3)) dX10_value_22 rfl ?_
      obtain ⟨q6, gq6, h⟩ := Option.bind_eq_some_iff.mp h
      refine ax_cS (As := [av_i a4, av_i (0), av_i (3)]) dX10_value_23 (th_X10_in gq6) (And.intro wd_851 wd_59) wd_849 wd_850 cy_X10_in (by omega) (by decide) (Nat.le_of_ble_eq_true rfl) rfl ?_
      refine ax_if_eq (tgt := 39) dX10_value_26 (by decide) (fun c7 => ?_) (fun c7 => ?_)
      · rw [if_pos c7] at h
        refine ax_sipush (v := (-1001)) dX10_value_39 rfl ?_
        exact ax_reti dX10_value_42 h
      · rw [if_neg c7] at h
        refine ax_iload (i := 5) dX10_value_29 rfl ?_
        refine ax_iconst (v := (0)) dX10_value_31 rfl ?_
        refine ax_iconst (v := (2)) dX10_value_32 rfl ?_
        obtain ⟨q8, gq8, h⟩ := Option.bind_eq_some_iff.mp h
        refine ax_cS (As := [av_i a5, av_i (0), av_i (2)]) dX10_value_33 (th_X10_in gq8) (And.intro wd_851 wd_59) wd_849 wd_850 cy_X10_in (by omega) (by decide) (Nat.le_of_ble_eq_true rfl) rfl ?_
        refine ax_if_ne (tgt := 43) dX10_value_36 (by decide) (fun c9 => ?_) (fun c9 => ?_)
        · rw [if_neg c9] at h
          refine ax_aload_n (i := 0) dX10_value_43 rfl rfl ?_
          obtain ⟨r10, gr10, h⟩ := Option.bind_eq_some_iff.mp h
          refine ax_getR (q := (RX10, TX10, 28)) (t := 7) (k := 8) dX10_value_44 rfl (by decide) wd_764 rfl gr10 ?_
          refine ax_bipush (v := (96)) dX10_value_47 rfl ?_
          refine ax_aload_n (i := 0) dX10_value_49 rfl rfl ?_
          refine ax_iload_n (i := 1) dX10_value_50 rfl rfl ?_
          refine ax_iload_n (i := 2) dX10_value_51 rfl rfl ?_
          obtain ⟨w11, gw11, h⟩ := Option.bind_eq_some_iff.mp h
          obtain ⟨q12, gq12, h⟩ := Option.bind_eq_some_iff.mp h
          refine ax_cV (As := [av_i a1, av_i a2]) (t := 7) dX10_value_52 gw11 (th_X10_picture gq12) rfl (And.intro wd_954 wd_59) wd_951 wd_953 wd_29 cy_X10_picture (by omega) (by decide) (Nat.le_of_ble_eq_true rfl) rfl ?_
          refine ax_imul dX10_value_55 ?_
          refine ax_bipush (v := (32)) dX10_value_56 rfl ?_
          refine ax_iload (i := 5) dX10_value_58 rfl ?_
          refine ax_imul dX10_value_60 ?_
          refine ax_iadd dX10_value_61 ?_
          refine ax_bipush (v := (8)) dX10_value_62 rfl ?_
          refine ax_iload (i := 4) dX10_value_64 rfl ?_
          refine ax_imul dX10_value_66 ?_
          refine ax_iadd dX10_value_67 ?_
          refine ax_iload_n (i := 3) dX10_value_68 rfl rfl ?_
          refine ax_iadd dX10_value_69 ?_
          obtain ⟨x13, gx13, h⟩ := Option.bind_eq_some_iff.mp h
          refine ax_iald dX10_value_70 gx13 ?_
          exact ax_reti dX10_value_71 h
        · rw [if_pos c9] at h
          refine ax_sipush (v := (-1001)) dX10_value_39 rfl ?_
          exact ax_reti dX10_value_42 h
set_option maxRecDepth 100000 in
set_option maxHeartbeats 4000000 in
theorem th_X10_value {q : Int32 × ax_S} {a0 : Option Nat} {a1 : Int32} {a2 : Int32} {a3 : Int32} {a4 : Int32} {a5 : Int32} {s : ax_S} (h : fn_X10_value a0 a1 a2 a3 a4 a5 s = some q) : AC mm_X10_value yX10_value 6 0 0 [av_r a0, av_i a1, av_i a2, av_i a3, av_i a4, av_i a5] s (some (av_i q.1), q.2) := by
  exact ax_met (L0 := [some (av_r a0), some (av_i a1), some (av_i a2), some (av_i a3), some (av_i a4), some (av_i a5)]) (by decide +kernel) rfl (fun h => absurd h (by decide)) ⟨rfl, rfl, rfl, rfl, rfl, rfl, trivial⟩ (Nat.le_of_ble_eq_true rfl) trivial (tw_X10_value h)
