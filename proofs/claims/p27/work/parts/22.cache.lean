/-! X0_find -/
abbrev mm_X0_find : ax_M := (RX0, cX0_find, (some (.object "GradeGraph$Picture")), 5, false)
def fb_X0_find_2 : Nat → Option Nat → Int32 → Int32 → Int32 → ax_S → Option (Option Nat × ax_S)
  | 0, _, _, _, _, _ => none
  | n + 1, a0, a1, a2, a3, s =>
    (ax_gi s 0 2 a0).bind fun x1 =>
    if x1 ≤ a3 then
      some (none, s)
    else
      (ax_gr s 0 0 a0).bind fun r3 =>
      (ax_ar s 13 r3 a3).bind fun r4 =>
      (ax_gi s 3 0 r4).bind fun x5 =>
      if x5 = a1 then
        (ax_gi s 3 1 r4).bind fun x7 =>
        if x7 = a2 then
          some (r4, s)
        else
          (fb_X0_find_2 n) a0 a1 a2 (a3 + (1)) s
      else
        (fb_X0_find_2 n) a0 a1 a2 (a3 + (1)) s
set_option maxRecDepth 100000 in
set_option maxHeartbeats 4000000 in
theorem tb_X0_find_2 {q : Option Nat × ax_S} : ∀ (n : Nat) (a0 : Option Nat) (a1 : Int32) (a2 : Int32) (a3 : Int32) (s : ax_S) (h : fb_X0_find_2 n a0 a1 a2 a3 s = some q), AW mm_X0_find 0 0 0 2 [(some (av_r a0)), (some (av_i a1)), (some (av_i a2)), (some (av_i a3)), none] [] s (some (av_r q.1), q.2) := by
  intro n
  induction n with
  | zero =>
    intro a0 a1 a2 a3 s h
    exact ax_no h
  | succ n ih =>
    intro a0 a1 a2 a3 s h
    unfold fb_X0_find_2 at h
    refine ax_iload_n (i := 3) dX0_find_2 rfl rfl ?_
    refine ax_aload_n (i := 0) dX0_find_3 rfl rfl ?_
    obtain ⟨x1, gx1, h⟩ := Option.bind_eq_some_iff.mp h
    refine ax_getI (q := (RX0, TX0, 8)) (t := 0) (k := 2) dX0_find_4 rfl (by decide) wd_134 rfl gx1 ?_
    refine ax_icmp_ge (tgt := 45) dX0_find_7 (by decide) (fun c2 => ?_) (fun c2 => ?_)
    · rw [if_pos c2] at h
      refine ax_null dX0_find_45 ?_
      exact ax_retr dX0_find_46 h
    · rw [if_neg c2] at h
      refine ax_aload_n (i := 0) dX0_find_10 rfl rfl ?_
      obtain ⟨r3, gr3, h⟩ := Option.bind_eq_some_iff.mp h
      refine ax_getR (q := (RX0, TX0, 8)) (t := 0) (k := 0) dX0_find_11 rfl (by decide) wd_132 rfl gr3 ?_
      refine ax_iload_n (i := 3) dX0_find_14 rfl rfl ?_
      obtain ⟨r4, gr4, h⟩ := Option.bind_eq_some_iff.mp h
      refine ax_aald (t := 13) (by decide) dX0_find_15 gr4 ?_
      refine ax_astore (i := 4) (L2 := [some (av_r a0), some (av_i a1), some (av_i a2), some (av_i a3), some (av_r r4)]) dX0_find_16 (by decide) rfl rfl ?_
      refine ax_aload (i := 4) dX0_find_18 rfl ?_
      obtain ⟨x5, gx5, h⟩ := Option.bind_eq_some_iff.mp h
      refine ax_getI (q := (RX5, TX5, 4)) (t := 3) (k := 0) dX0_find_20 rfl (by decide) wd_118 rfl gx5 ?_
      refine ax_iload_n (i := 1) dX0_find_23 rfl rfl ?_
      refine ax_icmp_ne (tgt := 39) dX0_find_24 (by decide) (fun c6 => ?_) (fun c6 => ?_)
      · rw [if_neg c6] at h
        refine ax_iinc (i := 3) (v := (a3 + (1))) (L2 := [some (av_r a0), some (av_i a1), some (av_i a2), some (av_i (a3 + (1))), some (av_r r4)]) dX0_find_39 rfl rfl (by decide) rfl rfl ?_
        refine ax_goto (tgt := 2) dX0_find_42 (by decide) ?_
        exact ax_less (L' := [(some (av_r a0)), (some (av_i a1)), (some (av_i a2)), (some (av_i (a3 + (1)))), none]) ⟨rfl, rfl, rfl, rfl, trivial⟩ (ih _ _ _ _ _ h)
      · rw [if_pos c6] at h
        refine ax_aload (i := 4) dX0_find_27 rfl ?_
        obtain ⟨x7, gx7, h⟩ := Option.bind_eq_some_iff.mp h
        refine ax_getI (q := (RX5, TX5, 4)) (t := 3) (k := 1) dX0_find_29 rfl (by decide) wd_119 rfl gx7 ?_
        refine ax_iload_n (i := 2) dX0_find_32 rfl rfl ?_
        refine ax_icmp_ne (tgt := 39) dX0_find_33 (by decide) (fun c8 => ?_) (fun c8 => ?_)
        · rw [if_neg c8] at h
          refine ax_iinc (i := 3) (v := (a3 + (1))) (L2 := [some (av_r a0), some (av_i a1), some (av_i a2), some (av_i (a3 + (1))), some (av_r r4)]) dX0_find_39 rfl rfl (by decide) rfl rfl ?_
          refine ax_goto (tgt := 2) dX0_find_42 (by decide) ?_
          exact ax_less (L' := [(some (av_r a0)), (some (av_i a1)), (some (av_i a2)), (some (av_i (a3 + (1)))), none]) ⟨rfl, rfl, rfl, rfl, trivial⟩ (ih _ _ _ _ _ h)
        · rw [if_pos c8] at h
          refine ax_aload (i := 4) dX0_find_36 rfl ?_
          exact ax_retr dX0_find_38 h
def fn_X0_find (a0 : Option Nat) (a1 : Int32) (a2 : Int32) (s : ax_S) : Option (Option Nat × ax_S) :=
  fb_X0_find_2 10000 a0 a1 a2 (0) s
set_option maxRecDepth 100000 in
set_option maxHeartbeats 4000000 in
theorem tw_X0_find {q : Option Nat × ax_S} {a0 : Option Nat} {a1 : Int32} {a2 : Int32} {s : ax_S} (h : fn_X0_find a0 a1 a2 s = some q) : AW mm_X0_find 0 0 0 0 [some (av_r a0), some (av_i a1), some (av_i a2), none, none] [] s (some (av_r q.1), q.2) := by
  unfold fn_X0_find at h
  refine ax_iconst (v := (0)) dX0_find_0 rfl ?_
  refine ax_istore_n (i := 3) (L2 := [some (av_r a0), some (av_i a1), some (av_i a2), some (av_i (0)), none]) dX0_find_1 rfl (by decide) rfl rfl ?_
  exact ax_less (L' := [(some (av_r a0)), (some (av_i a1)), (some (av_i a2)), (some (av_i (0))), none]) ⟨rfl, rfl, rfl, rfl, trivial⟩ (tb_X0_find_2  _ _ _ _ _ _ h)
set_option maxRecDepth 100000 in
set_option maxHeartbeats 4000000 in
theorem th_X0_find {q : Option Nat × ax_S} {a0 : Option Nat} {a1 : Int32} {a2 : Int32} {s : ax_S} (h : fn_X0_find a0 a1 a2 s = some q) : AC mm_X0_find yX0_find 0 0 0 [av_r a0, av_i a1, av_i a2] s (some (av_r q.1), q.2) := by
  exact ax_met (L0 := [some (av_r a0), some (av_i a1), some (av_i a2), none, none]) (by decide +kernel) rfl (fun h => absurd h (by decide)) ⟨rfl, rfl, rfl, trivial⟩ (Nat.le_of_ble_eq_true rfl) trivial (tw_X0_find h)
/-! X0_touch -/
abbrev mm_X0_touch : ax_M := (RX0, cX0_touch, none, 2, false)
def fn_X0_touch (a0 : Option Nat) (a1 : Option Nat) (s : ax_S) : Option (ax_S) :=
  (ax_gi s 0 1 a0).bind fun x1 =>
  (ax_pi s 0 1 a0 (x1 + (1))).bind fun s2 =>
  (ax_gi s2 0 1 a0).bind fun x3 =>
  (ax_pi s2 3 2 a1 x3).bind fun s4 =>
  some s4
set_option maxRecDepth 100000 in
set_option maxHeartbeats 4000000 in
theorem tw_X0_touch {q : ax_S} {a0 : Option Nat} {a1 : Option Nat} {s : ax_S} (h : fn_X0_touch a0 a1 s = some q) : AW mm_X0_touch 0 0 0 0 [some (av_r a0), some (av_r a1)] [] s (none, q) := by
  unfold fn_X0_touch at h
  refine ax_aload_n (i := 0) dX0_touch_0 rfl rfl ?_
  refine ax_dup dX0_touch_1 trivial ?_
  obtain ⟨x1, gx1, h⟩ := Option.bind_eq_some_iff.mp h
  refine ax_getI (q := (RX0, TX0, 8)) (t := 0) (k := 1) dX0_touch_2 rfl (by decide) wd_133 rfl gx1 ?_
  refine ax_iconst (v := (1)) dX0_touch_5 rfl ?_
  refine ax_iadd dX0_touch_6 ?_
  obtain ⟨s2, gs2, h⟩ := Option.bind_eq_some_iff.mp h
  refine ax_putI (q := (RX0, TX0, 8)) (t := 0) (k := 1) dX0_touch_7 rfl (by decide) wd_133 rfl rfl ⟨rfl, rfl⟩ gs2 ?_
  refine ax_aload_n (i := 1) dX0_touch_10 rfl rfl ?_
  refine ax_aload_n (i := 0) dX0_touch_11 rfl rfl ?_
  obtain ⟨x3, gx3, h⟩ := Option.bind_eq_some_iff.mp h
  refine ax_getI (q := (RX0, TX0, 8)) (t := 0) (k := 1) dX0_touch_12 rfl (by decide) wd_133 rfl gx3 ?_
  obtain ⟨s4, gs4, h⟩ := Option.bind_eq_some_iff.mp h
  refine ax_putI (q := (RX5, TX5, 4)) (t := 3) (k := 2) dX0_touch_15 rfl (by decide) wd_120 rfl rfl ⟨rfl, rfl⟩ gs4 ?_
  exact ax_retv dX0_touch_18 h
set_option maxRecDepth 100000 in
set_option maxHeartbeats 4000000 in
theorem th_X0_touch {q : ax_S} {a0 : Option Nat} {a1 : Option Nat} {s : ax_S} (h : fn_X0_touch a0 a1 s = some q) : AC mm_X0_touch yX0_touch 0 0 0 [av_r a0, av_r a1] s (none, q) := by
  exact ax_met (L0 := [some (av_r a0), some (av_r a1)]) (by decide +kernel) rfl (fun h => absurd h (by decide)) ⟨rfl, rfl, trivial⟩ (Nat.le_of_ble_eq_true rfl) trivial (tw_X0_touch h)
/-! X0_hit -/
abbrev mm_X0_hit : ax_M := (RX0, cX0_hit, none, 2, false)
def fn_X0_hit (a0 : Option Nat) (a1 : Option Nat) (s : ax_S) : Option (ax_S) :=
  (ax_gi s 0 4 a0).bind fun x1 =>
  (ax_pi s 0 4 a0 (x1 + (1))).bind fun s2 =>
  (ax_sh s2 0 a0).bind fun w3 =>
  (fn_X0_touch a0 a1 s2).bind fun q4 =>
  some q4
set_option maxRecDepth 100000 in
set_option maxHeartbeats 4000000 in
theorem tw_X0_hit {q : ax_S} {a0 : Option Nat} {a1 : Option Nat} {s : ax_S} (h : fn_X0_hit a0 a1 s = some q) : AW mm_X0_hit 1 0 0 0 [some (av_r a0), some (av_r a1)] [] s (none, q) := by
  unfold fn_X0_hit at h
  refine ax_aload_n (i := 0) dX0_hit_0 rfl rfl ?_
  refine ax_dup dX0_hit_1 trivial ?_
  obtain ⟨x1, gx1, h⟩ := Option.bind_eq_some_iff.mp h
  refine ax_getI (q := (RX0, TX0, 8)) (t := 0) (k := 4) dX0_hit_2 rfl (by decide) wd_138 rfl gx1 ?_
  refine ax_iconst (v := (1)) dX0_hit_5 rfl ?_
  refine ax_iadd dX0_hit_6 ?_
  obtain ⟨s2, gs2, h⟩ := Option.bind_eq_some_iff.mp h
  refine ax_putI (q := (RX0, TX0, 8)) (t := 0) (k := 4) dX0_hit_7 rfl (by decide) wd_138 rfl rfl ⟨rfl, rfl⟩ gs2 ?_
  refine ax_aload_n (i := 0) dX0_hit_10 rfl rfl ?_
  refine ax_aload_n (i := 1) dX0_hit_11 rfl rfl ?_
  obtain ⟨w3, gw3, h⟩ := Option.bind_eq_some_iff.mp h
  obtain ⟨q4, gq4, h⟩ := Option.bind_eq_some_iff.mp h
  refine ax_cV (As := [av_r a1]) (t := 0) dX0_hit_12 gw3 (th_X0_touch gq4) rfl (And.intro wd_378 wd_21) wd_375 wd_377 wd_7 cy_X0_touch (by omega) (by decide) (Nat.le_of_ble_eq_true rfl) rfl ?_
  exact ax_retv dX0_hit_15 h
set_option maxRecDepth 100000 in
set_option maxHeartbeats 4000000 in
theorem th_X0_hit {q : ax_S} {a0 : Option Nat} {a1 : Option Nat} {s : ax_S} (h : fn_X0_hit a0 a1 s = some q) : AC mm_X0_hit yX0_hit 1 0 0 [av_r a0, av_r a1] s (none, q) := by
  exact ax_met (L0 := [some (av_r a0), some (av_r a1)]) (by decide +kernel) rfl (fun h => absurd h (by decide)) ⟨rfl, rfl, trivial⟩ (Nat.le_of_ble_eq_true rfl) trivial (tw_X0_hit h)
/-! X0_remove -/
abbrev mm_X0_remove : ax_M := (RX0, cX0_remove, none, 3, false)
def fn_X0_remove (a0 : Option Nat) (a1 : Int32) (s : ax_S) : Option (ax_S) :=
  (ax_gi s 0 2 a0).bind fun x1 =>
  (fn_X9_isIn a1 (0) (x1 - (1)) s).bind fun q2 =>
  if q2.1 = 0 then
    some q2.2
  else
    (ax_gi q2.2 0 2 a0).bind fun x4 =>
    (ax_pi q2.2 0 2 a0 (x4 - (1))).bind fun s5 =>
    (ax_gr s5 0 0 a0).bind fun r6 =>
    (ax_ar s5 13 r6 a1).bind fun r7 =>
    (ax_gr s5 0 0 a0).bind fun r8 =>
    (ax_gr s5 0 0 a0).bind fun r9 =>
    (ax_gi s5 0 2 a0).bind fun x10 =>
    (ax_ar s5 13 r9 x10).bind fun r11 =>
    (ax_aw s5 13 r8 a1 r11).bind fun s12 =>
    (ax_gr s12 0 0 a0).bind fun r13 =>
    (ax_gi s12 0 2 a0).bind fun x14 =>
    (ax_aw s12 13 r13 x14 r7).bind fun s15 =>
    some s15
set_option maxRecDepth 100000 in
set_option maxHeartbeats 4000000 in
theorem tw_X0_remove {q : ax_S} {a0 : Option Nat} {a1 : Int32} {s : ax_S} (h : fn_X0_remove a0 a1 s = some q) : AW mm_X0_remove 1 0 0 0 [some (av_r a0), some (av_i a1), none] [] s (none, q) := by
  unfold fn_X0_remove at h
  refine ax_iload_n (i := 1) dX0_remove_0 rfl rfl ?_
  refine ax_iconst (v := (0)) dX0_remove_1 rfl ?_
  refine ax_aload_n (i := 0) dX0_remove_2 rfl rfl ?_
  obtain ⟨x1, gx1, h⟩ := Option.bind_eq_some_iff.mp h
  refine ax_getI (q := (RX0, TX0, 8)) (t := 0) (k := 2) dX0_remove_3 rfl (by decide) wd_134 rfl gx1 ?_
  refine ax_iconst (v := (1)) dX0_remove_6 rfl ?_
  refine ax_isub dX0_remove_7 ?_
  obtain ⟨q2, gq2, h⟩ := Option.bind_eq_some_iff.mp h
  refine ax_cSN (As := [av_i a1, av_i (0), av_i (x1 - (1))]) dX0_remove_8 (th_X9_isIn gq2) (And.intro wd_259 wd_18) wn_310 wd_258 cy_X9_isIn (by omega) (by decide) (Nat.le_of_ble_eq_true rfl) rfl ?_
  refine ax_if_eq (tgt := 56) dX0_remove_11 (by decide) (fun c3 => ?_) (fun c3 => ?_)
  · rw [if_pos c3] at h
    exact ax_retv dX0_remove_56 h
  · rw [if_neg c3] at h
    refine ax_aload_n (i := 0) dX0_remove_14 rfl rfl ?_
    refine ax_dup dX0_remove_15 trivial ?_
    obtain ⟨x4, gx4, h⟩ := Option.bind_eq_some_iff.mp h
    refine ax_getI (q := (RX0, TX0, 8)) (t := 0) (k := 2) dX0_remove_16 rfl (by decide) wd_134 rfl gx4 ?_
    refine ax_iconst (v := (1)) dX0_remove_19 rfl ?_
    refine ax_isub dX0_remove_20 ?_
    obtain ⟨s5, gs5, h⟩ := Option.bind_eq_some_iff.mp h
    refine ax_putI (q := (RX0, TX0, 8)) (t := 0) (k := 2) dX0_remove_21 rfl (by decide) wd_134 rfl rfl ⟨rfl, rfl⟩ gs5 ?_
    refine ax_aload_n (i := 0) dX0_remove_24 rfl rfl ?_
    obtain ⟨r6, gr6, h⟩ := Option.bind_eq_some_iff.mp h
    refine ax_getR (q := (RX0, TX0, 8)) (t := 0) (k := 0) dX0_remove_25 rfl (by decide) wd_132 rfl gr6 ?_
    refine ax_iload_n (i := 1) dX0_remove_28 rfl rfl ?_
    obtain ⟨r7, gr7, h⟩ := Option.bind_eq_some_iff.mp h
    refine ax_aald (t := 13) (by decide) dX0_remove_29 gr7 ?_
    refine ax_astore_n (i := 2) (L2 := [some (av_r a0), some (av_i a1), some (av_r r7)]) dX0_remove_30 rfl (by decide) rfl rfl ?_
    refine ax_aload_n (i := 0) dX0_remove_31 rfl rfl ?_
    obtain ⟨r8, gr8, h⟩ := Option.bind_eq_some_iff.mp h
    refine ax_getR (q := (RX0, TX0, 8)) (t := 0) (k := 0) dX0_remove_32 rfl (by decide) wd_132 rfl gr8 ?_
    refine ax_iload_n (i := 1) dX0_remove_35 rfl rfl ?_
    refine ax_aload_n (i := 0) dX0_remove_36 rfl rfl ?_
    obtain ⟨r9, gr9, h⟩ := Option.bind_eq_some_iff.mp h
    refine ax_getR (q := (RX0, TX0, 8)) (t := 0) (k := 0) dX0_remove_37 rfl (by decide) wd_132 rfl gr9 ?_
    refine ax_aload_n (i := 0) dX0_remove_40 rfl rfl ?_
    obtain ⟨x10, gx10, h⟩ := Option.bind_eq_some_iff.mp h
    refine ax_getI (q := (RX0, TX0, 8)) (t := 0) (k := 2) dX0_remove_41 rfl (by decide) wd_134 rfl gx10 ?_
    obtain ⟨r11, gr11, h⟩ := Option.bind_eq_some_iff.mp h
    refine ax_aald (t := 13) (by decide) dX0_remove_44 gr11 ?_
    obtain ⟨s12, gs12, h⟩ := Option.bind_eq_some_iff.mp h
    refine ax_aast (t := 13) (by decide) rfl dX0_remove_45 gs12 ?_
    refine ax_aload_n (i := 0) dX0_remove_46 rfl rfl ?_
    obtain ⟨r13, gr13, h⟩ := Option.bind_eq_some_iff.mp h
    refine ax_getR (q := (RX0, TX0, 8)) (t := 0) (k := 0) dX0_remove_47 rfl (by decide) wd_132 rfl gr13 ?_
    refine ax_aload_n (i := 0) dX0_remove_50 rfl rfl ?_
    obtain ⟨x14, gx14, h⟩ := Option.bind_eq_some_iff.mp h
    refine ax_getI (q := (RX0, TX0, 8)) (t := 0) (k := 2) dX0_remove_51 rfl (by decide) wd_134 rfl gx14 ?_
    refine ax_aload_n (i := 2) dX0_remove_54 rfl rfl ?_
    obtain ⟨s15, gs15, h⟩ := Option.bind_eq_some_iff.mp h
    refine ax_aast (t := 13) (by decide) rfl dX0_remove_55 gs15 ?_
    exact ax_retv dX0_remove_56 h
set_option maxRecDepth 100000 in
set_option maxHeartbeats 4000000 in
theorem th_X0_remove {q : ax_S} {a0 : Option Nat} {a1 : Int32} {s : ax_S} (h : fn_X0_remove a0 a1 s = some q) : AC mm_X0_remove yX0_remove 1 0 0 [av_r a0, av_i a1] s (none, q) := by
  exact ax_met (L0 := [some (av_r a0), some (av_i a1), none]) (by decide +kernel) rfl (fun h => absurd h (by decide)) ⟨rfl, rfl, trivial⟩ (Nat.le_of_ble_eq_true rfl) trivial (tw_X0_remove h)
/-! X0_dropOldest -/
abbrev mm_X0_dropOldest : ax_M := (RX0, cX0_dropOldest, none, 3, false)
def fb_X0_dropOldest_4 : Nat → Option Nat → Int32 → Int32 → ax_S → Option (ax_S)
  | 0, _, _, _, _ => none
  | n + 1, a0, a1, a2, s =>
    (ax_gi s 0 2 a0).bind fun x1 =>
    if x1 ≤ a2 then
      (ax_sh s 0 a0).bind fun w3 =>
      (fn_X0_remove a0 a1 s).bind fun q4 =>
      (ax_gi q4 0 6 a0).bind fun x5 =>
      (ax_pi q4 0 6 a0 (x5 + (1))).bind fun s6 =>
      some s6
    else
      (ax_gr s 0 0 a0).bind fun r7 =>
      (ax_ar s 13 r7 a2).bind fun r8 =>
      (ax_gi s 3 2 r8).bind fun x9 =>
      (ax_gr s 0 0 a0).bind fun r10 =>
      (ax_ar s 13 r10 a1).bind fun r11 =>
      (ax_gi s 3 2 r11).bind fun x12 =>
      if x12 ≤ x9 then
        (fb_X0_dropOldest_4 n) a0 a1 (a2 + (1)) s
      else
        (fb_X0_dropOldest_4 n) a0 a2 (a2 + (1)) s
set_option maxRecDepth 100000 in
set_option maxHeartbeats 4000000 in
theorem tb_X0_dropOldest_4 {q : ax_S} : ∀ (n : Nat) (a0 : Option Nat) (a1 : Int32) (a2 : Int32) (s : ax_S) (h : fb_X0_dropOldest_4 n a0 a1 a2 s = some q), AW mm_X0_dropOldest 2 0 0 4 [(some (av_r a0)), (some (av_i a1)), (some (av_i a2))] [] s (none, q) := by
  intro n
  induction n with
  | zero =>
    intro a0 a1 a2 s h
    exact ax_no h
  | succ n ih =>
    intro a0 a1 a2 s h
    unfold fb_X0_dropOldest_4 at h
    refine ax_iload_n (i := 2) dX0_dropOldest_4 rfl rfl ?_
    refine ax_aload_n (i := 0) dX0_dropOldest_5 rfl rfl ?_
    obtain ⟨x1, gx1, h⟩ := Option.bind_eq_some_iff.mp h
    refine ax_getI (q := (RX0, TX0, 8)) (t := 0) (k := 2) dX0_dropOldest_6 rfl (by decide) wd_134 rfl gx1 ?_
    refine ax_icmp_ge (tgt := 41) dX0_dropOldest_9 (by decide) (fun c2 => ?_) (fun c2 => ?_)
    · rw [if_pos c2] at h
      refine ax_aload_n (i := 0) dX0_dropOldest_41 rfl rfl ?_
      refine ax_iload_n (i := 1) dX0_dropOldest_42 rfl rfl ?_
      obtain ⟨w3, gw3, h⟩ := Option.bind_eq_some_iff.mp h
      obtain ⟨q4, gq4, h⟩ := Option.bind_eq_some_iff.mp h
      refine ax_cV (As := [av_i a1]) (t := 0) dX0_dropOldest_43 gw3 (th_X0_remove gq4) rfl (And.intro wd_315 wd_21) wd_312 wd_314 wd_3 cy_X0_remove (by omega) (by decide) (Nat.le_of_ble_eq_true rfl) rfl ?_
      refine ax_aload_n (i := 0) dX0_dropOldest_46 rfl rfl ?_
      refine ax_dup dX0_dropOldest_47 trivial ?_
      obtain ⟨x5, gx5, h⟩ := Option.bind_eq_some_iff.mp h
      refine ax_getI (q := (RX0, TX0, 8)) (t := 0) (k := 6) dX0_dropOldest_48 rfl (by decide) wd_142 rfl gx5 ?_
      refine ax_iconst (v := (1)) dX0_dropOldest_51 rfl ?_
      refine ax_iadd dX0_dropOldest_52 ?_
      obtain ⟨s6, gs6, h⟩ := Option.bind_eq_some_iff.mp h
      refine ax_putI (q := (RX0, TX0, 8)) (t := 0) (k := 6) dX0_dropOldest_53 rfl (by decide) wd_142 rfl rfl ⟨rfl, rfl⟩ gs6 ?_
      exact ax_retv dX0_dropOldest_56 h
    · rw [if_neg c2] at h
      refine ax_aload_n (i := 0) dX0_dropOldest_12 rfl rfl ?_
      obtain ⟨r7, gr7, h⟩ := Option.bind_eq_some_iff.mp h
      refine ax_getR (q := (RX0, TX0, 8)) (t := 0) (k := 0) dX0_dropOldest_13 rfl (by decide) wd_132 rfl gr7 ?_
      refine ax_iload_n (i := 2) dX0_dropOldest_16 rfl rfl ?_
      obtain ⟨r8, gr8, h⟩ := Option.bind_eq_some_iff.mp h
      refine ax_aald (t := 13) (by decide) dX0_dropOldest_17 gr8 ?_
      obtain ⟨x9, gx9, h⟩ := Option.bind_eq_some_iff.mp h
      refine ax_getI (q := (RX5, TX5, 4)) (t := 3) (k := 2) dX0_dropOldest_18 rfl (by decide) wd_120 rfl gx9 ?_
      refine ax_aload_n (i := 0) dX0_dropOldest_21 rfl rfl ?_
      obtain ⟨r10, gr10, h⟩ := Option.bind_eq_some_iff.mp h
      refine ax_getR (q := (RX0, TX0, 8)) (t := 0) (k := 0) dX0_dropOldest_22 rfl (by decide) wd_132 rfl gr10 ?_
      refine ax_iload_n (i := 1) dX0_dropOldest_25 rfl rfl ?_
      obtain ⟨r11, gr11, h⟩ := Option.bind_eq_some_iff.mp h
      refine ax_aald (t := 13) (by decide) dX0_dropOldest_26 gr11 ?_
      obtain ⟨x12, gx12, h⟩ := Option.bind_eq_some_iff.mp h
      refine ax_getI (q := (RX5, TX5, 4)) (t := 3) (k := 2) dX0_dropOldest_27 rfl (by decide) wd_120 rfl gx12 ?_
      refine ax_icmp_ge (tgt := 35) dX0_dropOldest_30 (by decide) (fun c13 => ?_) (fun c13 => ?_)
      · rw [if_pos c13] at h
        refine ax_iinc (i := 2) (v := (a2 + (1))) (L2 := [some (av_r a0), some (av_i a1), some (av_i (a2 + (1)))]) dX0_dropOldest_35 rfl rfl (by decide) rfl rfl ?_
        refine ax_goto (tgt := 4) dX0_dropOldest_38 (by decide) ?_
        exact ax_less (L' := [(some (av_r a0)), (some (av_i a1)), (some (av_i (a2 + (1))))]) ⟨rfl, rfl, rfl, trivial⟩ (ih _ _ _ _ h)
      · rw [if_neg c13] at h
        refine ax_iload_n (i := 2) dX0_dropOldest_33 rfl rfl ?_
        refine ax_istore_n (i := 1) (L2 := [some (av_r a0), some (av_i a2), some (av_i a2)]) dX0_dropOldest_34 rfl (by decide) rfl rfl ?_
        refine ax_iinc (i := 2) (v := (a2 + (1))) (L2 := [some (av_r a0), some (av_i a2), some (av_i (a2 + (1)))]) dX0_dropOldest_35 rfl rfl (by decide) rfl rfl ?_
        refine ax_goto (tgt := 4) dX0_dropOldest_38 (by decide) ?_
        exact ax_less (L' := [(some (av_r a0)), (some (av_i a2)), (some (av_i (a2 + (1))))]) ⟨rfl, rfl, rfl, trivial⟩ (ih _ _ _ _ h)
def fn_X0_dropOldest (a0 : Option Nat) (s : ax_S) : Option (ax_S) :=
  fb_X0_dropOldest_4 10000 a0 (0) (1) s
set_option maxRecDepth 100000 in
set_option maxHeartbeats 4000000 in
theorem tw_X0_dropOldest {q : ax_S} {a0 : Option Nat} {s : ax_S} (h : fn_X0_dropOldest a0 s = some q) : AW mm_X0_dropOldest 2 0 0 0 [some (av_r a0), none, none] [] s (none, q) := by
  unfold fn_X0_dropOldest at h
  refine ax_iconst (v := (0)) dX0_dropOldest_0 rfl ?_
  refine ax_istore_n (i := 1) (L2 := [some (av_r a0), some (av_i (0)), none]) dX0_dropOldest_1 rfl (by decide) rfl rfl ?_
  refine ax_iconst (v := (1)) dX0_dropOldest_2 rfl ?_
  refine ax_istore_n (i := 2) (L2 := [some (av_r a0), some (av_i (0)), some (av_i (1))]) dX0_dropOldest_3 rfl (by decide) rfl rfl ?_
  exact ax_less (L' := [(some (av_r a0)), (some (av_i (0))), (some (av_i (1)))]) ⟨rfl, rfl, rfl, trivial⟩ (tb_X0_dropOldest_4  _ _ _ _ _ h)
set_option maxRecDepth 100000 in
set_option maxHeartbeats 4000000 in
theorem th_X0_dropOldest {q : ax_S} {a0 : Option Nat} {s : ax_S} (h : fn_X0_dropOldest a0 s = some q) : AC mm_X0_dropOldest yX0_dropOldest 2 0 0 [av_r a0] s (none, q) := by
  exact ax_met (L0 := [some (av_r a0), none, none]) (by decide +kernel) rfl (fun h => absurd h (by decide)) ⟨rfl, trivial⟩ (Nat.le_of_ble_eq_true rfl) trivial (tw_X0_dropOldest h)
/-! X0_admit -/
abbrev mm_X0_admit : ax_M := (RX0, cX0_admit, (some (.object "GradeGraph$Picture")), 4, false)
def fb_X0_admit_25 (a0 : Option Nat) (a1 : Int32) (a2 : Int32) (s : ax_S) : Option (Option Nat × ax_S) :=
  (ax_gr s 0 0 a0).bind fun r1 =>
  (ax_gi s 0 2 a0).bind fun x2 =>
  (ax_ar s 13 r1 x2).bind fun r3 =>
  (ax_gi s 0 2 a0).bind fun x4 =>
  (ax_pi s 0 2 a0 (x4 + (1))).bind fun s5 =>
  (ax_pi s5 3 0 r3 a1).bind fun s6 =>
  (ax_pi s6 3 1 r3 a2).bind fun s7 =>
  (ax_sh s7 0 a0).bind fun w8 =>
  (fn_X0_touch a0 r3 s7).bind fun q9 =>
  some (r3, q9)
set_option maxRecDepth 100000 in
set_option maxHeartbeats 4000000 in
theorem tb_X0_admit_25 {q : Option Nat × ax_S} {a0 : Option Nat} {a1 : Int32} {a2 : Int32} {s : ax_S} (h : fb_X0_admit_25 a0 a1 a2 s = some q) : AW mm_X0_admit 3 0 0 25 [(some (av_r a0)), (some (av_i a1)), (some (av_i a2)), none] [] s (some (av_r q.1), q.2) := by
  unfold fb_X0_admit_25 at h
  refine ax_aload_n (i := 0) dX0_admit_25 rfl rfl ?_
  obtain ⟨r1, gr1, h⟩ := Option.bind_eq_some_iff.mp h
  refine ax_getR (q := (RX0, TX0, 8)) (t := 0) (k := 0) dX0_admit_26 rfl (by decide) wd_132 rfl gr1 ?_
  refine ax_aload_n (i := 0) dX0_admit_29 rfl rfl ?_
  obtain ⟨x2, gx2, h⟩ := Option.bind_eq_some_iff.mp h
  refine ax_getI (q := (RX0, TX0, 8)) (t := 0) (k := 2) dX0_admit_30 rfl (by decide) wd_134 rfl gx2 ?_
  obtain ⟨r3, gr3, h⟩ := Option.bind_eq_some_iff.mp h
  refine ax_aald (t := 13) (by decide) dX0_admit_33 gr3 ?_
  refine ax_astore_n (i := 3) (L2 := [some (av_r a0), some (av_i a1), some (av_i a2), some (av_r r3)]) dX0_admit_34 rfl (by decide) rfl rfl ?_
  refine ax_aload_n (i := 0) dX0_admit_35 rfl rfl ?_
  refine ax_dup dX0_admit_36 trivial ?_
  obtain ⟨x4, gx4, h⟩ := Option.bind_eq_some_iff.mp h
  refine ax_getI (q := (RX0, TX0, 8)) (t := 0) (k := 2) dX0_admit_37 rfl (by decide) wd_134 rfl gx4 ?_
  refine ax_iconst (v := (1)) dX0_admit_40 rfl ?_
  refine ax_iadd dX0_admit_41 ?_
  obtain ⟨s5, gs5, h⟩ := Option.bind_eq_some_iff.mp h
  refine ax_putI (q := (RX0, TX0, 8)) (t := 0) (k := 2) dX0_admit_42 rfl (by decide) wd_134 rfl rfl ⟨rfl, rfl⟩ gs5 ?_
  refine ax_aload_n (i := 3) dX0_admit_45 rfl rfl ?_
  refine ax_iload_n (i := 1) dX0_admit_46 rfl rfl ?_
  obtain ⟨s6, gs6, h⟩ := Option.bind_eq_some_iff.mp h
  refine ax_putI (q := (RX5, TX5, 4)) (t := 3) (k := 0) dX0_admit_47 rfl (by decide) wd_118 rfl rfl ⟨rfl, rfl⟩ gs6 ?_
  refine ax_aload_n (i := 3) dX0_admit_50 rfl rfl ?_
  refine ax_iload_n (i := 2) dX0_admit_51 rfl rfl ?_
  obtain ⟨s7, gs7, h⟩ := Option.bind_eq_some_iff.mp h
  refine ax_putI (q := (RX5, TX5, 4)) (t := 3) (k := 1) dX0_admit_52 rfl (by decide) wd_119 rfl rfl ⟨rfl, rfl⟩ gs7 ?_
  refine ax_aload_n (i := 0) dX0_admit_55 rfl rfl ?_
  refine ax_aload_n (i := 3) dX0_admit_56 rfl rfl ?_
  obtain ⟨w8, gw8, h⟩ := Option.bind_eq_some_iff.mp h
  obtain ⟨q9, gq9, h⟩ := Option.bind_eq_some_iff.mp h
  refine ax_cV (As := [av_r r3]) (t := 0) dX0_admit_57 gw8 (th_X0_touch gq9) rfl (And.intro wd_378 wd_21) wd_375 wd_377 wd_7 cy_X0_touch (by omega) (by decide) (Nat.le_of_ble_eq_true rfl) rfl ?_
  refine ax_aload_n (i := 3) dX0_admit_60 rfl rfl ?_
  exact ax_retr dX0_admit_61 h
def fn_X0_admit (a0 : Option Nat) (a1 : Int32) (a2 : Int32) (s : ax_S) : Option (Option Nat × ax_S) :=
  (ax_gi s 0 5 a0).bind fun x10 =>
  (ax_pi s 0 5 a0 (x10 + (1))).bind fun s11 =>
  (ax_gi s11 0 2 a0).bind fun x12 =>
  (ax_gi s11 0 3 a0).bind fun x13 =>
  if x12 < x13 then
    fb_X0_admit_25 a0 a1 a2 s11
  else
    (ax_sh s11 0 a0).bind fun w15 =>
    (fn_X0_dropOldest a0 s11).bind fun q16 =>
    fb_X0_admit_25 a0 a1 a2 q16
set_option maxRecDepth 100000 in
set_option maxHeartbeats 4000000 in
theorem tw_X0_admit {q : Option Nat × ax_S} {a0 : Option Nat} {a1 : Int32} {a2 : Int32} {s : ax_S} (h : fn_X0_admit a0 a1 a2 s = some q) : AW mm_X0_admit 3 0 0 0 [some (av_r a0), some (av_i a1), some (av_i a2), none] [] s (some (av_r q.1), q.2) := by
  unfold fn_X0_admit at h
  refine ax_aload_n (i := 0) dX0_admit_0 rfl rfl ?_
  refine ax_dup dX0_admit_1 trivial ?_
  obtain ⟨x10, gx10, h⟩ := Option.bind_eq_some_iff.mp h
  refine ax_getI (q := (RX0, TX0, 8)) (t := 0) (k := 5) dX0_admit_2 rfl (by decide) wd_140 rfl gx10 ?_
  refine ax_iconst (v := (1)) dX0_admit_5 rfl ?_
  refine ax_iadd dX0_admit_6 ?_
  obtain ⟨s11, gs11, h⟩ := Option.bind_eq_some_iff.mp h
  refine ax_putI (q := (RX0, TX0, 8)) (t := 0) (k := 5) dX0_admit_7 rfl (by decide) wd_140 rfl rfl ⟨rfl, rfl⟩ gs11 ?_
  refine ax_aload_n (i := 0) dX0_admit_10 rfl rfl ?_
  obtain ⟨x12, gx12, h⟩ := Option.bind_eq_some_iff.mp h
  refine ax_getI (q := (RX0, TX0, 8)) (t := 0) (k := 2) dX0_admit_11 rfl (by decide) wd_134 rfl gx12 ?_
  refine ax_aload_n (i := 0) dX0_admit_14 rfl rfl ?_
  obtain ⟨x13, gx13, h⟩ := Option.bind_eq_some_iff.mp h
  refine ax_getI (q := (RX0, TX0, 8)) (t := 0) (k := 3) dX0_admit_15 rfl (by decide) wd_136 rfl gx13 ?_
  refine ax_icmp_lt (tgt := 25) dX0_admit_18 (by decide) (fun c14 => ?_) (fun c14 => ?_)
  · rw [if_pos c14] at h
    exact ax_less (L' := [(some (av_r a0)), (some (av_i a1)), (some (av_i a2)), none]) ⟨rfl, rfl, rfl, trivial⟩ (tb_X0_admit_25  h)
  · rw [if_neg c14] at h
    refine ax_aload_n (i := 0) dX0_admit_21 rfl rfl ?_
    obtain ⟨w15, gw15, h⟩ := Option.bind_eq_some_iff.mp h
    obtain ⟨q16, gq16, h⟩ := Option.bind_eq_some_iff.mp h
    refine ax_cV (As := []) (t := 0) dX0_admit_22 gw15 (th_X0_dropOldest gq16) rfl (And.intro wd_374 wd_21) wd_371 wd_373 wd_6 cy_X0_dropOldest (by omega) (by decide) (Nat.le_of_ble_eq_true rfl) rfl ?_
    exact ax_less (L' := [(some (av_r a0)), (some (av_i a1)), (some (av_i a2)), none]) ⟨rfl, rfl, rfl, trivial⟩ (tb_X0_admit_25  h)
set_option maxRecDepth 100000 in
set_option maxHeartbeats 4000000 in
theorem th_X0_admit {q : Option Nat × ax_S} {a0 : Option Nat} {a1 : Int32} {a2 : Int32} {s : ax_S} (h : fn_X0_admit a0 a1 a2 s = some q) : AC mm_X0_admit yX0_admit 3 0 0 [av_r a0, av_i a1, av_i a2] s (some (av_r q.1), q.2) := by
  exact ax_met (L0 := [some (av_r a0), some (av_i a1), some (av_i a2), none]) (by decide +kernel) rfl (fun h => absurd h (by decide)) ⟨rfl, rfl, rfl, trivial⟩ (Nat.le_of_ble_eq_true rfl) trivial (tw_X0_admit h)
/-! X0_makeVoidInOne -/
abbrev mm_X0_makeVoidInOne : ax_M := (RX0, cX0_makeVoidInOne, (some .int), 11, false)
def fb_X0_makeVoidInOne_14 : Nat → Option Nat → Int32 → Int32 → Int32 → Int32 → Int32 → Int32 → Int32 → ax_S → Option (Int32 × ax_S)
  | 0, _, _, _, _, _, _, _, _, _ => none
  | n + 1, a0, a1, a2, a3, a4, a5, a6, a7, s =>
    if a7 < 0 then
      (ax_gi s 0 7 a0).bind fun x2 =>
      (ax_gi s 0 2 a0).bind fun x3 =>
      (ax_pi s 0 7 a0 (x2 + (a6 - x3))).bind fun s4 =>
      (ax_gi s4 0 2 a0).bind fun x5 =>
      some ((a6 - x5), s4)
    else
      (ax_gr s 0 0 a0).bind fun r6 =>
      (ax_ar s 13 r6 a7).bind fun r7 =>
      (ax_gi s 3 1 r7).bind fun x8 =>
      (fn_X9_isIn x8 a2 a3 s).bind fun q9 =>
      (ax_gi q9.2 3 1 r7).bind fun x10 =>
      (fn_X9_isIn x10 a4 a5 q9.2).bind fun q11 =>
      if q9.1 = q11.1 then
        (fb_X0_makeVoidInOne_14 n) a0 a1 a2 a3 a4 a5 a6 (a7 + (-1)) q11.2
      else
        (ax_gi q11.2 3 0 r7).bind fun x13 =>
        (fn_X9_contains a1 x13 q11.2).bind fun q14 =>
        if q14.1 = 0 then
          (fb_X0_makeVoidInOne_14 n) a0 a1 a2 a3 a4 a5 a6 (a7 + (-1)) q14.2
        else
          (ax_sh q14.2 0 a0).bind fun w16 =>
          (fn_X0_remove a0 a7 q14.2).bind fun q17 =>
          (fb_X0_makeVoidInOne_14 n) a0 a1 a2 a3 a4 a5 a6 (a7 + (-1)) q17
set_option maxRecDepth 100000 in
set_option maxHeartbeats 4000000 in
theorem tb_X0_makeVoidInOne_14 {q : Int32 × ax_S} : ∀ (n : Nat) (a0 : Option Nat) (a1 : Int32) (a2 : Int32) (a3 : Int32) (a4 : Int32) (a5 : Int32) (a6 : Int32) (a7 : Int32) (s : ax_S) (h : fb_X0_makeVoidInOne_14 n a0 a1 a2 a3 a4 a5 a6 a7 s = some q), AW mm_X0_makeVoidInOne 2 0 0 14 [(some (av_r a0)), (some (av_i a1)), (some (av_i a2)), (some (av_i a3)), (some (av_i a4)), (some (av_i a5)), (some (av_i a6)), (some (av_i a7)), none, none, none] [] s (some (av_i q.1), q.2) := by
  intro n
  induction n with
  | zero =>
    intro a0 a1 a2 a3 a4 a5 a6 a7 s h
    exact ax_no h
  | succ n ih =>
    intro a0 a1 a2 a3 a4 a5 a6 a7 s h
    unfold fb_X0_makeVoidInOne_14 at h
    refine ax_iload (i := 7) dX0_makeVoidInOne_14 rfl ?_
    refine ax_if_lt (tgt := 85) dX0_makeVoidInOne_16 (by decide) (fun c1 => ?_) (fun c1 => ?_)
    · rw [if_pos c1] at h
      refine ax_aload_n (i := 0) dX0_makeVoidInOne_85 rfl rfl ?_
      refine ax_dup dX0_makeVoidInOne_86 trivial ?_
      obtain ⟨x2, gx2, h⟩ := Option.bind_eq_some_iff.mp h
      refine ax_getI (q := (RX0, TX0, 8)) (t := 0) (k := 7) dX0_makeVoidInOne_87 rfl (by decide) wd_144 rfl gx2 ?_
      refine ax_iload (i := 6) dX0_makeVoidInOne_90 rfl ?_
      refine ax_aload_n (i := 0) dX0_makeVoidInOne_92 rfl rfl ?_
      obtain ⟨x3, gx3, h⟩ := Option.bind_eq_some_iff.mp h
      refine ax_getI (q := (RX0, TX0, 8)) (t := 0) (k := 2) dX0_makeVoidInOne_93 rfl (by decide) wd_134 rfl gx3 ?_
      refine ax_isub dX0_makeVoidInOne_96 ?_
      refine ax_iadd dX0_makeVoidInOne_97 ?_
      obtain ⟨s4, gs4, h⟩ := Option.bind_eq_some_iff.mp h
      refine ax_putI (q := (RX0, TX0, 8)) (t := 0) (k := 7) dX0_makeVoidInOne_98 rfl (by decide) wd_144 rfl rfl ⟨rfl, rfl⟩ gs4 ?_
      refine ax_iload (i := 6) dX0_makeVoidInOne_101 rfl ?_
      refine ax_aload_n (i := 0) dX0_makeVoidInOne_103 rfl rfl ?_
      obtain ⟨x5, gx5, h⟩ := Option.bind_eq_some_iff.mp h
      refine ax_getI (q := (RX0, TX0, 8)) (t := 0) (k := 2) dX0_makeVoidInOne_104 rfl (by decide) wd_134 rfl gx5 ?_
      refine ax_isub dX0_makeVoidInOne_107 ?_
      exact ax_reti dX0_makeVoidInOne_108 h
    · rw [if_neg c1] at h
      refine ax_aload_n (i := 0) dX0_makeVoidInOne_19 rfl rfl ?_
      obtain ⟨r6, gr6, h⟩ := Option.bind_eq_some_iff.mp h
      refine ax_getR (q := (RX0, TX0, 8)) (t := 0) (k := 0) dX0_makeVoidInOne_20 rfl (by decide) wd_132 rfl gr6 ?_
      refine ax_iload (i := 7) dX0_makeVoidInOne_23 rfl ?_
      obtain ⟨r7, gr7, h⟩ := Option.bind_eq_some_iff.mp h
      refine ax_aald (t := 13) (by decide) dX0_makeVoidInOne_25 gr7 ?_
      refine ax_astore (i := 8) (L2 := [some (av_r a0), some (av_i a1), some (av_i a2), some (av_i a3), some (av_i a4), some (av_i a5), some (av_i a6), some (av_i a7), some (av_r r7), none, none]) dX0_makeVoidInOne_26 (by decide) rfl rfl ?_
      refine ax_aload (i := 8) dX0_makeVoidInOne_28 rfl ?_
      obtain ⟨x8, gx8, h⟩ := Option.bind_eq_some_iff.mp h
      refine ax_getI (q := (RX5, TX5, 4)) (t := 3) (k := 1) dX0_makeVoidInOne_30 rfl (by decide) wd_119 rfl gx8 ?_
      refine ax_iload_n (i := 2) dX0_makeVoidInOne_33 rfl rfl ?_
      refine ax_iload_n (i := 3) dX0_makeVoidInOne_34 rfl rfl ?_
      obtain ⟨q9, gq9, h⟩ := Option.bind_eq_some_iff.mp h
      refine ax_cSN (As := [av_i x8, av_i a2, av_i a3]) dX0_makeVoidInOne_35 (th_X9_isIn gq9) (And.intro wd_259 wd_18) wn_310 wd_258 cy_X9_isIn (by omega) (by decide) (Nat.le_of_ble_eq_true rfl) rfl ?_
      refine ax_istore (i := 9) (L2 := [some (av_r a0), some (av_i a1), some (av_i a2), some (av_i a3), some (av_i a4), some (av_i a5), some (av_i a6), some (av_i a7), some (av_r r7), some (av_i q9.1), none]) dX0_makeVoidInOne_38 (by decide) rfl rfl ?_
      refine ax_aload (i := 8) dX0_makeVoidInOne_40 rfl ?_
      obtain ⟨x10, gx10, h⟩ := Option.bind_eq_some_iff.mp h
      refine ax_getI (q := (RX5, TX5, 4)) (t := 3) (k := 1) dX0_makeVoidInOne_42 rfl (by decide) wd_119 rfl gx10 ?_
      refine ax_iload (i := 4) dX0_makeVoidInOne_45 rfl ?_
      refine ax_iload (i := 5) dX0_makeVoidInOne_47 rfl ?_
      obtain ⟨q11, gq11, h⟩ := Option.bind_eq_some_iff.mp h
      refine ax_cSN (As := [av_i x10, av_i a4, av_i a5]) dX0_makeVoidInOne_49 (th_X9_isIn gq11) (And.intro wd_259 wd_18) wn_310 wd_258 cy_X9_isIn (by omega) (by decide) (Nat.le_of_ble_eq_true rfl) rfl ?_
      refine ax_istore (i := 10) (L2 := [some (av_r a0), some (av_i a1), some (av_i a2), some (av_i a3), some (av_i a4), some (av_i a5), some (av_i a6), some (av_i a7), some (av_r r7), some (av_i q9.1), some (av_i q11.1)]) dX0_makeVoidInOne_52 (by decide) rfl rfl ?_
      refine ax_iload (i := 9) dX0_makeVoidInOne_54 rfl ?_
      refine ax_iload (i := 10) dX0_makeVoidInOne_56 rfl ?_
      refine ax_icmp_eq (tgt := 79) dX0_makeVoidInOne_58 (by decide) (fun c12 => ?_) (fun c12 => ?_)
      · rw [if_pos c12] at h
        refine ax_iinc (i := 7) (v := (a7 + (-1))) (L2 := [some (av_r a0), some (av_i a1), some (av_i a2), some (av_i a3), some (av_i a4), some (av_i a5), some (av_i a6), some (av_i (a7 + (-1))), some (av_r r7), some (av_i q9.1), some (av_i q11.1)]) dX0_makeVoidInOne_79 rfl rfl (by decide) rfl rfl ?_
        refine ax_goto (tgt := 14) dX0_makeVoidInOne_82 (by decide) ?_
        exact ax_less (L' := [(some (av_r a0)), (some (av_i a1)), (some (av_i a2)), (some (av_i a3)), (some (av_i a4)), (some (av_i a5)), (some (av_i a6)), (some (av_i (a7 + (-1)))), none, none, none]) ⟨rfl, rfl, rfl, rfl, rfl, rfl, rfl, rfl, trivial⟩ (ih _ _ _ _ _ _ _ _ _ h)
      · rw [if_neg c12] at h
        refine ax_iload_n (i := 1) dX0_makeVoidInOne_61 rfl rfl ?_
        refine ax_aload (i := 8) dX0_makeVoidInOne_62 rfl ?_
        obtain ⟨x13, gx13, h⟩ := Option.bind_eq_some_iff.mp h
        refine ax_getI (q := (RX5, TX5, 4)) (t := 3) (k := 0) dX0_makeVoidInOne_64 rfl (by decide) wd_118 rfl gx13 ?_
        obtain ⟨q14, gq14, h⟩ := Option.bind_eq_some_iff.mp h
        refine ax_cSN (As := [av_i a1, av_i x13]) dX0_makeVoidInOne_67 (th_X9_contains gq14) (And.intro wd_279 wd_18) wn_311 wd_278 cy_X9_contains (by omega) (by decide) (Nat.le_of_ble_eq_true rfl) rfl ?_
        refine ax_if_eq (tgt := 79) dX0_makeVoidInOne_70 (by decide) (fun c15 => ?_) (fun c15 => ?_)
        · rw [if_pos c15] at h
          refine ax_iinc (i := 7) (v := (a7 + (-1))) (L2 := [some (av_r a0), some (av_i a1), some (av_i a2), some (av_i a3), some (av_i a4), some (av_i a5), some (av_i a6), some (av_i (a7 + (-1))), some (av_r r7), some (av_i q9.1), some (av_i q11.1)]) dX0_makeVoidInOne_79 rfl rfl (by decide) rfl rfl ?_
          refine ax_goto (tgt := 14) dX0_makeVoidInOne_82 (by decide) ?_
          exact ax_less (L' := [(some (av_r a0)), (some (av_i a1)), (some (av_i a2)), (some (av_i a3)), (some (av_i a4)), (some (av_i a5)), (some (av_i a6)), (some (av_i (a7 + (-1)))), none, none, none]) ⟨rfl, rfl, rfl, rfl, rfl, rfl, rfl, rfl, trivial⟩ (ih _ _ _ _ _ _ _ _ _ h)
        · rw [if_neg c15] at h
          refine ax_aload_n (i := 0) dX0_makeVoidInOne_73 rfl rfl ?_
          refine ax_iload (i := 7) dX0_makeVoidInOne_74 rfl ?_
          obtain ⟨w16, gw16, h⟩ := Option.bind_eq_some_iff.mp h
          obtain ⟨q17, gq17, h⟩ := Option.bind_eq_some_iff.mp h
          refine ax_cV (As := [av_i a7]) (t := 0) dX0_makeVoidInOne_76 gw16 (th_X0_remove gq17) rfl (And.intro wd_315 wd_21) wd_312 wd_314 wd_3 cy_X0_remove (by omega) (by decide) (Nat.le_of_ble_eq_true rfl) rfl ?_
          refine ax_iinc (i := 7) (v := (a7 + (-1))) (L2 := [some (av_r a0), some (av_i a1), some (av_i a2), some (av_i a3), some (av_i a4), some (av_i a5), some (av_i a6), some (av_i (a7 + (-1))), some (av_r r7), some (av_i q9.1), some (av_i q11.1)]) dX0_makeVoidInOne_79 rfl rfl (by decide) rfl rfl ?_
          refine ax_goto (tgt := 14) dX0_makeVoidInOne_82 (by decide) ?_
          exact ax_less (L' := [(some (av_r a0)), (some (av_i a1)), (some (av_i a2)), (some (av_i a3)), (some (av_i a4)), (some (av_i a5)), (some (av_i a6)), (some (av_i (a7 + (-1)))), none, none, none]) ⟨rfl, rfl, rfl, rfl, rfl, rfl, rfl, rfl, trivial⟩ (ih _ _ _ _ _ _ _ _ _ h)
def fn_X0_makeVoidInOne (a0 : Option Nat) (a1 : Int32) (a2 : Int32) (a3 : Int32) (a4 : Int32) (a5 : Int32) (s : ax_S) : Option (Int32 × ax_S) :=
  (ax_gi s 0 2 a0).bind fun x18 =>
  (ax_gi s 0 2 a0).bind fun x19 =>
  ax_bd ((x19 - (1))) fun v20 =>
  fb_X0_makeVoidInOne_14 10000 a0 a1 a2 a3 a4 a5 x18 v20 s
set_option maxRecDepth 100000 in
set_option maxHeartbeats 4000000 in
theorem tw_X0_makeVoidInOne {q : Int32 × ax_S} {a0 : Option Nat} {a1 : Int32} {a2 : Int32} {a3 : Int32} {a4 : Int32} {a5 : Int32} {s : ax_S} (h : fn_X0_makeVoidInOne a0 a1 a2 a3 a4 a5 s = some q) : AW mm_X0_makeVoidInOne 2 0 0 0 [some (av_r a0), some (av_i a1), some (av_i a2), some (av_i a3), some (av_i a4), some (av_i a5), none, none, none, none, none] [] s (some (av_i q.1), q.2) := by
  unfold fn_X0_makeVoidInOne at h
  refine ax_aload_n (i := 0) dX0_makeVoidInOne_0 rfl rfl ?_
  obtain ⟨x18, gx18, h⟩ := Option.bind_eq_some_iff.mp h
  refine ax_getI (q := (RX0, TX0, 8)) (t := 0) (k := 2) dX0_makeVoidInOne_1 rfl (by decide) wd_134 rfl gx18 ?_
  refine ax_istore (i := 6) (L2 := [some (av_r a0), some (av_i a1), some (av_i a2), some (av_i a3), some (av_i a4), some (av_i a5), some (av_i x18), none, none, none, none]) dX0_makeVoidInOne_4 (by decide) rfl rfl ?_
  refine ax_aload_n (i := 0) dX0_makeVoidInOne_6 rfl rfl ?_
  obtain ⟨x19, gx19, h⟩ := Option.bind_eq_some_iff.mp h
  refine ax_getI (q := (RX0, TX0, 8)) (t := 0) (k := 2) dX0_makeVoidInOne_7 rfl (by decide) wd_134 rfl gx19 ?_
  refine ax_iconst (v := (1)) dX0_makeVoidInOne_10 rfl ?_
  refine ax_isub dX0_makeVoidInOne_11 ?_
  refine ax_bdI h (fun v20 h => ?_)
  refine ax_istore (i := 7) (L2 := [some (av_r a0), some (av_i a1), some (av_i a2), some (av_i a3), some (av_i a4), some (av_i a5), some (av_i x18), some (av_i v20), none, none, none]) dX0_makeVoidInOne_12 (by decide) rfl rfl ?_
  exact ax_less (L' := [(some (av_r a0)), (some (av_i a1)), (some (av_i a2)), (some (av_i a3)), (some (av_i a4)), (some (av_i a5)), (some (av_i x18)), (some (av_i v20)), none, none, none]) ⟨rfl, rfl, rfl, rfl, rfl, rfl, rfl, rfl, trivial⟩ (tb_X0_makeVoidInOne_14  _ _ _ _ _ _ _ _ _ _ h)
set_option maxRecDepth 100000 in
set_option maxHeartbeats 4000000 in
theorem th_X0_makeVoidInOne {q : Int32 × ax_S} {a0 : Option Nat} {a1 : Int32} {a2 : Int32} {a3 : Int32} {a4 : Int32} {a5 : Int32} {s : ax_S} (h : fn_X0_makeVoidInOne a0 a1 a2 a3 a4 a5 s = some q) : AC mm_X0_makeVoidInOne yX0_makeVoidInOne 2 0 0 [av_r a0, av_i a1, av_i a2, av_i a3, av_i a4, av_i a5] s (some (av_i q.1), q.2) := by
  exact ax_met (L0 := [some (av_r a0), some (av_i a1), some (av_i a2), some (av_i a3), some (av_i a4), some (av_i a5), none, none, none, none, none]) (by decide +kernel) rfl (fun h => absurd h (by decide)) ⟨rfl, rfl, rfl, rfl, rfl, rfl, trivial⟩ (Nat.le_of_ble_eq_true rfl) trivial (tw_X0_makeVoidInOne h)
/-! X0_makeVoid -/
abbrev mm_X0_makeVoid : ax_M := (RX0, cX0_makeVoid, (some .int), 4, false)
def fn_X0_makeVoid (a0 : Option Nat) (a1 : Int32) (a2 : Int32) (a3 : Int32) (s : ax_S) : Option (Int32 × ax_S) :=
  (ax_sh s 0 a0).bind fun w1 =>
  (fn_X0_makeVoidInOne a0 a1 a2 a3 (1) (0) s).bind fun q2 =>
  some (q2.1, q2.2)
set_option maxRecDepth 100000 in
set_option maxHeartbeats 4000000 in
theorem tw_X0_makeVoid {q : Int32 × ax_S} {a0 : Option Nat} {a1 : Int32} {a2 : Int32} {a3 : Int32} {s : ax_S} (h : fn_X0_makeVoid a0 a1 a2 a3 s = some q) : AW mm_X0_makeVoid 3 0 0 0 [some (av_r a0), some (av_i a1), some (av_i a2), some (av_i a3)] [] s (some (av_i q.1), q.2) := by
  unfold fn_X0_makeVoid at h
  refine ax_aload_n (i := 0) dX0_makeVoid_0 rfl rfl ?_
  refine ax_iload_n (i := 1) dX0_makeVoid_1 rfl rfl ?_
  refine ax_iload_n (i := 2) dX0_makeVoid_2 rfl rfl ?_
  refine ax_iload_n (i := 3) dX0_makeVoid_3 rfl rfl ?_
  refine ax_iconst (v := (1)) dX0_makeVoid_4 rfl ?_
  refine ax_iconst (v := (0)) dX0_makeVoid_5 rfl ?_
  obtain ⟨w1, gw1, h⟩ := Option.bind_eq_some_iff.mp h
  obtain ⟨q2, gq2, h⟩ := Option.bind_eq_some_iff.mp h
  refine ax_cV (As := [av_i a1, av_i a2, av_i a3, av_i (1), av_i (0)]) (t := 0) dX0_makeVoid_6 gw1 (th_X0_makeVoidInOne gq2) rfl (And.intro wd_309 wd_21) wd_306 wd_307 wd_308 cy_X0_makeVoidInOne (by omega) (by decide) (Nat.le_of_ble_eq_true rfl) rfl ?_
  exact ax_reti dX0_makeVoid_9 h
set_option maxRecDepth 100000 in
set_option maxHeartbeats 4000000 in
theorem th_X0_makeVoid {q : Int32 × ax_S} {a0 : Option Nat} {a1 : Int32} {a2 : Int32} {a3 : Int32} {s : ax_S} (h : fn_X0_makeVoid a0 a1 a2 a3 s = some q) : AC mm_X0_makeVoid yX0_makeVoid 3 0 0 [av_r a0, av_i a1, av_i a2, av_i a3] s (some (av_i q.1), q.2) := by
  exact ax_met (L0 := [some (av_r a0), some (av_i a1), some (av_i a2), some (av_i a3)]) (by decide +kernel) rfl (fun h => absurd h (by decide)) ⟨rfl, rfl, rfl, rfl, trivial⟩ (Nat.le_of_ble_eq_true rfl) trivial (tw_X0_makeVoid h)
/-! X0_empty -/
abbrev mm_X0_empty : ax_M := (RX0, cX0_empty, none, 1, false)
def fn_X0_empty (a0 : Option Nat) (s : ax_S) : Option (ax_S) :=
  (ax_pi s 0 2 a0 (0)).bind fun s1 =>
  some s1
set_option maxRecDepth 100000 in
set_option maxHeartbeats 4000000 in
theorem tw_X0_empty {q : ax_S} {a0 : Option Nat} {s : ax_S} (h : fn_X0_empty a0 s = some q) : AW mm_X0_empty 0 0 0 0 [some (av_r a0)] [] s (none, q) := by
  unfold fn_X0_empty at h
  refine ax_aload_n (i := 0) dX0_empty_0 rfl rfl ?_
  refine ax_iconst (v := (0)) dX0_empty_1 rfl ?_
  obtain ⟨s1, gs1, h⟩ := Option.bind_eq_some_iff.mp h
  refine ax_putI (q := (RX0, TX0, 8)) (t := 0) (k := 2) dX0_empty_2 rfl (by decide) wd_134 rfl rfl ⟨rfl, rfl⟩ gs1 ?_
  exact ax_retv dX0_empty_5 h
set_option maxRecDepth 100000 in
set_option maxHeartbeats 4000000 in
theorem th_X0_empty {q : ax_S} {a0 : Option Nat} {s : ax_S} (h : fn_X0_empty a0 s = some q) : AC mm_X0_empty yX0_empty 0 0 0 [av_r a0] s (none, q) := by
  exact ax_met (L0 := [some (av_r a0)]) (by decide +kernel) rfl (fun h => absurd h (by decide)) ⟨rfl, trivial⟩ (Nat.le_of_ble_eq_true rfl) trivial (tw_X0_empty h)
/-! X0_changeRoom -/
abbrev mm_X0_changeRoom : ax_M := (RX0, cX0_changeRoom, none, 3, false)
def fb_X0_changeRoom_12 : Nat → Option Nat → Int32 → ax_S → Option (ax_S)
  | 0, _, _, _ => none
  | n + 1, a0, a2, s =>
    if a2 ≤ 0 then
      some s
    else
      (ax_sh s 0 a0).bind fun w2 =>
      (fn_X0_dropOldest a0 s).bind fun q3 =>
      (fb_X0_changeRoom_12 n) a0 (a2 + (-1)) q3
set_option maxRecDepth 100000 in
set_option maxHeartbeats 4000000 in
theorem tb_X0_changeRoom_12 {q : ax_S} : ∀ (n : Nat) (a0 : Option Nat) (a2 : Int32) (s : ax_S) (h : fb_X0_changeRoom_12 n a0 a2 s = some q), AW mm_X0_changeRoom 3 0 0 12 [(some (av_r a0)), none, (some (av_i a2))] [] s (none, q) := by
  intro n
  induction n with
  | zero =>
    intro a0 a2 s h
    exact ax_no h
  | succ n ih =>
    intro a0 a2 s h
    unfold fb_X0_changeRoom_12 at h
    refine ax_iload_n (i := 2) dX0_changeRoom_12 rfl rfl ?_
    refine ax_if_le (tgt := 26) dX0_changeRoom_13 (by decide) (fun c1 => ?_) (fun c1 => ?_)
    · rw [if_pos c1] at h
      exact ax_retv dX0_changeRoom_26 h
    · rw [if_neg c1] at h
      refine ax_aload_n (i := 0) dX0_changeRoom_16 rfl rfl ?_
      obtain ⟨w2, gw2, h⟩ := Option.bind_eq_some_iff.mp h
      obtain ⟨q3, gq3, h⟩ := Option.bind_eq_some_iff.mp h
      refine ax_cV (As := []) (t := 0) dX0_changeRoom_17 gw2 (th_X0_dropOldest gq3) rfl (And.intro wd_374 wd_21) wd_371 wd_373 wd_6 cy_X0_dropOldest (by omega) (by decide) (Nat.le_of_ble_eq_true rfl) rfl ?_
      refine ax_iinc (i := 2) (v := (a2 + (-1))) (L2 := [some (av_r a0), none, some (av_i (a2 + (-1)))]) dX0_changeRoom_20 rfl rfl (by decide) rfl rfl ?_
      refine ax_goto (tgt := 12) dX0_changeRoom_23 (by decide) ?_
      exact ax_less (L' := [(some (av_r a0)), none, (some (av_i (a2 + (-1))))]) ⟨rfl, rfl, trivial⟩ (ih _ _ _ h)
def fn_X0_changeRoom (a0 : Option Nat) (a1 : Int32) (s : ax_S) : Option (ax_S) :=
  (ax_pi s 0 3 a0 a1).bind fun s4 =>
  (ax_gi s4 0 2 a0).bind fun x5 =>
  ax_bd ((x5 - a1)) fun v6 =>
  fb_X0_changeRoom_12 10000 a0 v6 s4
set_option maxRecDepth 100000 in
set_option maxHeartbeats 4000000 in
theorem tw_X0_changeRoom {q : ax_S} {a0 : Option Nat} {a1 : Int32} {s : ax_S} (h : fn_X0_changeRoom a0 a1 s = some q) : AW mm_X0_changeRoom 3 0 0 0 [some (av_r a0), some (av_i a1), none] [] s (none, q) := by
  unfold fn_X0_changeRoom at h
  refine ax_aload_n (i := 0) dX0_changeRoom_0 rfl rfl ?_
  refine ax_iload_n (i := 1) dX0_changeRoom_1 rfl rfl ?_
  obtain ⟨s4, gs4, h⟩ := Option.bind_eq_some_iff.mp h
  refine ax_putI (q := (RX0, TX0, 8)) (t := 0) (k := 3) dX0_changeRoom_2 rfl (by decide) wd_136 rfl rfl ⟨rfl, rfl⟩ gs4 ?_
  refine ax_aload_n (i := 0) dX0_changeRoom_5 rfl rfl ?_
  obtain ⟨x5, gx5, h⟩ := Option.bind_eq_some_iff.mp h
  refine ax_getI (q := (RX0, TX0, 8)) (t := 0) (k := 2) dX0_changeRoom_6 rfl (by decide) wd_134 rfl gx5 ?_
  refine ax_iload_n (i := 1) dX0_changeRoom_9 rfl rfl ?_
  refine ax_isub dX0_changeRoom_10 ?_
  refine ax_bdI h (fun v6 h => ?_)
  refine ax_istore_n (i := 2) (L2 := [some (av_r a0), some (av_i a1), some (av_i v6)]) dX0_changeRoom_11 rfl (by decide) rfl rfl ?_
  exact ax_less (L' := [(some (av_r a0)), none, (some (av_i v6))]) ⟨rfl, rfl, trivial⟩ (tb_X0_changeRoom_12  _ _ _ _ h)
set_option maxRecDepth 100000 in
set_option maxHeartbeats 4000000 in
theorem th_X0_changeRoom {q : ax_S} {a0 : Option Nat} {a1 : Int32} {s : ax_S} (h : fn_X0_changeRoom a0 a1 s = some q) : AC mm_X0_changeRoom yX0_changeRoom 3 0 0 [av_r a0, av_i a1] s (none, q) := by
  exact ax_met (L0 := [some (av_r a0), some (av_i a1), none]) (by decide +kernel) rfl (fun h => absurd h (by decide)) ⟨rfl, rfl, trivial⟩ (Nat.le_of_ble_eq_true rfl) trivial (tw_X0_changeRoom h)
/-! X5_init -/
abbrev mm_X5_init : ax_M := (RX5, cX5_init, none, 1, true)
def fn_X5_init (a0 : Option Nat) (s : ax_S) : Option (ax_S) :=
  (ax_sh s 3 a0).bind fun w1 =>
  ax_bd (ax_nw s 9 96) fun s2 =>
  ax_bd (some s.1.length) fun r3 =>
  (ax_pr s2 3 3 a0 r3).bind fun s4 =>
  some s4
set_option maxRecDepth 100000 in
set_option maxHeartbeats 4000000 in
theorem tw_X5_init {q : ax_S} {a0 : Option Nat} {s : ax_S} (h : fn_X5_init a0 s = some q) : AW mm_X5_init 1 1 96 0 [some (av_r a0)] [] s (none, q) := by
  unfold fn_X5_init at h
  refine ax_aload_n (i := 0) dX5_init_0 rfl rfl ?_
  obtain ⟨w1, gw1, h⟩ := Option.bind_eq_some_iff.mp h
  refine ax_cO dX5_init_1 gw1 wd_117 wd_42 wd_43 (by omega) (Nat.le_of_ble_eq_true rfl) ?_
  refine ax_aload_n (i := 0) dX5_init_4 rfl rfl ?_
  refine ax_bipush (v := (96)) dX5_init_5 rfl ?_
  refine ax_newA (t := 9) (n := 96) (bc := 0) (bs := 0) dX5_init_7 (by decide) rfl wd_84 (by decide) (by decide) (by decide) ?_
  refine ax_bdS h (fun s2 h => ?_)
  refine ax_bdR h (fun r3 h => ?_)
  obtain ⟨s4, gs4, h⟩ := Option.bind_eq_some_iff.mp h
  refine ax_putRF (q := (RX5, TX5, 4)) (t := 3) (k := 3) dX5_init_9 rfl (by decide) wd_121 rfl rfl rfl rfl (fun w => by cases w <;> exact ⟨rfl, rfl⟩) gs4 ?_
  exact ax_retv dX5_init_12 h
set_option maxRecDepth 100000 in
set_option maxHeartbeats 4000000 in
theorem th_X5_init {q : ax_S} {a0 : Option Nat} {s : ax_S} (h : fn_X5_init a0 s = some q) : AC mm_X5_init yX5_init 1 1 96 [av_r a0] s (none, q) := by
  exact ax_met (L0 := [some (av_r a0)]) (by decide +kernel) rfl (fun _ => rfl) ⟨rfl, trivial⟩ (Nat.le_of_ble_eq_true rfl) trivial (tw_X5_init h)
/-! X0_init -/
abbrev mm_X0_init : ax_M := (RX0, cX0_init, none, 2, true)
def fb_X0_init_21 : Nat → Option Nat → Int32 → ax_S → Option (ax_S)
  | 0, _, _, _ => none
  | n + 1, a0, a1, s =>
    if (48) ≤ a1 then
      some s
    else
      (ax_gr s 0 0 a0).bind fun r2 =>
      ax_bd (ax_nw s 3 4) fun s3 =>
      ax_bd (some s.1.length) fun r4 =>
      (ax_sh s3 3 r4).bind fun w5 =>
      (fn_X5_init r4 s3).bind fun q6 =>
      (ax_aw q6 13 r2 a1 r4).bind fun s7 =>
      (fb_X0_init_21 n) a0 (a1 + (1)) s7
set_option maxRecDepth 100000 in
set_option maxHeartbeats 4000000 in
theorem tb_X0_init_21 {q : ax_S} : ∀ (n : Nat) (a0 : Option Nat) (a1 : Int32) (s : ax_S) (h : fb_X0_init_21 n a0 a1 s = some q), AW mm_X0_init 2 (n * 2) (n * 100) 21 [(some (av_r a0)), (some (av_i a1))] [] s (none, q) := by
  intro n
  induction n with
  | zero =>
    intro a0 a1 s h
    exact ax_no h
  | succ n ih =>
    intro a0 a1 s h
    unfold fb_X0_init_21 at h
    refine ax_wide (bc2 := n * 2 + 2) (bs2 := n * 100 + 100) (by rw [Nat.succ_mul]; exact Nat.le_refl _) (by rw [Nat.succ_mul]; exact Nat.le_refl _) ?_
    refine ax_iload_n (i := 1) dX0_init_21 rfl rfl ?_
    refine ax_bipush (v := (48)) dX0_init_22 rfl ?_
    refine ax_icmp_ge (tgt := 46) dX0_init_24 (by decide) (fun c1 => ?_) (fun c1 => ?_)
    · rw [if_pos c1] at h
      exact ax_retv dX0_init_46 h
    · rw [if_neg c1] at h
      refine ax_aload_n (i := 0) dX0_init_27 rfl rfl ?_
      obtain ⟨r2, gr2, h⟩ := Option.bind_eq_some_iff.mp h
      refine ax_getR (q := (RX0, TX0, 8)) (t := 0) (k := 0) dX0_init_28 rfl (by decide) wd_132 rfl gr2 ?_
      refine ax_iload_n (i := 1) dX0_init_31 rfl rfl ?_
      refine ax_newO (t := 3) (q := (RX5, TX5, 4)) (bc := n * 2 + 1) (bs := n * 100 + 96) dX0_init_32 rfl wd_111 wd_113 wd_22 (by decide +kernel) ?_
      refine ax_bdS h (fun s3 h => ?_)
      refine ax_bdR h (fun r4 h => ?_)
      refine ax_dup dX0_init_35 trivial ?_
      obtain ⟨w5, gw5, h⟩ := Option.bind_eq_some_iff.mp h
      obtain ⟨q6, gq6, h⟩ := Option.bind_eq_some_iff.mp h
      refine ax_cIN (As := []) (t := 3) (bc := n * 2 + 0) (bs := n * 100 + 0) (kc := 1) (ks := 96) dX0_init_36 gw5 (th_X5_init gq6) rfl rfl (And.intro wd_116 wd_22) wn_114 wd_115 cy_X5_init (by omega) (by decide) (Nat.le_of_ble_eq_true rfl) rfl ?_
      obtain ⟨s7, gs7, h⟩ := Option.bind_eq_some_iff.mp h
      refine ax_aast (t := 13) (by decide) rfl dX0_init_39 gs7 ?_
      refine ax_iinc (i := 1) (v := (a1 + (1))) (L2 := [some (av_r a0), some (av_i (a1 + (1)))]) dX0_init_40 rfl rfl (by decide) rfl rfl ?_
      refine ax_goto (tgt := 21) dX0_init_43 (by decide) ?_
      refine ax_wide (bc2 := n * 2) (bs2 := n * 100) (by omega) (by omega) ?_
      exact ax_less (L' := [(some (av_r a0)), (some (av_i (a1 + (1))))]) ⟨rfl, rfl, trivial⟩ (ih _ _ _ h)
def fn_X0_init (a0 : Option Nat) (s : ax_S) : Option (ax_S) :=
  (ax_sh s 0 a0).bind fun w8 =>
  ax_bd (ax_nw s 13 48) fun s9 =>
  ax_bd (some s.1.length) fun r10 =>
  (ax_pr s9 0 0 a0 r10).bind fun s11 =>
  (ax_pi s11 0 3 a0 (16)).bind fun s12 =>
  fb_X0_init_21 60 a0 (0) s12
set_option maxRecDepth 100000 in
set_option maxHeartbeats 4000000 in
theorem tw_X0_init {q : ax_S} {a0 : Option Nat} {s : ax_S} (h : fn_X0_init a0 s = some q) : AW mm_X0_init 2 121 6048 0 [some (av_r a0), none] [] s (none, q) := by
  unfold fn_X0_init at h
  refine ax_aload_n (i := 0) dX0_init_0 rfl rfl ?_
  obtain ⟨w8, gw8, h⟩ := Option.bind_eq_some_iff.mp h
  refine ax_cO dX0_init_1 gw8 wd_110 wd_42 wd_43 (by omega) (Nat.le_of_ble_eq_true rfl) ?_
  refine ax_aload_n (i := 0) dX0_init_4 rfl rfl ?_
  refine ax_bipush (v := (48)) dX0_init_5 rfl ?_
  refine ax_newR (t := 13) (n := 48) (bc := 120) (bs := 6000) dX0_init_7 (by decide) rfl wd_111 (by decide) (by decide) (by decide) (by decide) ?_
  refine ax_bdS h (fun s9 h => ?_)
  refine ax_bdR h (fun r10 h => ?_)
  obtain ⟨s11, gs11, h⟩ := Option.bind_eq_some_iff.mp h
  refine ax_putRF (q := (RX0, TX0, 8)) (t := 0) (k := 0) dX0_init_10 rfl (by decide) wd_132 rfl rfl rfl rfl (fun w => by cases w <;> exact ⟨rfl, rfl⟩) gs11 ?_
  refine ax_aload_n (i := 0) dX0_init_13 rfl rfl ?_
  refine ax_bipush (v := (16)) dX0_init_14 rfl ?_
  obtain ⟨s12, gs12, h⟩ := Option.bind_eq_some_iff.mp h
  refine ax_putI (q := (RX0, TX0, 8)) (t := 0) (k := 3) dX0_init_16 rfl (by decide) wd_136 rfl rfl ⟨rfl, rfl⟩ gs12 ?_
  refine ax_iconst (v := (0)) dX0_init_19 rfl ?_
  refine ax_istore_n (i := 1) (L2 := [some (av_r a0), some (av_i (0))]) dX0_init_20 rfl (by decide) rfl rfl ?_
  refine ax_wide (bc2 := 120) (bs2 := 6000) (by omega) (by omega) ?_
  exact ax_less (L' := [(some (av_r a0)), (some (av_i (0)))]) ⟨rfl, rfl, trivial⟩ (tb_X0_init_21  _ _ _ _ h)
set_option maxRecDepth 100000 in
set_option maxHeartbeats 4000000 in
theorem th_X0_init {q : ax_S} {a0 : Option Nat} {s : ax_S} (h : fn_X0_init a0 s = some q) : AC mm_X0_init yX0_init 2 121 6048 [av_r a0] s (none, q) := by
  exact ax_met (L0 := [some (av_r a0), none]) (by decide +kernel) rfl (fun _ => rfl) ⟨rfl, trivial⟩ (Nat.le_of_ble_eq_true rfl) trivial (tw_X0_init h)
