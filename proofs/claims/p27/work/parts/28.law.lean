/-! L_law -/
abbrev mm_L_law : ax_M := (RL, cL_law, (some .boolean), 14, false)
def fb_L_law_699 (a1 : Option Nat) (a6 : Int32) (b0 : Int32) (s : ax_S) : Option (Int32 × ax_S) :=
  (ax_sh s 6 a1).bind fun w1 =>
  (fn_X9_checksum a1 s).bind fun q2 =>
  if b0 = 0 then
    some ((0 : Int32), q2.2)
  else
    (ax_sh q2.2 6 a1).bind fun w4 =>
    (fn_X9_save a1 (1 : Int32) q2.2).bind fun q5 =>
    if q5.1 = a6 then
      (ax_sh q5.2 6 a1).bind fun w7 =>
      (fn_X9_clear a1 q5.2).bind fun q8 =>
      if q8.1 = a6 then
        (ax_sh q8.2 6 a1).bind fun w10 =>
        (fn_X9_restore a1 (1 : Int32) q8.2).bind fun q11 =>
        if q11.1 = a6 then
          (ax_sh q11.2 6 a1).bind fun w13 =>
          (fn_X9_checksum a1 q11.2).bind fun q14 =>
          if (lg_cmp q14.1 q2.1) = 0 then
            some ((1 : Int32), q14.2)
          else
            some ((0 : Int32), q14.2)
        else
          some ((0 : Int32), q11.2)
      else
        some ((0 : Int32), q8.2)
    else
      some ((0 : Int32), q5.2)
set_option maxRecDepth 100000 in
set_option maxHeartbeats 4000000 in
theorem tb_L_law_699 {q : Int32 × ax_S} {a1 : Option Nat} {a6 : Int32} {b0 : Int32} {s : ax_S} (h : fb_L_law_699 a1 a6 b0 s = some q) : AW mm_L_law 73 0 0 699 [none, (some (av_r a1)), none, none, none, none, (some (av_i a6)), none, none, none, none, none, none, none] [av_i b0] s (some (av_i q.1), q.2) := by
  unfold fb_L_law_699 at h
  refine ax_istore (i := 7) (L2 := [none, some (av_r a1), none, none, none, none, some (av_i a6), some (av_i b0), none, none, none, none, none, none]) dL_law_699 (by decide) rfl rfl ?_
  refine ax_aload_n (i := 1) dL_law_701 rfl rfl ?_
  obtain ⟨w1, gw1, h⟩ := Option.bind_eq_some_iff.mp h
  obtain ⟨q2, gq2, h⟩ := Option.bind_eq_some_iff.mp h
  refine ax_cV (As := []) (t := 6) dL_law_702 gw1 (th_X9_checksum gq2) rfl (And.intro wd_605 wd_18) wd_602 wd_603 wd_604 cy_X9_checksum (by omega) (by decide) (Nat.le_of_ble_eq_true rfl) rfl ?_
  refine ax_lstore (i := 8) (L2 := [none, some (av_r a1), none, none, none, none, some (av_i a6), some (av_i b0), some (av_l q2.1), none, none, none, none, none]) dL_law_705 (by decide) rfl rfl ?_
  refine ax_iload (i := 7) dL_law_707 rfl ?_
  refine ax_if_eq (tgt := 755) dL_law_709 (by decide) (fun c3 => ?_) (fun c3 => ?_)
  · rw [if_pos c3] at h
    refine ax_iconst (v := (0 : Int32)) dL_law_755 rfl ?_
    exact ax_reti dL_law_756 h
  · rw [if_neg c3] at h
    refine ax_aload_n (i := 1) dL_law_712 rfl rfl ?_
    refine ax_iconst (v := (1 : Int32)) dL_law_713 rfl ?_
    obtain ⟨w4, gw4, h⟩ := Option.bind_eq_some_iff.mp h
    obtain ⟨q5, gq5, h⟩ := Option.bind_eq_some_iff.mp h
    refine ax_cV (As := [av_i (1 : Int32)]) (t := 6) dL_law_714 gw4 (th_X9_save gq5) rfl (And.intro wd_592 wd_18) wd_589 wd_590 wd_591 cy_X9_save (by omega) (by decide) (Nat.le_of_ble_eq_true rfl) rfl ?_
    refine ax_iload (i := 6) dL_law_717 rfl ?_
    refine ax_icmp_ne (tgt := 755) dL_law_719 (by decide) (fun c6 => ?_) (fun c6 => ?_)
    · rw [if_neg c6] at h
      refine ax_iconst (v := (0 : Int32)) dL_law_755 rfl ?_
      exact ax_reti dL_law_756 h
    · rw [if_pos c6] at h
      refine ax_aload_n (i := 1) dL_law_722 rfl rfl ?_
      obtain ⟨w7, gw7, h⟩ := Option.bind_eq_some_iff.mp h
      obtain ⟨q8, gq8, h⟩ := Option.bind_eq_some_iff.mp h
      refine ax_cV (As := []) (t := 6) dL_law_723 gw7 (th_X9_clear gq8) rfl (And.intro wd_236 wd_18) wd_233 wd_234 wd_235 cy_X9_clear (by omega) (by decide) (Nat.le_of_ble_eq_true rfl) rfl ?_
      refine ax_iload (i := 6) dL_law_726 rfl ?_
      refine ax_icmp_ne (tgt := 755) dL_law_728 (by decide) (fun c9 => ?_) (fun c9 => ?_)
      · rw [if_neg c9] at h
        refine ax_iconst (v := (0 : Int32)) dL_law_755 rfl ?_
        exact ax_reti dL_law_756 h
      · rw [if_pos c9] at h
        refine ax_aload_n (i := 1) dL_law_731 rfl rfl ?_
        refine ax_iconst (v := (1 : Int32)) dL_law_732 rfl ?_
        obtain ⟨w10, gw10, h⟩ := Option.bind_eq_some_iff.mp h
        obtain ⟨q11, gq11, h⟩ := Option.bind_eq_some_iff.mp h
        refine ax_cV (As := [av_i (1 : Int32)]) (t := 6) dL_law_733 gw10 (th_X9_restore gq11) rfl (And.intro wd_601 wd_18) wd_598 wd_599 wd_600 cy_X9_restore (by omega) (by decide) (Nat.le_of_ble_eq_true rfl) rfl ?_
        refine ax_iload (i := 6) dL_law_736 rfl ?_
        refine ax_icmp_ne (tgt := 755) dL_law_738 (by decide) (fun c12 => ?_) (fun c12 => ?_)
        · rw [if_neg c12] at h
          refine ax_iconst (v := (0 : Int32)) dL_law_755 rfl ?_
          exact ax_reti dL_law_756 h
        · rw [if_pos c12] at h
          refine ax_aload_n (i := 1) dL_law_741 rfl rfl ?_
          obtain ⟨w13, gw13, h⟩ := Option.bind_eq_some_iff.mp h
          obtain ⟨q14, gq14, h⟩ := Option.bind_eq_some_iff.mp h
          refine ax_cV (As := []) (t := 6) dL_law_742 gw13 (th_X9_checksum gq14) rfl (And.intro wd_605 wd_18) wd_602 wd_603 wd_604 cy_X9_checksum (by omega) (by decide) (Nat.le_of_ble_eq_true rfl) rfl ?_
          refine ax_lload (i := 8) dL_law_745 rfl ?_
          refine ax_lcmp dL_law_747 ?_
          refine ax_if_ne (tgt := 755) dL_law_748 (by decide) (fun c15 => ?_) (fun c15 => ?_)
          · rw [if_neg c15] at h
            refine ax_iconst (v := (0 : Int32)) dL_law_755 rfl ?_
            exact ax_reti dL_law_756 h
          · rw [if_pos c15] at h
            refine ax_iconst (v := (1 : Int32)) dL_law_751 rfl ?_
            refine ax_goto (tgt := 756) dL_law_752 (by decide) ?_
            exact ax_reti dL_law_756 h
def fb_L_law_698 (a1 : Option Nat) (a6 : Int32) (s : ax_S) : Option (Int32 × ax_S) :=
  fb_L_law_699 a1 a6 (0 : Int32) s
set_option maxRecDepth 100000 in
set_option maxHeartbeats 4000000 in
theorem tb_L_law_698 {q : Int32 × ax_S} {a1 : Option Nat} {a6 : Int32} {s : ax_S} (h : fb_L_law_698 a1 a6 s = some q) : AW mm_L_law 73 0 0 698 [none, (some (av_r a1)), none, none, none, none, (some (av_i a6)), none, none, none, none, none, none, none] [] s (some (av_i q.1), q.2) := by
  unfold fb_L_law_698 at h
  refine ax_iconst (v := (0 : Int32)) dL_law_698 rfl ?_
  exact ax_less (L' := [none, (some (av_r a1)), none, none, none, none, (some (av_i a6)), none, none, none, none, none, none, none]) ⟨rfl, rfl, trivial⟩ (tb_L_law_699  h)
def fb_L_law_637 (a1 : Option Nat) (a6 : Int32) (a7 : Int32) (s : ax_S) : Option (Int32 × ax_S) :=
  if a7 = 0 then
    fb_L_law_698 a1 a6 s
  else
    (ax_sh s 6 a1).bind fun w17 =>
    (fn_X9_save a1 (0 : Int32) s).bind fun q18 =>
    if q18.1 = a6 then
      (ax_sh q18.2 6 a1).bind fun w20 =>
      (fn_X9_clear a1 q18.2).bind fun q21 =>
      if q21.1 = a6 then
        (ax_sh q21.2 6 a1).bind fun w23 =>
        (fn_X9_nodes a1 q21.2).bind fun q24 =>
        if q24.1 = 0 then
          (ax_sh q24.2 6 a1).bind fun w26 =>
          (fn_X9_count a1 (0 : Int32) q24.2).bind fun q27 =>
          if q27.1 = 0 then
            (ax_sh q27.2 6 a1).bind fun w29 =>
            (fn_X9_restore a1 (0 : Int32) q27.2).bind fun q30 =>
            if q30.1 = a6 then
              (ax_sh q30.2 6 a1).bind fun w32 =>
              (fn_X9_count a1 (0 : Int32) q30.2).bind fun q33 =>
              if q33.1 = 0 then
                fb_L_law_699 a1 a6 (1 : Int32) q33.2
              else
                fb_L_law_698 a1 a6 q33.2
            else
              fb_L_law_698 a1 a6 q30.2
          else
            fb_L_law_698 a1 a6 q27.2
        else
          fb_L_law_698 a1 a6 q24.2
      else
        fb_L_law_698 a1 a6 q21.2
    else
      fb_L_law_698 a1 a6 q18.2
set_option maxRecDepth 100000 in
set_option maxHeartbeats 4000000 in
theorem tb_L_law_637 {q : Int32 × ax_S} {a1 : Option Nat} {a6 : Int32} {a7 : Int32} {s : ax_S} (h : fb_L_law_637 a1 a6 a7 s = some q) : AW mm_L_law 73 0 0 637 [none, (some (av_r a1)), none, none, none, none, (some (av_i a6)), (some (av_i a7)), none, none, none, none, none, none] [] s (some (av_i q.1), q.2) := by
  unfold fb_L_law_637 at h
  refine ax_iload (i := 7) dL_law_637 rfl ?_
  refine ax_if_eq (tgt := 698) dL_law_639 (by decide) (fun c16 => ?_) (fun c16 => ?_)
  · rw [if_pos c16] at h
    exact ax_less (L' := [none, (some (av_r a1)), none, none, none, none, (some (av_i a6)), none, none, none, none, none, none, none]) ⟨rfl, rfl, trivial⟩ (tb_L_law_698  h)
  · rw [if_neg c16] at h
    refine ax_aload_n (i := 1) dL_law_642 rfl rfl ?_
    refine ax_iconst (v := (0 : Int32)) dL_law_643 rfl ?_
    obtain ⟨w17, gw17, h⟩ := Option.bind_eq_some_iff.mp h
    obtain ⟨q18, gq18, h⟩ := Option.bind_eq_some_iff.mp h
    refine ax_cV (As := [av_i (0 : Int32)]) (t := 6) dL_law_644 gw17 (th_X9_save gq18) rfl (And.intro wd_592 wd_18) wd_589 wd_590 wd_591 cy_X9_save (by omega) (by decide) (Nat.le_of_ble_eq_true rfl) rfl ?_
    refine ax_iload (i := 6) dL_law_647 rfl ?_
    refine ax_icmp_ne (tgt := 698) dL_law_649 (by decide) (fun c19 => ?_) (fun c19 => ?_)
    · rw [if_neg c19] at h
      exact ax_less (L' := [none, (some (av_r a1)), none, none, none, none, (some (av_i a6)), none, none, none, none, none, none, none]) ⟨rfl, rfl, trivial⟩ (tb_L_law_698  h)
    · rw [if_pos c19] at h
      refine ax_aload_n (i := 1) dL_law_652 rfl rfl ?_
      obtain ⟨w20, gw20, h⟩ := Option.bind_eq_some_iff.mp h
      obtain ⟨q21, gq21, h⟩ := Option.bind_eq_some_iff.mp h
      refine ax_cV (As := []) (t := 6) dL_law_653 gw20 (th_X9_clear gq21) rfl (And.intro wd_236 wd_18) wd_233 wd_234 wd_235 cy_X9_clear (by omega) (by decide) (Nat.le_of_ble_eq_true rfl) rfl ?_
      refine ax_iload (i := 6) dL_law_656 rfl ?_
      refine ax_icmp_ne (tgt := 698) dL_law_658 (by decide) (fun c22 => ?_) (fun c22 => ?_)
      · rw [if_neg c22] at h
        exact ax_less (L' := [none, (some (av_r a1)), none, none, none, none, (some (av_i a6)), none, none, none, none, none, none, none]) ⟨rfl, rfl, trivial⟩ (tb_L_law_698  h)
      · rw [if_pos c22] at h
        refine ax_aload_n (i := 1) dL_law_661 rfl rfl ?_
        obtain ⟨w23, gw23, h⟩ := Option.bind_eq_some_iff.mp h
        obtain ⟨q24, gq24, h⟩ := Option.bind_eq_some_iff.mp h
        refine ax_cV (As := []) (t := 6) dL_law_662 gw23 (th_X9_nodes gq24) rfl (And.intro wd_350 wd_18) wd_347 wd_348 wd_349 cy_X9_nodes (by omega) (by decide) (Nat.le_of_ble_eq_true rfl) rfl ?_
        refine ax_if_ne (tgt := 698) dL_law_665 (by decide) (fun c25 => ?_) (fun c25 => ?_)
        · rw [if_neg c25] at h
          exact ax_less (L' := [none, (some (av_r a1)), none, none, none, none, (some (av_i a6)), none, none, none, none, none, none, none]) ⟨rfl, rfl, trivial⟩ (tb_L_law_698  h)
        · rw [if_pos c25] at h
          refine ax_aload_n (i := 1) dL_law_668 rfl rfl ?_
          refine ax_iconst (v := (0 : Int32)) dL_law_669 rfl ?_
          obtain ⟨w26, gw26, h⟩ := Option.bind_eq_some_iff.mp h
          obtain ⟨q27, gq27, h⟩ := Option.bind_eq_some_iff.mp h
          refine ax_cV (As := [av_i (0 : Int32)]) (t := 6) dL_law_670 gw26 (th_X9_count gq27) rfl (And.intro wd_432 wd_18) wd_429 wd_430 wd_431 cy_X9_count (by omega) (by decide) (Nat.le_of_ble_eq_true rfl) rfl ?_
          refine ax_if_ne (tgt := 698) dL_law_673 (by decide) (fun c28 => ?_) (fun c28 => ?_)
          · rw [if_neg c28] at h
            exact ax_less (L' := [none, (some (av_r a1)), none, none, none, none, (some (av_i a6)), none, none, none, none, none, none, none]) ⟨rfl, rfl, trivial⟩ (tb_L_law_698  h)
          · rw [if_pos c28] at h
            refine ax_aload_n (i := 1) dL_law_676 rfl rfl ?_
            refine ax_iconst (v := (0 : Int32)) dL_law_677 rfl ?_
            obtain ⟨w29, gw29, h⟩ := Option.bind_eq_some_iff.mp h
            obtain ⟨q30, gq30, h⟩ := Option.bind_eq_some_iff.mp h
            refine ax_cV (As := [av_i (0 : Int32)]) (t := 6) dL_law_678 gw29 (th_X9_restore gq30) rfl (And.intro wd_601 wd_18) wd_598 wd_599 wd_600 cy_X9_restore (by omega) (by decide) (Nat.le_of_ble_eq_true rfl) rfl ?_
            refine ax_iload (i := 6) dL_law_681 rfl ?_
            refine ax_icmp_ne (tgt := 698) dL_law_683 (by decide) (fun c31 => ?_) (fun c31 => ?_)
            · rw [if_neg c31] at h
              exact ax_less (L' := [none, (some (av_r a1)), none, none, none, none, (some (av_i a6)), none, none, none, none, none, none, none]) ⟨rfl, rfl, trivial⟩ (tb_L_law_698  h)
            · rw [if_pos c31] at h
              refine ax_aload_n (i := 1) dL_law_686 rfl rfl ?_
              refine ax_iconst (v := (0 : Int32)) dL_law_687 rfl ?_
              obtain ⟨w32, gw32, h⟩ := Option.bind_eq_some_iff.mp h
              obtain ⟨q33, gq33, h⟩ := Option.bind_eq_some_iff.mp h
              refine ax_cV (As := [av_i (0 : Int32)]) (t := 6) dL_law_688 gw32 (th_X9_count gq33) rfl (And.intro wd_432 wd_18) wd_429 wd_430 wd_431 cy_X9_count (by omega) (by decide) (Nat.le_of_ble_eq_true rfl) rfl ?_
              refine ax_if_ne (tgt := 698) dL_law_691 (by decide) (fun c34 => ?_) (fun c34 => ?_)
              · rw [if_neg c34] at h
                exact ax_less (L' := [none, (some (av_r a1)), none, none, none, none, (some (av_i a6)), none, none, none, none, none, none, none]) ⟨rfl, rfl, trivial⟩ (tb_L_law_698  h)
              · rw [if_pos c34] at h
                refine ax_iconst (v := (1 : Int32)) dL_law_694 rfl ?_
                refine ax_goto (tgt := 699) dL_law_695 (by decide) ?_
                exact ax_less (L' := [none, (some (av_r a1)), none, none, none, none, (some (av_i a6)), none, none, none, none, none, none, none]) ⟨rfl, rfl, trivial⟩ (tb_L_law_699  h)
def fb_L_law_628 (k139 : Option Nat → Option Nat → Option Nat → Option Nat → Int32 → Int32 → Int32 → ax_S → Option (Int32 × ax_S)) (a0 : Option Nat) (a1 : Option Nat) (a2 : Option Nat) (a3 : Option Nat) (a6 : Int32) (a8 : Int32) (s : ax_S) : Option (Int32 × ax_S) :=
  k139 a0 a1 a2 a3 a6 (0 : Int32) (a8 + (1)) s
set_option maxRecDepth 100000 in
set_option maxHeartbeats 4000000 in
theorem tb_L_law_628 {q : Int32 × ax_S} {k139 : Option Nat → Option Nat → Option Nat → Option Nat → Int32 → Int32 → Int32 → ax_S → Option (Int32 × ax_S)} (hk139 : ∀ (a0 : Option Nat) (a1 : Option Nat) (a2 : Option Nat) (a3 : Option Nat) (a6 : Int32) (a7 : Int32) (a8 : Int32) (s : ax_S), k139 a0 a1 a2 a3 a6 a7 a8 s = some q → AW mm_L_law 73 0 0 139 [(some (av_r a0)), (some (av_r a1)), (some (av_r a2)), (some (av_r a3)), none, none, (some (av_i a6)), (some (av_i a7)), (some (av_i a8)), none, none, none, none, none] [] s (some (av_i q.1), q.2)) {a0 : Option Nat} {a1 : Option Nat} {a2 : Option Nat} {a3 : Option Nat} {a6 : Int32} {a8 : Int32} {s : ax_S} (h : fb_L_law_628 k139 a0 a1 a2 a3 a6 a8 s = some q) : AW mm_L_law 73 0 0 628 [(some (av_r a0)), (some (av_r a1)), (some (av_r a2)), (some (av_r a3)), none, none, (some (av_i a6)), none, (some (av_i a8)), none, none, none, none, none] [] s (some (av_i q.1), q.2) := by
  unfold fb_L_law_628 at h
  refine ax_iconst (v := (0 : Int32)) dL_law_628 rfl ?_
  refine ax_istore (i := 7) (L2 := [some (av_r a0), some (av_r a1), some (av_r a2), some (av_r a3), none, none, some (av_i a6), some (av_i (0 : Int32)), some (av_i a8), none, none, none, none, none]) dL_law_629 (by decide) rfl rfl ?_
  refine ax_iinc (i := 8) (v := (a8 + (1))) (L2 := [some (av_r a0), some (av_r a1), some (av_r a2), some (av_r a3), none, none, some (av_i a6), some (av_i (0 : Int32)), some (av_i (a8 + (1))), none, none, none, none, none]) dL_law_631 rfl rfl (by decide) rfl rfl ?_
  refine ax_goto (tgt := 139) dL_law_634 (by decide) ?_
  exact ax_less (L' := [(some (av_r a0)), (some (av_r a1)), (some (av_r a2)), (some (av_r a3)), none, none, (some (av_i a6)), (some (av_i (0 : Int32))), (some (av_i (a8 + (1)))), none, none, none, none, none]) ⟨rfl, rfl, rfl, rfl, rfl, rfl, rfl, trivial⟩ (hk139 _ _ _ _ _ _ _ _ h)
def fb_L_law_624 (k139 : Option Nat → Option Nat → Option Nat → Option Nat → Int32 → Int32 → Int32 → ax_S → Option (Int32 × ax_S)) (a0 : Option Nat) (a1 : Option Nat) (a2 : Option Nat) (a3 : Option Nat) (a6 : Int32) (a8 : Int32) (s : ax_S) : Option (Int32 × ax_S) :=
  k139 a0 a1 a2 a3 a6 (1 : Int32) (a8 + (1)) s
set_option maxRecDepth 100000 in
set_option maxHeartbeats 4000000 in
theorem tb_L_law_624 {q : Int32 × ax_S} {k139 : Option Nat → Option Nat → Option Nat → Option Nat → Int32 → Int32 → Int32 → ax_S → Option (Int32 × ax_S)} (hk139 : ∀ (a0 : Option Nat) (a1 : Option Nat) (a2 : Option Nat) (a3 : Option Nat) (a6 : Int32) (a7 : Int32) (a8 : Int32) (s : ax_S), k139 a0 a1 a2 a3 a6 a7 a8 s = some q → AW mm_L_law 73 0 0 139 [(some (av_r a0)), (some (av_r a1)), (some (av_r a2)), (some (av_r a3)), none, none, (some (av_i a6)), (some (av_i a7)), (some (av_i a8)), none, none, none, none, none] [] s (some (av_i q.1), q.2)) {a0 : Option Nat} {a1 : Option Nat} {a2 : Option Nat} {a3 : Option Nat} {a6 : Int32} {a8 : Int32} {s : ax_S} (h : fb_L_law_624 k139 a0 a1 a2 a3 a6 a8 s = some q) : AW mm_L_law 73 0 0 624 [(some (av_r a0)), (some (av_r a1)), (some (av_r a2)), (some (av_r a3)), none, none, (some (av_i a6)), none, (some (av_i a8)), none, none, none, none, none] [] s (some (av_i q.1), q.2) := by
  unfold fb_L_law_624 at h
  refine ax_iconst (v := (1 : Int32)) dL_law_624 rfl ?_
  refine ax_goto (tgt := 629) dL_law_625 (by decide) ?_
  refine ax_istore (i := 7) (L2 := [some (av_r a0), some (av_r a1), some (av_r a2), some (av_r a3), none, none, some (av_i a6), some (av_i (1 : Int32)), some (av_i a8), none, none, none, none, none]) dL_law_629 (by decide) rfl rfl ?_
  refine ax_iinc (i := 8) (v := (a8 + (1))) (L2 := [some (av_r a0), some (av_r a1), some (av_r a2), some (av_r a3), none, none, some (av_i a6), some (av_i (1 : Int32)), some (av_i (a8 + (1))), none, none, none, none, none]) dL_law_631 rfl rfl (by decide) rfl rfl ?_
  refine ax_goto (tgt := 139) dL_law_634 (by decide) ?_
  exact ax_less (L' := [(some (av_r a0)), (some (av_r a1)), (some (av_r a2)), (some (av_r a3)), none, none, (some (av_i a6)), (some (av_i (1 : Int32))), (some (av_i (a8 + (1)))), none, none, none, none, none]) ⟨rfl, rfl, rfl, rfl, rfl, rfl, rfl, trivial⟩ (hk139 _ _ _ _ _ _ _ _ h)
def fb_L_law_607 (k139 : Option Nat → Option Nat → Option Nat → Option Nat → Int32 → Int32 → Int32 → ax_S → Option (Int32 × ax_S)) (a0 : Option Nat) (a1 : Option Nat) (a2 : Option Nat) (a3 : Option Nat) (a6 : Int32) (a8 : Int32) (s : ax_S) : Option (Int32 × ax_S) :=
  (if (7 : Int32) = 0 then none else some ()).bind fun u35 =>
  if 0 < (a8 - a8 / (7 : Int32) * (7 : Int32)) then
    fb_L_law_624 k139 a0 a1 a2 a3 a6 a8 s
  else
    (fn_L_refuses a1 a6 s).bind fun q37 =>
    if q37.1 = 0 then
      fb_L_law_628 k139 a0 a1 a2 a3 a6 a8 q37.2
    else
      fb_L_law_624 k139 a0 a1 a2 a3 a6 a8 q37.2
set_option maxRecDepth 100000 in
set_option maxHeartbeats 4000000 in
theorem tb_L_law_607 {q : Int32 × ax_S} {k139 : Option Nat → Option Nat → Option Nat → Option Nat → Int32 → Int32 → Int32 → ax_S → Option (Int32 × ax_S)} (hk139 : ∀ (a0 : Option Nat) (a1 : Option Nat) (a2 : Option Nat) (a3 : Option Nat) (a6 : Int32) (a7 : Int32) (a8 : Int32) (s : ax_S), k139 a0 a1 a2 a3 a6 a7 a8 s = some q → AW mm_L_law 73 0 0 139 [(some (av_r a0)), (some (av_r a1)), (some (av_r a2)), (some (av_r a3)), none, none, (some (av_i a6)), (some (av_i a7)), (some (av_i a8)), none, none, none, none, none] [] s (some (av_i q.1), q.2)) {a0 : Option Nat} {a1 : Option Nat} {a2 : Option Nat} {a3 : Option Nat} {a6 : Int32} {a8 : Int32} {s : ax_S} (h : fb_L_law_607 k139 a0 a1 a2 a3 a6 a8 s = some q) : AW mm_L_law 73 0 0 607 [(some (av_r a0)), (some (av_r a1)), (some (av_r a2)), (some (av_r a3)), none, none, (some (av_i a6)), none, (some (av_i a8)), none, none, none, none, none] [] s (some (av_i q.1), q.2) := by
  unfold fb_L_law_607 at h
  refine ax_iload (i := 8) dL_law_607 rfl ?_
  refine ax_bipush (v := (7 : Int32)) dL_law_609 rfl ?_
  obtain ⟨u35, gu35, h⟩ := Option.bind_eq_some_iff.mp h
  refine ax_irem dL_law_611 (ax_ne_of gu35) ?_
  refine ax_if_gt (tgt := 624) dL_law_612 (by decide) (fun c36 => ?_) (fun c36 => ?_)
  · rw [if_pos c36] at h
    exact ax_less (L' := [(some (av_r a0)), (some (av_r a1)), (some (av_r a2)), (some (av_r a3)), none, none, (some (av_i a6)), none, (some (av_i a8)), none, none, none, none, none]) ⟨rfl, rfl, rfl, rfl, rfl, rfl, trivial⟩ (tb_L_law_624 hk139 h)
  · rw [if_neg c36] at h
    refine ax_aload_n (i := 1) dL_law_615 rfl rfl ?_
    refine ax_iload (i := 6) dL_law_616 rfl ?_
    obtain ⟨q37, gq37, h⟩ := Option.bind_eq_some_iff.mp h
    refine ax_cS (As := [av_r a1, av_i a6]) dL_law_618 (th_L_refuses gq37) (And.intro wd_709 wd_17) wd_707 wd_708 cy_L_refuses (by omega) (by decide) (Nat.le_of_ble_eq_true rfl) rfl ?_
    refine ax_if_eq (tgt := 628) dL_law_621 (by decide) (fun c38 => ?_) (fun c38 => ?_)
    · rw [if_pos c38] at h
      exact ax_less (L' := [(some (av_r a0)), (some (av_r a1)), (some (av_r a2)), (some (av_r a3)), none, none, (some (av_i a6)), none, (some (av_i a8)), none, none, none, none, none]) ⟨rfl, rfl, rfl, rfl, rfl, rfl, trivial⟩ (tb_L_law_628 hk139 h)
    · rw [if_neg c38] at h
      exact ax_less (L' := [(some (av_r a0)), (some (av_r a1)), (some (av_r a2)), (some (av_r a3)), none, none, (some (av_i a6)), none, (some (av_i a8)), none, none, none, none, none]) ⟨rfl, rfl, rfl, rfl, rfl, rfl, trivial⟩ (tb_L_law_624 hk139 h)
def fb_L_law_565 (k139 : Option Nat → Option Nat → Option Nat → Option Nat → Int32 → Int32 → Int32 → ax_S → Option (Int32 × ax_S)) (a0 : Option Nat) (a1 : Option Nat) (a2 : Option Nat) (a3 : Option Nat) (a6 : Int32) (a7 : Int32) (a8 : Int32) (a9 : Int32) (s : ax_S) : Option (Int32 × ax_S) :=
  if a7 = 0 then
    fb_L_law_628 k139 a0 a1 a2 a3 a6 a8 s
  else
    (fn_L_sound a1 a6 s).bind fun q40 =>
    if q40.1 = 0 then
      fb_L_law_628 k139 a0 a1 a2 a3 a6 a8 q40.2
    else
      (if (4 : Int32) = 0 then none else some ()).bind fun u42 =>
      if 0 < (a8 - a8 / (4 : Int32) * (4 : Int32)) then
        fb_L_law_607 k139 a0 a1 a2 a3 a6 a8 q40.2
      else
        (if (14 : Int32) = 0 then none else some ()).bind fun u44 =>
        (fn_L_same a1 a6 ((a9 >>> ((13 : Int32) &&& 31)) - (a9 >>> ((13 : Int32) &&& 31)) / (14 : Int32) * (14 : Int32)) (a9 >>> ((5 : Int32) &&& 31)) q40.2).bind fun q45 =>
        if q45.1 = 0 then
          fb_L_law_628 k139 a0 a1 a2 a3 a6 a8 q45.2
        else
          fb_L_law_607 k139 a0 a1 a2 a3 a6 a8 q45.2
set_option maxRecDepth 100000 in
set_option maxHeartbeats 4000000 in
theorem tb_L_law_565 {q : Int32 × ax_S} {k139 : Option Nat → Option Nat → Option Nat → Option Nat → Int32 → Int32 → Int32 → ax_S → Option (Int32 × ax_S)} (hk139 : ∀ (a0 : Option Nat) (a1 : Option Nat) (a2 : Option Nat) (a3 : Option Nat) (a6 : Int32) (a7 : Int32) (a8 : Int32) (s : ax_S), k139 a0 a1 a2 a3 a6 a7 a8 s = some q → AW mm_L_law 73 0 0 139 [(some (av_r a0)), (some (av_r a1)), (some (av_r a2)), (some (av_r a3)), none, none, (some (av_i a6)), (some (av_i a7)), (some (av_i a8)), none, none, none, none, none] [] s (some (av_i q.1), q.2)) {a0 : Option Nat} {a1 : Option Nat} {a2 : Option Nat} {a3 : Option Nat} {a6 : Int32} {a7 : Int32} {a8 : Int32} {a9 : Int32} {s : ax_S} (h : fb_L_law_565 k139 a0 a1 a2 a3 a6 a7 a8 a9 s = some q) : AW mm_L_law 73 0 0 565 [(some (av_r a0)), (some (av_r a1)), (some (av_r a2)), (some (av_r a3)), none, none, (some (av_i a6)), (some (av_i a7)), (some (av_i a8)), (some (av_i a9)), none, none, none, none] [] s (some (av_i q.1), q.2) := by
  unfold fb_L_law_565 at h
  refine ax_iload (i := 7) dL_law_565 rfl ?_
  refine ax_if_eq (tgt := 628) dL_law_567 (by decide) (fun c39 => ?_) (fun c39 => ?_)
  · rw [if_pos c39] at h
    exact ax_less (L' := [(some (av_r a0)), (some (av_r a1)), (some (av_r a2)), (some (av_r a3)), none, none, (some (av_i a6)), none, (some (av_i a8)), none, none, none, none, none]) ⟨rfl, rfl, rfl, rfl, rfl, rfl, trivial⟩ (tb_L_law_628 hk139 h)
  · rw [if_neg c39] at h
    refine ax_aload_n (i := 1) dL_law_570 rfl rfl ?_
    refine ax_iload (i := 6) dL_law_571 rfl ?_
    obtain ⟨q40, gq40, h⟩ := Option.bind_eq_some_iff.mp h
    refine ax_cS (As := [av_r a1, av_i a6]) dL_law_573 (th_L_sound gq40) (And.intro wd_703 wd_17) wd_701 wd_702 cy_L_sound (by omega) (by decide) (Nat.le_of_ble_eq_true rfl) rfl ?_
    refine ax_if_eq (tgt := 628) dL_law_576 (by decide) (fun c41 => ?_) (fun c41 => ?_)
    · rw [if_pos c41] at h
      exact ax_less (L' := [(some (av_r a0)), (some (av_r a1)), (some (av_r a2)), (some (av_r a3)), none, none, (some (av_i a6)), none, (some (av_i a8)), none, none, none, none, none]) ⟨rfl, rfl, rfl, rfl, rfl, rfl, trivial⟩ (tb_L_law_628 hk139 h)
    · rw [if_neg c41] at h
      refine ax_iload (i := 8) dL_law_579 rfl ?_
      refine ax_iconst (v := (4 : Int32)) dL_law_581 rfl ?_
      obtain ⟨u42, gu42, h⟩ := Option.bind_eq_some_iff.mp h
      refine ax_irem dL_law_582 (ax_ne_of gu42) ?_
      refine ax_if_gt (tgt := 607) dL_law_583 (by decide) (fun c43 => ?_) (fun c43 => ?_)
      · rw [if_pos c43] at h
        exact ax_less (L' := [(some (av_r a0)), (some (av_r a1)), (some (av_r a2)), (some (av_r a3)), none, none, (some (av_i a6)), none, (some (av_i a8)), none, none, none, none, none]) ⟨rfl, rfl, rfl, rfl, rfl, rfl, trivial⟩ (tb_L_law_607 hk139 h)
      · rw [if_neg c43] at h
        refine ax_aload_n (i := 1) dL_law_586 rfl rfl ?_
        refine ax_iload (i := 6) dL_law_587 rfl ?_
        refine ax_iload (i := 9) dL_law_589 rfl ?_
        refine ax_bipush (v := (13 : Int32)) dL_law_591 rfl ?_
        refine ax_ishr dL_law_593 ?_
        refine ax_bipush (v := (14 : Int32)) dL_law_594 rfl ?_
        obtain ⟨u44, gu44, h⟩ := Option.bind_eq_some_iff.mp h
        refine ax_irem dL_law_596 (ax_ne_of gu44) ?_
        refine ax_iload (i := 9) dL_law_597 rfl ?_
        refine ax_iconst (v := (5 : Int32)) dL_law_599 rfl ?_
        refine ax_ishr dL_law_600 ?_
        obtain ⟨q45, gq45, h⟩ := Option.bind_eq_some_iff.mp h
        refine ax_cS (As := [av_r a1, av_i a6, av_i ((a9 >>> ((13 : Int32) &&& 31)) - (a9 >>> ((13 : Int32) &&& 31)) / (14 : Int32) * (14 : Int32)), av_i (a9 >>> ((5 : Int32) &&& 31))]) dL_law_601 (th_L_same gq45) (And.intro wd_672 wd_17) wd_670 wd_671 cy_L_same (by omega) (by decide) (Nat.le_of_ble_eq_true rfl) rfl ?_
        refine ax_if_eq (tgt := 628) dL_law_604 (by decide) (fun c46 => ?_) (fun c46 => ?_)
        · rw [if_pos c46] at h
          exact ax_less (L' := [(some (av_r a0)), (some (av_r a1)), (some (av_r a2)), (some (av_r a3)), none, none, (some (av_i a6)), none, (some (av_i a8)), none, none, none, none, none]) ⟨rfl, rfl, rfl, rfl, rfl, rfl, trivial⟩ (tb_L_law_628 hk139 h)
        · rw [if_neg c46] at h
          exact ax_less (L' := [(some (av_r a0)), (some (av_r a1)), (some (av_r a2)), (some (av_r a3)), none, none, (some (av_i a6)), none, (some (av_i a8)), none, none, none, none, none]) ⟨rfl, rfl, rfl, rfl, rfl, rfl, trivial⟩ (tb_L_law_607 hk139 h)
def fb_L_law_563 (k139 : Option Nat → Option Nat → Option Nat → Option Nat → Int32 → Int32 → Int32 → ax_S → Option (Int32 × ax_S)) (a0 : Option Nat) (a1 : Option Nat) (a2 : Option Nat) (a3 : Option Nat) (a6 : Int32) (a8 : Int32) (a9 : Int32) (b0 : Int32) (s : ax_S) : Option (Int32 × ax_S) :=
  fb_L_law_565 k139 a0 a1 a2 a3 a6 b0 a8 a9 s
set_option maxRecDepth 100000 in
set_option maxHeartbeats 4000000 in
theorem tb_L_law_563 {q : Int32 × ax_S} {k139 : Option Nat → Option Nat → Option Nat → Option Nat → Int32 → Int32 → Int32 → ax_S → Option (Int32 × ax_S)} (hk139 : ∀ (a0 : Option Nat) (a1 : Option Nat) (a2 : Option Nat) (a3 : Option Nat) (a6 : Int32) (a7 : Int32) (a8 : Int32) (s : ax_S), k139 a0 a1 a2 a3 a6 a7 a8 s = some q → AW mm_L_law 73 0 0 139 [(some (av_r a0)), (some (av_r a1)), (some (av_r a2)), (some (av_r a3)), none, none, (some (av_i a6)), (some (av_i a7)), (some (av_i a8)), none, none, none, none, none] [] s (some (av_i q.1), q.2)) {a0 : Option Nat} {a1 : Option Nat} {a2 : Option Nat} {a3 : Option Nat} {a6 : Int32} {a8 : Int32} {a9 : Int32} {b0 : Int32} {s : ax_S} (h : fb_L_law_563 k139 a0 a1 a2 a3 a6 a8 a9 b0 s = some q) : AW mm_L_law 73 0 0 563 [(some (av_r a0)), (some (av_r a1)), (some (av_r a2)), (some (av_r a3)), none, none, (some (av_i a6)), none, (some (av_i a8)), (some (av_i a9)), none, none, none, none] [av_i b0] s (some (av_i q.1), q.2) := by
  unfold fb_L_law_563 at h
  refine ax_istore (i := 7) (L2 := [some (av_r a0), some (av_r a1), some (av_r a2), some (av_r a3), none, none, some (av_i a6), some (av_i b0), some (av_i a8), some (av_i a9), none, none, none, none]) dL_law_563 (by decide) rfl rfl ?_
  exact ax_less (L' := [(some (av_r a0)), (some (av_r a1)), (some (av_r a2)), (some (av_r a3)), none, none, (some (av_i a6)), (some (av_i b0)), (some (av_i a8)), (some (av_i a9)), none, none, none, none]) ⟨rfl, rfl, rfl, rfl, rfl, rfl, rfl, rfl, trivial⟩ (tb_L_law_565 hk139 h)
def fb_L_law_562 (k139 : Option Nat → Option Nat → Option Nat → Option Nat → Int32 → Int32 → Int32 → ax_S → Option (Int32 × ax_S)) (a0 : Option Nat) (a1 : Option Nat) (a2 : Option Nat) (a3 : Option Nat) (a6 : Int32) (a8 : Int32) (a9 : Int32) (s : ax_S) : Option (Int32 × ax_S) :=
  fb_L_law_563 k139 a0 a1 a2 a3 a6 a8 a9 (0 : Int32) s
set_option maxRecDepth 100000 in
set_option maxHeartbeats 4000000 in
theorem tb_L_law_562 {q : Int32 × ax_S} {k139 : Option Nat → Option Nat → Option Nat → Option Nat → Int32 → Int32 → Int32 → ax_S → Option (Int32 × ax_S)} (hk139 : ∀ (a0 : Option Nat) (a1 : Option Nat) (a2 : Option Nat) (a3 : Option Nat) (a6 : Int32) (a7 : Int32) (a8 : Int32) (s : ax_S), k139 a0 a1 a2 a3 a6 a7 a8 s = some q → AW mm_L_law 73 0 0 139 [(some (av_r a0)), (some (av_r a1)), (some (av_r a2)), (some (av_r a3)), none, none, (some (av_i a6)), (some (av_i a7)), (some (av_i a8)), none, none, none, none, none] [] s (some (av_i q.1), q.2)) {a0 : Option Nat} {a1 : Option Nat} {a2 : Option Nat} {a3 : Option Nat} {a6 : Int32} {a8 : Int32} {a9 : Int32} {s : ax_S} (h : fb_L_law_562 k139 a0 a1 a2 a3 a6 a8 a9 s = some q) : AW mm_L_law 73 0 0 562 [(some (av_r a0)), (some (av_r a1)), (some (av_r a2)), (some (av_r a3)), none, none, (some (av_i a6)), none, (some (av_i a8)), (some (av_i a9)), none, none, none, none] [] s (some (av_i q.1), q.2) := by
  unfold fb_L_law_562 at h
  refine ax_iconst (v := (0 : Int32)) dL_law_562 rfl ?_
  exact ax_less (L' := [(some (av_r a0)), (some (av_r a1)), (some (av_r a2)), (some (av_r a3)), none, none, (some (av_i a6)), none, (some (av_i a8)), (some (av_i a9)), none, none, none, none]) ⟨rfl, rfl, rfl, rfl, rfl, rfl, rfl, trivial⟩ (tb_L_law_563 hk139 h)
def fb_L_law_346 (k139 : Option Nat → Option Nat → Option Nat → Option Nat → Int32 → Int32 → Int32 → ax_S → Option (Int32 × ax_S)) (a0 : Option Nat) (a1 : Option Nat) (a2 : Option Nat) (a3 : Option Nat) (a6 : Int32) (a8 : Int32) (a9 : Int32) (b0 : Int32) (s : ax_S) : Option (Int32 × ax_S) :=
  fb_L_law_565 k139 a0 a1 a2 a3 a6 b0 a8 a9 s
set_option maxRecDepth 100000 in
set_option maxHeartbeats 4000000 in
theorem tb_L_law_346 {q : Int32 × ax_S} {k139 : Option Nat → Option Nat → Option Nat → Option Nat → Int32 → Int32 → Int32 → ax_S → Option (Int32 × ax_S)} (hk139 : ∀ (a0 : Option Nat) (a1 : Option Nat) (a2 : Option Nat) (a3 : Option Nat) (a6 : Int32) (a7 : Int32) (a8 : Int32) (s : ax_S), k139 a0 a1 a2 a3 a6 a7 a8 s = some q → AW mm_L_law 73 0 0 139 [(some (av_r a0)), (some (av_r a1)), (some (av_r a2)), (some (av_r a3)), none, none, (some (av_i a6)), (some (av_i a7)), (some (av_i a8)), none, none, none, none, none] [] s (some (av_i q.1), q.2)) {a0 : Option Nat} {a1 : Option Nat} {a2 : Option Nat} {a3 : Option Nat} {a6 : Int32} {a8 : Int32} {a9 : Int32} {b0 : Int32} {s : ax_S} (h : fb_L_law_346 k139 a0 a1 a2 a3 a6 a8 a9 b0 s = some q) : AW mm_L_law 73 0 0 346 [(some (av_r a0)), (some (av_r a1)), (some (av_r a2)), (some (av_r a3)), none, none, (some (av_i a6)), none, (some (av_i a8)), (some (av_i a9)), none, none, none, none] [av_i b0] s (some (av_i q.1), q.2) := by
  unfold fb_L_law_346 at h
  refine ax_istore (i := 7) (L2 := [some (av_r a0), some (av_r a1), some (av_r a2), some (av_r a3), none, none, some (av_i a6), some (av_i b0), some (av_i a8), some (av_i a9), none, none, none, none]) dL_law_346 (by decide) rfl rfl ?_
  refine ax_goto (tgt := 565) dL_law_348 (by decide) ?_
  exact ax_less (L' := [(some (av_r a0)), (some (av_r a1)), (some (av_r a2)), (some (av_r a3)), none, none, (some (av_i a6)), (some (av_i b0)), (some (av_i a8)), (some (av_i a9)), none, none, none, none]) ⟨rfl, rfl, rfl, rfl, rfl, rfl, rfl, rfl, trivial⟩ (tb_L_law_565 hk139 h)
def fb_L_law_341 (k139 : Option Nat → Option Nat → Option Nat → Option Nat → Int32 → Int32 → Int32 → ax_S → Option (Int32 × ax_S)) (a0 : Option Nat) (a1 : Option Nat) (a2 : Option Nat) (a3 : Option Nat) (a6 : Int32) (a8 : Int32) (a9 : Int32) (s : ax_S) : Option (Int32 × ax_S) :=
  fb_L_law_346 k139 a0 a1 a2 a3 a6 a8 a9 (1 : Int32) s
set_option maxRecDepth 100000 in
set_option maxHeartbeats 4000000 in
theorem tb_L_law_341 {q : Int32 × ax_S} {k139 : Option Nat → Option Nat → Option Nat → Option Nat → Int32 → Int32 → Int32 → ax_S → Option (Int32 × ax_S)} (hk139 : ∀ (a0 : Option Nat) (a1 : Option Nat) (a2 : Option Nat) (a3 : Option Nat) (a6 : Int32) (a7 : Int32) (a8 : Int32) (s : ax_S), k139 a0 a1 a2 a3 a6 a7 a8 s = some q → AW mm_L_law 73 0 0 139 [(some (av_r a0)), (some (av_r a1)), (some (av_r a2)), (some (av_r a3)), none, none, (some (av_i a6)), (some (av_i a7)), (some (av_i a8)), none, none, none, none, none] [] s (some (av_i q.1), q.2)) {a0 : Option Nat} {a1 : Option Nat} {a2 : Option Nat} {a3 : Option Nat} {a6 : Int32} {a8 : Int32} {a9 : Int32} {s : ax_S} (h : fb_L_law_341 k139 a0 a1 a2 a3 a6 a8 a9 s = some q) : AW mm_L_law 73 0 0 341 [(some (av_r a0)), (some (av_r a1)), (some (av_r a2)), (some (av_r a3)), none, none, (some (av_i a6)), none, (some (av_i a8)), (some (av_i a9)), none, none, none, none] [] s (some (av_i q.1), q.2) := by
  unfold fb_L_law_341 at h
  refine ax_iconst (v := (1 : Int32)) dL_law_341 rfl ?_
  refine ax_goto (tgt := 346) dL_law_342 (by decide) ?_
  exact ax_less (L' := [(some (av_r a0)), (some (av_r a1)), (some (av_r a2)), (some (av_r a3)), none, none, (some (av_i a6)), none, (some (av_i a8)), (some (av_i a9)), none, none, none, none]) ⟨rfl, rfl, rfl, rfl, rfl, rfl, rfl, trivial⟩ (tb_L_law_346 hk139 h)
def fb_L_law_307 (k139 : Option Nat → Option Nat → Option Nat → Option Nat → Int32 → Int32 → Int32 → ax_S → Option (Int32 × ax_S)) (a0 : Option Nat) (a1 : Option Nat) (a2 : Option Nat) (a3 : Option Nat) (a6 : Int32) (a8 : Int32) (a9 : Int32) (a11 : Int32) (a13 : Int32) (s : ax_S) : Option (Int32 × ax_S) :=
  if a13 = 0 then
    if a11 = (-1001 : Int32) then
      fb_L_law_341 k139 a0 a1 a2 a3 a6 a8 a9 s
    else
      if a11 = (-1003 : Int32) then
        fb_L_law_341 k139 a0 a1 a2 a3 a6 a8 a9 s
      else
        fb_L_law_346 k139 a0 a1 a2 a3 a6 a8 a9 (0 : Int32) s
  else
    if a11 < 0 then
      fb_L_law_346 k139 a0 a1 a2 a3 a6 a8 a9 (0 : Int32) s
    else
      fb_L_law_346 k139 a0 a1 a2 a3 a6 a8 a9 (1 : Int32) s
set_option maxRecDepth 100000 in
set_option maxHeartbeats 4000000 in
theorem tb_L_law_307 {q : Int32 × ax_S} {k139 : Option Nat → Option Nat → Option Nat → Option Nat → Int32 → Int32 → Int32 → ax_S → Option (Int32 × ax_S)} (hk139 : ∀ (a0 : Option Nat) (a1 : Option Nat) (a2 : Option Nat) (a3 : Option Nat) (a6 : Int32) (a7 : Int32) (a8 : Int32) (s : ax_S), k139 a0 a1 a2 a3 a6 a7 a8 s = some q → AW mm_L_law 73 0 0 139 [(some (av_r a0)), (some (av_r a1)), (some (av_r a2)), (some (av_r a3)), none, none, (some (av_i a6)), (some (av_i a7)), (some (av_i a8)), none, none, none, none, none] [] s (some (av_i q.1), q.2)) {a0 : Option Nat} {a1 : Option Nat} {a2 : Option Nat} {a3 : Option Nat} {a6 : Int32} {a8 : Int32} {a9 : Int32} {a11 : Int32} {a13 : Int32} {s : ax_S} (h : fb_L_law_307 k139 a0 a1 a2 a3 a6 a8 a9 a11 a13 s = some q) : AW mm_L_law 73 0 0 307 [(some (av_r a0)), (some (av_r a1)), (some (av_r a2)), (some (av_r a3)), none, none, (some (av_i a6)), none, (some (av_i a8)), (some (av_i a9)), none, (some (av_i a11)), none, (some (av_i a13))] [] s (some (av_i q.1), q.2) := by
  unfold fb_L_law_307 at h
  refine ax_iload (i := 13) dL_law_307 rfl ?_
  refine ax_if_eq (tgt := 325) dL_law_309 (by decide) (fun c47 => ?_) (fun c47 => ?_)
  · rw [if_pos c47] at h
    refine ax_iload (i := 11) dL_law_325 rfl ?_
    refine ax_sipush (v := (-1001 : Int32)) dL_law_327 rfl ?_
    refine ax_icmp_eq (tgt := 341) dL_law_330 (by decide) (fun c48 => ?_) (fun c48 => ?_)
    · rw [if_pos c48] at h
      exact ax_less (L' := [(some (av_r a0)), (some (av_r a1)), (some (av_r a2)), (some (av_r a3)), none, none, (some (av_i a6)), none, (some (av_i a8)), (some (av_i a9)), none, none, none, none]) ⟨rfl, rfl, rfl, rfl, rfl, rfl, rfl, trivial⟩ (tb_L_law_341 hk139 h)
    · rw [if_neg c48] at h
      refine ax_iload (i := 11) dL_law_333 rfl ?_
      refine ax_sipush (v := (-1003 : Int32)) dL_law_335 rfl ?_
      refine ax_icmp_ne (tgt := 345) dL_law_338 (by decide) (fun c49 => ?_) (fun c49 => ?_)
      · rw [if_neg c49] at h
        refine ax_iconst (v := (0 : Int32)) dL_law_345 rfl ?_
        exact ax_less (L' := [(some (av_r a0)), (some (av_r a1)), (some (av_r a2)), (some (av_r a3)), none, none, (some (av_i a6)), none, (some (av_i a8)), (some (av_i a9)), none, none, none, none]) ⟨rfl, rfl, rfl, rfl, rfl, rfl, rfl, trivial⟩ (tb_L_law_346 hk139 h)
      · rw [if_pos c49] at h
        exact ax_less (L' := [(some (av_r a0)), (some (av_r a1)), (some (av_r a2)), (some (av_r a3)), none, none, (some (av_i a6)), none, (some (av_i a8)), (some (av_i a9)), none, none, none, none]) ⟨rfl, rfl, rfl, rfl, rfl, rfl, rfl, trivial⟩ (tb_L_law_341 hk139 h)
  · rw [if_neg c47] at h
    refine ax_iload (i := 11) dL_law_312 rfl ?_
    refine ax_if_lt (tgt := 321) dL_law_314 (by decide) (fun c50 => ?_) (fun c50 => ?_)
    · rw [if_pos c50] at h
      refine ax_iconst (v := (0 : Int32)) dL_law_321 rfl ?_
      refine ax_goto (tgt := 346) dL_law_322 (by decide) ?_
      exact ax_less (L' := [(some (av_r a0)), (some (av_r a1)), (some (av_r a2)), (some (av_r a3)), none, none, (some (av_i a6)), none, (some (av_i a8)), (some (av_i a9)), none, none, none, none]) ⟨rfl, rfl, rfl, rfl, rfl, rfl, rfl, trivial⟩ (tb_L_law_346 hk139 h)
    · rw [if_neg c50] at h
      refine ax_iconst (v := (1 : Int32)) dL_law_317 rfl ?_
      refine ax_goto (tgt := 346) dL_law_318 (by decide) ?_
      exact ax_less (L' := [(some (av_r a0)), (some (av_r a1)), (some (av_r a2)), (some (av_r a3)), none, none, (some (av_i a6)), none, (some (av_i a8)), (some (av_i a9)), none, none, none, none]) ⟨rfl, rfl, rfl, rfl, rfl, rfl, rfl, trivial⟩ (tb_L_law_346 hk139 h)
def fb_L_law_267 (k139 : Option Nat → Option Nat → Option Nat → Option Nat → Int32 → Int32 → Int32 → ax_S → Option (Int32 × ax_S)) (a0 : Option Nat) (a1 : Option Nat) (a2 : Option Nat) (a3 : Option Nat) (a6 : Int32) (a8 : Int32) (a9 : Int32) (a10 : Int32) (a12 : Int32) (b0 : Int32) (s : ax_S) : Option (Int32 × ax_S) :=
  (if (3 : Int32) = 0 then none else some ()).bind fun u51 =>
  (ax_sh s 6 a1).bind fun w52 =>
  (fn_X9_connect a1 a10 ((a9 >>> ((11 : Int32) &&& 31)) - (a9 >>> ((11 : Int32) &&& 31)) / (3 : Int32) * (3 : Int32)) a12 s).bind fun q53 =>
  if b0 = 0 then
    fb_L_law_307 k139 a0 a1 a2 a3 a6 a8 a9 q53.1 b0 q53.2
  else
    (if (3 : Int32) = 0 then none else some ()).bind fun u55 =>
    (ax_as q53.2 9 a3 (((3 : Int32) * a10) + ((a9 >>> ((11 : Int32) &&& 31)) - (a9 >>> ((11 : Int32) &&& 31)) / (3 : Int32) * (3 : Int32))) a12).bind fun s56 =>
    fb_L_law_307 k139 a0 a1 a2 a3 a6 a8 a9 q53.1 b0 s56
set_option maxRecDepth 100000 in
set_option maxHeartbeats 4000000 in
theorem tb_L_law_267 {q : Int32 × ax_S} {k139 : Option Nat → Option Nat → Option Nat → Option Nat → Int32 → Int32 → Int32 → ax_S → Option (Int32 × ax_S)} (hk139 : ∀ (a0 : Option Nat) (a1 : Option Nat) (a2 : Option Nat) (a3 : Option Nat) (a6 : Int32) (a7 : Int32) (a8 : Int32) (s : ax_S), k139 a0 a1 a2 a3 a6 a7 a8 s = some q → AW mm_L_law 73 0 0 139 [(some (av_r a0)), (some (av_r a1)), (some (av_r a2)), (some (av_r a3)), none, none, (some (av_i a6)), (some (av_i a7)), (some (av_i a8)), none, none, none, none, none] [] s (some (av_i q.1), q.2)) {a0 : Option Nat} {a1 : Option Nat} {a2 : Option Nat} {a3 : Option Nat} {a6 : Int32} {a8 : Int32} {a9 : Int32} {a10 : Int32} {a12 : Int32} {b0 : Int32} {s : ax_S} (h : fb_L_law_267 k139 a0 a1 a2 a3 a6 a8 a9 a10 a12 b0 s = some q) : AW mm_L_law 73 0 0 267 [(some (av_r a0)), (some (av_r a1)), (some (av_r a2)), (some (av_r a3)), none, none, (some (av_i a6)), none, (some (av_i a8)), (some (av_i a9)), (some (av_i a10)), none, (some (av_i a12)), none] [av_i b0] s (some (av_i q.1), q.2) := by
  unfold fb_L_law_267 at h
  refine ax_istore (i := 13) (L2 := [some (av_r a0), some (av_r a1), some (av_r a2), some (av_r a3), none, none, some (av_i a6), none, some (av_i a8), some (av_i a9), some (av_i a10), none, some (av_i a12), some (av_i b0)]) dL_law_267 (by decide) rfl rfl ?_
  refine ax_aload_n (i := 1) dL_law_269 rfl rfl ?_
  refine ax_iload (i := 10) dL_law_270 rfl ?_
  refine ax_iload (i := 9) dL_law_272 rfl ?_
  refine ax_bipush (v := (11 : Int32)) dL_law_274 rfl ?_
  refine ax_ishr dL_law_276 ?_
  refine ax_iconst (v := (3 : Int32)) dL_law_277 rfl ?_
  obtain ⟨u51, gu51, h⟩ := Option.bind_eq_some_iff.mp h
  refine ax_irem dL_law_278 (ax_ne_of gu51) ?_
  refine ax_iload (i := 12) dL_law_279 rfl ?_
  obtain ⟨w52, gw52, h⟩ := Option.bind_eq_some_iff.mp h
  obtain ⟨q53, gq53, h⟩ := Option.bind_eq_some_iff.mp h
  refine ax_cV (As := [av_i a10, av_i ((a9 >>> ((11 : Int32) &&& 31)) - (a9 >>> ((11 : Int32) &&& 31)) / (3 : Int32) * (3 : Int32)), av_i a12]) (t := 6) dL_law_281 gw52 (th_X9_connect gq53) rfl (And.intro wd_248 wd_18) wd_245 wd_246 wd_247 cy_X9_connect (by omega) (by decide) (Nat.le_of_ble_eq_true rfl) rfl ?_
  refine ax_istore (i := 11) (L2 := [some (av_r a0), some (av_r a1), some (av_r a2), some (av_r a3), none, none, some (av_i a6), none, some (av_i a8), some (av_i a9), some (av_i a10), some (av_i q53.1), some (av_i a12), some (av_i b0)]) dL_law_284 (by decide) rfl rfl ?_
  refine ax_iload (i := 13) dL_law_286 rfl ?_
  refine ax_if_eq (tgt := 307) dL_law_288 (by decide) (fun c54 => ?_) (fun c54 => ?_)
  · rw [if_pos c54] at h
    exact ax_less (L' := [(some (av_r a0)), (some (av_r a1)), (some (av_r a2)), (some (av_r a3)), none, none, (some (av_i a6)), none, (some (av_i a8)), (some (av_i a9)), none, (some (av_i q53.1)), none, (some (av_i b0))]) ⟨rfl, rfl, rfl, rfl, rfl, rfl, rfl, rfl, rfl, trivial⟩ (tb_L_law_307 hk139 h)
  · rw [if_neg c54] at h
    refine ax_aload_n (i := 3) dL_law_291 rfl rfl ?_
    refine ax_iconst (v := (3 : Int32)) dL_law_292 rfl ?_
    refine ax_iload (i := 10) dL_law_293 rfl ?_
    refine ax_imul dL_law_295 ?_
    refine ax_iload (i := 9) dL_law_296 rfl ?_
    refine ax_bipush (v := (11 : Int32)) dL_law_298 rfl ?_
    refine ax_ishr dL_law_300 ?_
    refine ax_iconst (v := (3 : Int32)) dL_law_301 rfl ?_
    obtain ⟨u55, gu55, h⟩ := Option.bind_eq_some_iff.mp h
    refine ax_irem dL_law_302 (ax_ne_of gu55) ?_
    refine ax_iadd dL_law_303 ?_
    refine ax_iload (i := 12) dL_law_304 rfl ?_
    obtain ⟨s56, gs56, h⟩ := Option.bind_eq_some_iff.mp h
    refine ax_iast dL_law_306 gs56 ?_
    exact ax_less (L' := [(some (av_r a0)), (some (av_r a1)), (some (av_r a2)), (some (av_r a3)), none, none, (some (av_i a6)), none, (some (av_i a8)), (some (av_i a9)), none, (some (av_i q53.1)), none, (some (av_i b0))]) ⟨rfl, rfl, rfl, rfl, rfl, rfl, rfl, rfl, rfl, trivial⟩ (tb_L_law_307 hk139 h)
def fb_L_law_266 (k139 : Option Nat → Option Nat → Option Nat → Option Nat → Int32 → Int32 → Int32 → ax_S → Option (Int32 × ax_S)) (a0 : Option Nat) (a1 : Option Nat) (a2 : Option Nat) (a3 : Option Nat) (a6 : Int32) (a8 : Int32) (a9 : Int32) (a10 : Int32) (a12 : Int32) (s : ax_S) : Option (Int32 × ax_S) :=
  fb_L_law_267 k139 a0 a1 a2 a3 a6 a8 a9 a10 a12 (0 : Int32) s
set_option maxRecDepth 100000 in
set_option maxHeartbeats 4000000 in
theorem tb_L_law_266 {q : Int32 × ax_S} {k139 : Option Nat → Option Nat → Option Nat → Option Nat → Int32 → Int32 → Int32 → ax_S → Option (Int32 × ax_S)} (hk139 : ∀ (a0 : Option Nat) (a1 : Option Nat) (a2 : Option Nat) (a3 : Option Nat) (a6 : Int32) (a7 : Int32) (a8 : Int32) (s : ax_S), k139 a0 a1 a2 a3 a6 a7 a8 s = some q → AW mm_L_law 73 0 0 139 [(some (av_r a0)), (some (av_r a1)), (some (av_r a2)), (some (av_r a3)), none, none, (some (av_i a6)), (some (av_i a7)), (some (av_i a8)), none, none, none, none, none] [] s (some (av_i q.1), q.2)) {a0 : Option Nat} {a1 : Option Nat} {a2 : Option Nat} {a3 : Option Nat} {a6 : Int32} {a8 : Int32} {a9 : Int32} {a10 : Int32} {a12 : Int32} {s : ax_S} (h : fb_L_law_266 k139 a0 a1 a2 a3 a6 a8 a9 a10 a12 s = some q) : AW mm_L_law 73 0 0 266 [(some (av_r a0)), (some (av_r a1)), (some (av_r a2)), (some (av_r a3)), none, none, (some (av_i a6)), none, (some (av_i a8)), (some (av_i a9)), (some (av_i a10)), none, (some (av_i a12)), none] [] s (some (av_i q.1), q.2) := by
  unfold fb_L_law_266 at h
  refine ax_iconst (v := (0 : Int32)) dL_law_266 rfl ?_
  exact ax_less (L' := [(some (av_r a0)), (some (av_r a1)), (some (av_r a2)), (some (av_r a3)), none, none, (some (av_i a6)), none, (some (av_i a8)), (some (av_i a9)), (some (av_i a10)), none, (some (av_i a12)), none]) ⟨rfl, rfl, rfl, rfl, rfl, rfl, rfl, rfl, rfl, trivial⟩ (tb_L_law_267 hk139 h)
def fb_L_law_427 (k139 : Option Nat → Option Nat → Option Nat → Option Nat → Int32 → Int32 → Int32 → ax_S → Option (Int32 × ax_S)) (a0 : Option Nat) (a1 : Option Nat) (a2 : Option Nat) (a3 : Option Nat) (a6 : Int32) (a8 : Int32) (a9 : Int32) (b0 : Int32) (s : ax_S) : Option (Int32 × ax_S) :=
  fb_L_law_565 k139 a0 a1 a2 a3 a6 b0 a8 a9 s
set_option maxRecDepth 100000 in
set_option maxHeartbeats 4000000 in
theorem tb_L_law_427 {q : Int32 × ax_S} {k139 : Option Nat → Option Nat → Option Nat → Option Nat → Int32 → Int32 → Int32 → ax_S → Option (Int32 × ax_S)} (hk139 : ∀ (a0 : Option Nat) (a1 : Option Nat) (a2 : Option Nat) (a3 : Option Nat) (a6 : Int32) (a7 : Int32) (a8 : Int32) (s : ax_S), k139 a0 a1 a2 a3 a6 a7 a8 s = some q → AW mm_L_law 73 0 0 139 [(some (av_r a0)), (some (av_r a1)), (some (av_r a2)), (some (av_r a3)), none, none, (some (av_i a6)), (some (av_i a7)), (some (av_i a8)), none, none, none, none, none] [] s (some (av_i q.1), q.2)) {a0 : Option Nat} {a1 : Option Nat} {a2 : Option Nat} {a3 : Option Nat} {a6 : Int32} {a8 : Int32} {a9 : Int32} {b0 : Int32} {s : ax_S} (h : fb_L_law_427 k139 a0 a1 a2 a3 a6 a8 a9 b0 s = some q) : AW mm_L_law 73 0 0 427 [(some (av_r a0)), (some (av_r a1)), (some (av_r a2)), (some (av_r a3)), none, none, (some (av_i a6)), none, (some (av_i a8)), (some (av_i a9)), none, none, none, none] [av_i b0] s (some (av_i q.1), q.2) := by
  unfold fb_L_law_427 at h
  refine ax_istore (i := 7) (L2 := [some (av_r a0), some (av_r a1), some (av_r a2), some (av_r a3), none, none, some (av_i a6), some (av_i b0), some (av_i a8), some (av_i a9), none, none, none, none]) dL_law_427 (by decide) rfl rfl ?_
  refine ax_goto (tgt := 565) dL_law_429 (by decide) ?_
  exact ax_less (L' := [(some (av_r a0)), (some (av_r a1)), (some (av_r a2)), (some (av_r a3)), none, none, (some (av_i a6)), (some (av_i b0)), (some (av_i a8)), (some (av_i a9)), none, none, none, none]) ⟨rfl, rfl, rfl, rfl, rfl, rfl, rfl, rfl, trivial⟩ (tb_L_law_565 hk139 h)
def fb_L_law_406 (k139 : Option Nat → Option Nat → Option Nat → Option Nat → Int32 → Int32 → Int32 → ax_S → Option (Int32 × ax_S)) (a0 : Option Nat) (a1 : Option Nat) (a2 : Option Nat) (a3 : Option Nat) (a6 : Int32) (a8 : Int32) (a9 : Int32) (s : ax_S) : Option (Int32 × ax_S) :=
  fb_L_law_427 k139 a0 a1 a2 a3 a6 a8 a9 (1 : Int32) s
set_option maxRecDepth 100000 in
set_option maxHeartbeats 4000000 in
theorem tb_L_law_406 {q : Int32 × ax_S} {k139 : Option Nat → Option Nat → Option Nat → Option Nat → Int32 → Int32 → Int32 → ax_S → Option (Int32 × ax_S)} (hk139 : ∀ (a0 : Option Nat) (a1 : Option Nat) (a2 : Option Nat) (a3 : Option Nat) (a6 : Int32) (a7 : Int32) (a8 : Int32) (s : ax_S), k139 a0 a1 a2 a3 a6 a7 a8 s = some q → AW mm_L_law 73 0 0 139 [(some (av_r a0)), (some (av_r a1)), (some (av_r a2)), (some (av_r a3)), none, none, (some (av_i a6)), (some (av_i a7)), (some (av_i a8)), none, none, none, none, none] [] s (some (av_i q.1), q.2)) {a0 : Option Nat} {a1 : Option Nat} {a2 : Option Nat} {a3 : Option Nat} {a6 : Int32} {a8 : Int32} {a9 : Int32} {s : ax_S} (h : fb_L_law_406 k139 a0 a1 a2 a3 a6 a8 a9 s = some q) : AW mm_L_law 73 0 0 406 [(some (av_r a0)), (some (av_r a1)), (some (av_r a2)), (some (av_r a3)), none, none, (some (av_i a6)), none, (some (av_i a8)), (some (av_i a9)), none, none, none, none] [] s (some (av_i q.1), q.2) := by
  unfold fb_L_law_406 at h
  refine ax_iconst (v := (1 : Int32)) dL_law_406 rfl ?_
  refine ax_goto (tgt := 427) dL_law_407 (by decide) ?_
  exact ax_less (L' := [(some (av_r a0)), (some (av_r a1)), (some (av_r a2)), (some (av_r a3)), none, none, (some (av_i a6)), none, (some (av_i a8)), (some (av_i a9)), none, none, none, none]) ⟨rfl, rfl, rfl, rfl, rfl, rfl, rfl, trivial⟩ (tb_L_law_427 hk139 h)
def fb_L_law_475 (k139 : Option Nat → Option Nat → Option Nat → Option Nat → Int32 → Int32 → Int32 → ax_S → Option (Int32 × ax_S)) (a0 : Option Nat) (a1 : Option Nat) (a2 : Option Nat) (a3 : Option Nat) (a6 : Int32) (a8 : Int32) (a9 : Int32) (b0 : Int32) (s : ax_S) : Option (Int32 × ax_S) :=
  fb_L_law_565 k139 a0 a1 a2 a3 a6 b0 a8 a9 s
set_option maxRecDepth 100000 in
set_option maxHeartbeats 4000000 in
theorem tb_L_law_475 {q : Int32 × ax_S} {k139 : Option Nat → Option Nat → Option Nat → Option Nat → Int32 → Int32 → Int32 → ax_S → Option (Int32 × ax_S)} (hk139 : ∀ (a0 : Option Nat) (a1 : Option Nat) (a2 : Option Nat) (a3 : Option Nat) (a6 : Int32) (a7 : Int32) (a8 : Int32) (s : ax_S), k139 a0 a1 a2 a3 a6 a7 a8 s = some q → AW mm_L_law 73 0 0 139 [(some (av_r a0)), (some (av_r a1)), (some (av_r a2)), (some (av_r a3)), none, none, (some (av_i a6)), (some (av_i a7)), (some (av_i a8)), none, none, none, none, none] [] s (some (av_i q.1), q.2)) {a0 : Option Nat} {a1 : Option Nat} {a2 : Option Nat} {a3 : Option Nat} {a6 : Int32} {a8 : Int32} {a9 : Int32} {b0 : Int32} {s : ax_S} (h : fb_L_law_475 k139 a0 a1 a2 a3 a6 a8 a9 b0 s = some q) : AW mm_L_law 73 0 0 475 [(some (av_r a0)), (some (av_r a1)), (some (av_r a2)), (some (av_r a3)), none, none, (some (av_i a6)), none, (some (av_i a8)), (some (av_i a9)), none, none, none, none] [av_i b0] s (some (av_i q.1), q.2) := by
  unfold fb_L_law_475 at h
  refine ax_istore (i := 7) (L2 := [some (av_r a0), some (av_r a1), some (av_r a2), some (av_r a3), none, none, some (av_i a6), some (av_i b0), some (av_i a8), some (av_i a9), none, none, none, none]) dL_law_475 (by decide) rfl rfl ?_
  refine ax_goto (tgt := 565) dL_law_477 (by decide) ?_
  exact ax_less (L' := [(some (av_r a0)), (some (av_r a1)), (some (av_r a2)), (some (av_r a3)), none, none, (some (av_i a6)), (some (av_i b0)), (some (av_i a8)), (some (av_i a9)), none, none, none, none]) ⟨rfl, rfl, rfl, rfl, rfl, rfl, rfl, rfl, trivial⟩ (tb_L_law_565 hk139 h)
def fb_L_law_516 (k139 : Option Nat → Option Nat → Option Nat → Option Nat → Int32 → Int32 → Int32 → ax_S → Option (Int32 × ax_S)) (a0 : Option Nat) (a1 : Option Nat) (a2 : Option Nat) (a3 : Option Nat) (a6 : Int32) (a8 : Int32) (a9 : Int32) (b0 : Int32) (s : ax_S) : Option (Int32 × ax_S) :=
  fb_L_law_565 k139 a0 a1 a2 a3 a6 b0 a8 a9 s
set_option maxRecDepth 100000 in
set_option maxHeartbeats 4000000 in
theorem tb_L_law_516 {q : Int32 × ax_S} {k139 : Option Nat → Option Nat → Option Nat → Option Nat → Int32 → Int32 → Int32 → ax_S → Option (Int32 × ax_S)} (hk139 : ∀ (a0 : Option Nat) (a1 : Option Nat) (a2 : Option Nat) (a3 : Option Nat) (a6 : Int32) (a7 : Int32) (a8 : Int32) (s : ax_S), k139 a0 a1 a2 a3 a6 a7 a8 s = some q → AW mm_L_law 73 0 0 139 [(some (av_r a0)), (some (av_r a1)), (some (av_r a2)), (some (av_r a3)), none, none, (some (av_i a6)), (some (av_i a7)), (some (av_i a8)), none, none, none, none, none] [] s (some (av_i q.1), q.2)) {a0 : Option Nat} {a1 : Option Nat} {a2 : Option Nat} {a3 : Option Nat} {a6 : Int32} {a8 : Int32} {a9 : Int32} {b0 : Int32} {s : ax_S} (h : fb_L_law_516 k139 a0 a1 a2 a3 a6 a8 a9 b0 s = some q) : AW mm_L_law 73 0 0 516 [(some (av_r a0)), (some (av_r a1)), (some (av_r a2)), (some (av_r a3)), none, none, (some (av_i a6)), none, (some (av_i a8)), (some (av_i a9)), none, none, none, none] [av_i b0] s (some (av_i q.1), q.2) := by
  unfold fb_L_law_516 at h
  refine ax_istore (i := 7) (L2 := [some (av_r a0), some (av_r a1), some (av_r a2), some (av_r a3), none, none, some (av_i a6), some (av_i b0), some (av_i a8), some (av_i a9), none, none, none, none]) dL_law_516 (by decide) rfl rfl ?_
  refine ax_goto (tgt := 565) dL_law_518 (by decide) ?_
  exact ax_less (L' := [(some (av_r a0)), (some (av_r a1)), (some (av_r a2)), (some (av_r a3)), none, none, (some (av_i a6)), (some (av_i b0)), (some (av_i a8)), (some (av_i a9)), none, none, none, none]) ⟨rfl, rfl, rfl, rfl, rfl, rfl, rfl, rfl, trivial⟩ (tb_L_law_565 hk139 h)
def fb_L_law_515 (k139 : Option Nat → Option Nat → Option Nat → Option Nat → Int32 → Int32 → Int32 → ax_S → Option (Int32 × ax_S)) (a0 : Option Nat) (a1 : Option Nat) (a2 : Option Nat) (a3 : Option Nat) (a6 : Int32) (a8 : Int32) (a9 : Int32) (s : ax_S) : Option (Int32 × ax_S) :=
  fb_L_law_516 k139 a0 a1 a2 a3 a6 a8 a9 (0 : Int32) s
set_option maxRecDepth 100000 in
set_option maxHeartbeats 4000000 in
theorem tb_L_law_515 {q : Int32 × ax_S} {k139 : Option Nat → Option Nat → Option Nat → Option Nat → Int32 → Int32 → Int32 → ax_S → Option (Int32 × ax_S)} (hk139 : ∀ (a0 : Option Nat) (a1 : Option Nat) (a2 : Option Nat) (a3 : Option Nat) (a6 : Int32) (a7 : Int32) (a8 : Int32) (s : ax_S), k139 a0 a1 a2 a3 a6 a7 a8 s = some q → AW mm_L_law 73 0 0 139 [(some (av_r a0)), (some (av_r a1)), (some (av_r a2)), (some (av_r a3)), none, none, (some (av_i a6)), (some (av_i a7)), (some (av_i a8)), none, none, none, none, none] [] s (some (av_i q.1), q.2)) {a0 : Option Nat} {a1 : Option Nat} {a2 : Option Nat} {a3 : Option Nat} {a6 : Int32} {a8 : Int32} {a9 : Int32} {s : ax_S} (h : fb_L_law_515 k139 a0 a1 a2 a3 a6 a8 a9 s = some q) : AW mm_L_law 73 0 0 515 [(some (av_r a0)), (some (av_r a1)), (some (av_r a2)), (some (av_r a3)), none, none, (some (av_i a6)), none, (some (av_i a8)), (some (av_i a9)), none, none, none, none] [] s (some (av_i q.1), q.2) := by
  unfold fb_L_law_515 at h
  refine ax_iconst (v := (0 : Int32)) dL_law_515 rfl ?_
  exact ax_less (L' := [(some (av_r a0)), (some (av_r a1)), (some (av_r a2)), (some (av_r a3)), none, none, (some (av_i a6)), none, (some (av_i a8)), (some (av_i a9)), none, none, none, none]) ⟨rfl, rfl, rfl, rfl, rfl, rfl, rfl, trivial⟩ (tb_L_law_516 hk139 h)
def fb_L_law_139 : Nat → Option Nat → Option Nat → Option Nat → Option Nat → Int32 → Int32 → Int32 → ax_S → Option (Int32 × ax_S)
  | 0, _, _, _, _, _, _, _, _ => none
  | n + 1, a0, a1, a2, a3, a6, a7, a8, s =>
    if (22 : Int32) ≤ a8 then
      fb_L_law_637 a1 a6 a7 s
    else
      if a7 = 0 then
        fb_L_law_637 a1 a6 a7 s
      else
        (fn_L_cell a0 ((11 : Int32) + a8) s).bind fun q59 =>
        (if a6 = 0 then none else some ()).bind fun u60 =>
        ax_bd (((q59.1 >>> ((3 : Int32) &&& 31)) - (q59.1 >>> ((3 : Int32) &&& 31)) / a6 * a6)) fun v61 =>
        ax_bd ((q59.1 &&& (7 : Int32))) fun v62 =>
        if v62 = 0 then
          (if a6 = 0 then none else some ()).bind fun u64 =>
          ax_bd (((q59.1 >>> ((7 : Int32) &&& 31)) - (q59.1 >>> ((7 : Int32) &&& 31)) / a6 * a6)) fun v65 =>
          (if (3 : Int32) = 0 then none else some ()).bind fun u66 =>
          (ax_al q59.2 9 a2 ((3 : Int32) * v61)).bind fun x67 =>
          (fn_L_inputs x67 q59.2).bind fun q68 =>
          if q68.1 ≤ ((q59.1 >>> ((11 : Int32) &&& 31)) - (q59.1 >>> ((11 : Int32) &&& 31)) / (3 : Int32) * (3 : Int32)) then
            fb_L_law_266 (fb_L_law_139 n) a0 a1 a2 a3 a6 a8 q59.1 v61 v65 q68.2
          else
            (fn_L_depends a3 a6 v65 v61 q68.2).bind fun q70 =>
            if q70.1 = 0 then
              fb_L_law_267 (fb_L_law_139 n) a0 a1 a2 a3 a6 a8 q59.1 v61 v65 (1 : Int32) q70.2
            else
              fb_L_law_266 (fb_L_law_139 n) a0 a1 a2 a3 a6 a8 q59.1 v61 v65 q70.2
        else
        if v62 = 1 then
          (if a6 = 0 then none else some ()).bind fun u73 =>
          ax_bd (((q59.1 >>> ((7 : Int32) &&& 31)) - (q59.1 >>> ((7 : Int32) &&& 31)) / a6 * a6)) fun v74 =>
          (if (3 : Int32) = 0 then none else some ()).bind fun u75 =>
          (ax_al q59.2 9 a2 ((3 : Int32) * v61)).bind fun x76 =>
          (fn_L_inputs x76 q59.2).bind fun q77 =>
          if q77.1 ≤ ((q59.1 >>> ((11 : Int32) &&& 31)) - (q59.1 >>> ((11 : Int32) &&& 31)) / (3 : Int32) * (3 : Int32)) then
            fb_L_law_266 (fb_L_law_139 n) a0 a1 a2 a3 a6 a8 q59.1 v61 v74 q77.2
          else
            (fn_L_depends a3 a6 v74 v61 q77.2).bind fun q79 =>
            if q79.1 = 0 then
              fb_L_law_267 (fb_L_law_139 n) a0 a1 a2 a3 a6 a8 q59.1 v61 v74 (1 : Int32) q79.2
            else
              fb_L_law_266 (fb_L_law_139 n) a0 a1 a2 a3 a6 a8 q59.1 v61 v74 q79.2
        else
        if v62 = 2 then
          (if a6 = 0 then none else some ()).bind fun u82 =>
          ax_bd (((q59.1 >>> ((7 : Int32) &&& 31)) - (q59.1 >>> ((7 : Int32) &&& 31)) / a6 * a6)) fun v83 =>
          (if (3 : Int32) = 0 then none else some ()).bind fun u84 =>
          (ax_al q59.2 9 a2 ((3 : Int32) * v61)).bind fun x85 =>
          (fn_L_inputs x85 q59.2).bind fun q86 =>
          if q86.1 ≤ ((q59.1 >>> ((11 : Int32) &&& 31)) - (q59.1 >>> ((11 : Int32) &&& 31)) / (3 : Int32) * (3 : Int32)) then
            fb_L_law_266 (fb_L_law_139 n) a0 a1 a2 a3 a6 a8 q59.1 v61 v83 q86.2
          else
            (fn_L_depends a3 a6 v83 v61 q86.2).bind fun q88 =>
            if q88.1 = 0 then
              fb_L_law_267 (fb_L_law_139 n) a0 a1 a2 a3 a6 a8 q59.1 v61 v83 (1 : Int32) q88.2
            else
              fb_L_law_266 (fb_L_law_139 n) a0 a1 a2 a3 a6 a8 q59.1 v61 v83 q88.2
        else
        if v62 = 3 then
          (if (4 : Int32) = 0 then none else some ()).bind fun u91 =>
          (if (100 : Int32) = 0 then none else some ()).bind fun u92 =>
          (ax_sh q59.2 6 a1).bind fun w93 =>
          (fn_X9_set a1 v61 ((q59.1 >>> ((7 : Int32) &&& 31)) - (q59.1 >>> ((7 : Int32) &&& 31)) / (4 : Int32) * (4 : Int32)) ((q59.1 >>> ((9 : Int32) &&& 31)) - (q59.1 >>> ((9 : Int32) &&& 31)) / (100 : Int32) * (100 : Int32)) q59.2).bind fun q94 =>
          (if (4 : Int32) = 0 then none else some ()).bind fun u95 =>
          (ax_al q94.2 9 a2 ((3 : Int32) * v61)).bind fun x96 =>
          (fn_L_parameters x96 q94.2).bind fun q97 =>
          if q97.1 ≤ ((q59.1 >>> ((7 : Int32) &&& 31)) - (q59.1 >>> ((7 : Int32) &&& 31)) / (4 : Int32) * (4 : Int32)) then
            if q94.1 = (-1001 : Int32) then
              fb_L_law_427 (fb_L_law_139 n) a0 a1 a2 a3 a6 a8 q59.1 (1 : Int32) q97.2
            else
              fb_L_law_427 (fb_L_law_139 n) a0 a1 a2 a3 a6 a8 q59.1 (0 : Int32) q97.2
          else
            if 0 ≤ q94.1 then
              fb_L_law_406 (fb_L_law_139 n) a0 a1 a2 a3 a6 a8 q59.1 q97.2
            else
              if q94.1 = (-1002 : Int32) then
                fb_L_law_406 (fb_L_law_139 n) a0 a1 a2 a3 a6 a8 q59.1 q97.2
              else
                fb_L_law_427 (fb_L_law_139 n) a0 a1 a2 a3 a6 a8 q59.1 (0 : Int32) q97.2
        else
        if v62 = 4 then
          (if (4 : Int32) = 0 then none else some ()).bind fun u103 =>
          (if (100 : Int32) = 0 then none else some ()).bind fun u104 =>
          (ax_sh q59.2 6 a1).bind fun w105 =>
          (fn_X9_set a1 v61 ((q59.1 >>> ((7 : Int32) &&& 31)) - (q59.1 >>> ((7 : Int32) &&& 31)) / (4 : Int32) * (4 : Int32)) ((q59.1 >>> ((9 : Int32) &&& 31)) - (q59.1 >>> ((9 : Int32) &&& 31)) / (100 : Int32) * (100 : Int32)) q59.2).bind fun q106 =>
          (if (4 : Int32) = 0 then none else some ()).bind fun u107 =>
          (ax_al q106.2 9 a2 ((3 : Int32) * v61)).bind fun x108 =>
          (fn_L_parameters x108 q106.2).bind fun q109 =>
          if q109.1 ≤ ((q59.1 >>> ((7 : Int32) &&& 31)) - (q59.1 >>> ((7 : Int32) &&& 31)) / (4 : Int32) * (4 : Int32)) then
            if q106.1 = (-1001 : Int32) then
              fb_L_law_427 (fb_L_law_139 n) a0 a1 a2 a3 a6 a8 q59.1 (1 : Int32) q109.2
            else
              fb_L_law_427 (fb_L_law_139 n) a0 a1 a2 a3 a6 a8 q59.1 (0 : Int32) q109.2
          else
            if 0 ≤ q106.1 then
              fb_L_law_406 (fb_L_law_139 n) a0 a1 a2 a3 a6 a8 q59.1 q109.2
            else
              if q106.1 = (-1002 : Int32) then
                fb_L_law_406 (fb_L_law_139 n) a0 a1 a2 a3 a6 a8 q59.1 q109.2
              else
                fb_L_law_427 (fb_L_law_139 n) a0 a1 a2 a3 a6 a8 q59.1 (0 : Int32) q109.2
        else
        if v62 = 5 then
          (if (9 : Int32) = 0 then none else some ()).bind fun u115 =>
          (if (9 : Int32) = 0 then none else some ()).bind fun u116 =>
          (if (20 : Int32) = 0 then none else some ()).bind fun u117 =>
          (ax_sh q59.2 6 a1).bind fun w118 =>
          (fn_X9_setRange a1 v61 ((q59.1 >>> ((7 : Int32) &&& 31)) - (q59.1 >>> ((7 : Int32) &&& 31)) / (9 : Int32) * (9 : Int32)) (((q59.1 >>> ((7 : Int32) &&& 31)) - (q59.1 >>> ((7 : Int32) &&& 31)) / (9 : Int32) * (9 : Int32)) + ((q59.1 >>> ((11 : Int32) &&& 31)) - (q59.1 >>> ((11 : Int32) &&& 31)) / (20 : Int32) * (20 : Int32))) q59.2).bind fun q119 =>
          if q119.1 < 0 then
            fb_L_law_475 (fb_L_law_139 n) a0 a1 a2 a3 a6 a8 q59.1 (0 : Int32) q119.2
          else
            fb_L_law_475 (fb_L_law_139 n) a0 a1 a2 a3 a6 a8 q59.1 (1 : Int32) q119.2
        else
        if v62 = 6 then
          (if (37 : Int32) = 0 then none else some ()).bind fun u122 =>
          (ax_sh q59.2 6 a1).bind fun w123 =>
          (fn_X9_setRoom a1 ((12 : Int32) + ((q59.1 >>> ((7 : Int32) &&& 31)) - (q59.1 >>> ((7 : Int32) &&& 31)) / (37 : Int32) * (37 : Int32))) q59.2).bind fun q124 =>
          if q124.1 < (12 : Int32) then
            fb_L_law_515 (fb_L_law_139 n) a0 a1 a2 a3 a6 a8 q59.1 q124.2
          else
            if (48 : Int32) < q124.1 then
              fb_L_law_515 (fb_L_law_139 n) a0 a1 a2 a3 a6 a8 q59.1 q124.2
            else
              fb_L_law_516 (fb_L_law_139 n) a0 a1 a2 a3 a6 a8 q59.1 (1 : Int32) q124.2
        else
        (if a6 = 0 then none else some ()).bind fun u127 =>
        (if (14 : Int32) = 0 then none else some ()).bind fun u128 =>
        (ax_sh q59.2 6 a1).bind fun w129 =>
        (fn_X9_compare a1 v61 ((q59.1 >>> ((7 : Int32) &&& 31)) - (q59.1 >>> ((7 : Int32) &&& 31)) / a6 * a6) ((q59.1 >>> ((11 : Int32) &&& 31)) - (q59.1 >>> ((11 : Int32) &&& 31)) / (14 : Int32) * (14 : Int32)) q59.2).bind fun q130 =>
        if q130.1 < 0 then
          fb_L_law_562 (fb_L_law_139 n) a0 a1 a2 a3 a6 a8 q59.1 q130.2
        else
          if (256 : Int32) ≤ q130.1 then
            fb_L_law_562 (fb_L_law_139 n) a0 a1 a2 a3 a6 a8 q59.1 q130.2
          else
            fb_L_law_563 (fb_L_law_139 n) a0 a1 a2 a3 a6 a8 q59.1 (1 : Int32) q130.2
set_option maxRecDepth 100000 in
set_option maxHeartbeats 4000000 in
theorem tb_L_law_139 {q : Int32 × ax_S} : ∀ (n : Nat) (a0 : Option Nat) (a1 : Option Nat) (a2 : Option Nat) (a3 : Option Nat) (a6 : Int32) (a7 : Int32) (a8 : Int32) (s : ax_S) (h : fb_L_law_139 n a0 a1 a2 a3 a6 a7 a8 s = some q), AW mm_L_law 73 0 0 139 [(some (av_r a0)), (some (av_r a1)), (some (av_r a2)), (some (av_r a3)), none, none, (some (av_i a6)), (some (av_i a7)), (some (av_i a8)), none, none, none, none, none] [] s (some (av_i q.1), q.2) := by
  intro n
  induction n with
  | zero =>
    intro a0 a1 a2 a3 a6 a7 a8 s h
    exact ax_no h
  | succ n ih =>
    intro a0 a1 a2 a3 a6 a7 a8 s h
    unfold fb_L_law_139 at h
    refine ax_iload (i := 8) dL_law_139 rfl ?_
    refine ax_bipush (v := (22 : Int32)) dL_law_141 rfl ?_
    refine ax_icmp_ge (tgt := 637) dL_law_143 (by decide) (fun c57 => ?_) (fun c57 => ?_)
    · rw [if_pos c57] at h
      exact ax_less (L' := [none, (some (av_r a1)), none, none, none, none, (some (av_i a6)), (some (av_i a7)), none, none, none, none, none, none]) ⟨rfl, rfl, rfl, trivial⟩ (tb_L_law_637  h)
    · rw [if_neg c57] at h
      refine ax_iload (i := 7) dL_law_146 rfl ?_
      refine ax_if_eq (tgt := 637) dL_law_148 (by decide) (fun c58 => ?_) (fun c58 => ?_)
      · rw [if_pos c58] at h
        exact ax_less (L' := [none, (some (av_r a1)), none, none, none, none, (some (av_i a6)), (some (av_i a7)), none, none, none, none, none, none]) ⟨rfl, rfl, rfl, trivial⟩ (tb_L_law_637  h)
      · rw [if_neg c58] at h
        refine ax_aload_n (i := 0) dL_law_151 rfl rfl ?_
        refine ax_bipush (v := (11 : Int32)) dL_law_152 rfl ?_
        refine ax_iload (i := 8) dL_law_154 rfl ?_
        refine ax_iadd dL_law_156 ?_
        obtain ⟨q59, gq59, h⟩ := Option.bind_eq_some_iff.mp h
        refine ax_cS (As := [av_r a0, av_i ((11 : Int32) + a8)]) dL_law_157 (th_L_cell gq59) (And.intro wd_643 wd_17) wd_641 wd_642 cy_L_cell (by omega) (by decide) (Nat.le_of_ble_eq_true rfl) rfl ?_
        refine ax_istore (i := 9) (L2 := [some (av_r a0), some (av_r a1), some (av_r a2), some (av_r a3), none, none, some (av_i a6), some (av_i a7), some (av_i a8), some (av_i q59.1), none, none, none, none]) dL_law_160 (by decide) rfl rfl ?_
        refine ax_iload (i := 9) dL_law_162 rfl ?_
        refine ax_iconst (v := (3 : Int32)) dL_law_164 rfl ?_
        refine ax_ishr dL_law_165 ?_
        refine ax_iload (i := 6) dL_law_166 rfl ?_
        obtain ⟨u60, gu60, h⟩ := Option.bind_eq_some_iff.mp h
        refine ax_irem dL_law_168 (ax_ne_of gu60) ?_
        refine ax_bdI h (fun v61 h => ?_)
        refine ax_istore (i := 10) (L2 := [some (av_r a0), some (av_r a1), some (av_r a2), some (av_r a3), none, none, some (av_i a6), some (av_i a7), some (av_i a8), some (av_i q59.1), some (av_i v61), none, none, none]) dL_law_169 (by decide) rfl rfl ?_
        refine ax_iconst (v := (0 : Int32)) dL_law_171 rfl ?_
        refine ax_istore (i := 11) (L2 := [some (av_r a0), some (av_r a1), some (av_r a2), some (av_r a3), none, none, some (av_i a6), some (av_i a7), some (av_i a8), some (av_i q59.1), some (av_i v61), some (av_i (0 : Int32)), none, none]) dL_law_172 (by decide) rfl rfl ?_
        refine ax_iload (i := 9) dL_law_174 rfl ?_
        refine ax_bipush (v := (7 : Int32)) dL_law_176 rfl ?_
        refine ax_iand dL_law_178 ?_
        refine ax_bdI h (fun v62 h => ?_)
        by_cases c63 : v62 = 0
        · rw [if_pos c63] at h
          refine ax_swC (c := 0) (off := 41) (tgt := 220) dL_law_179 c63 (by decide) (by decide) (by decide) rfl (by decide) ?_
          refine ax_iload (i := 9) dL_law_220 rfl ?_
          refine ax_bipush (v := (7 : Int32)) dL_law_222 rfl ?_
          refine ax_ishr dL_law_224 ?_
          refine ax_iload (i := 6) dL_law_225 rfl ?_
          obtain ⟨u64, gu64, h⟩ := Option.bind_eq_some_iff.mp h
          refine ax_irem dL_law_227 (ax_ne_of gu64) ?_
          refine ax_bdI h (fun v65 h => ?_)
          refine ax_istore (i := 12) (L2 := [some (av_r a0), some (av_r a1), some (av_r a2), some (av_r a3), none, none, some (av_i a6), some (av_i a7), some (av_i a8), some (av_i q59.1), some (av_i v61), some (av_i (0 : Int32)), some (av_i v65), none]) dL_law_228 (by decide) rfl rfl ?_
          refine ax_iload (i := 9) dL_law_230 rfl ?_
          refine ax_bipush (v := (11 : Int32)) dL_law_232 rfl ?_
          refine ax_ishr dL_law_234 ?_
          refine ax_iconst (v := (3 : Int32)) dL_law_235 rfl ?_
          obtain ⟨u66, gu66, h⟩ := Option.bind_eq_some_iff.mp h
          refine ax_irem dL_law_236 (ax_ne_of gu66) ?_
          refine ax_aload_n (i := 2) dL_law_237 rfl rfl ?_
          refine ax_iconst (v := (3 : Int32)) dL_law_238 rfl ?_
          refine ax_iload (i := 10) dL_law_239 rfl ?_
          refine ax_imul dL_law_241 ?_
          obtain ⟨x67, gx67, h⟩ := Option.bind_eq_some_iff.mp h
          refine ax_iald dL_law_242 gx67 ?_
          obtain ⟨q68, gq68, h⟩ := Option.bind_eq_some_iff.mp h
          refine ax_cS (As := [av_i x67]) dL_law_243 (th_L_inputs gq68) (And.intro wd_648 wd_17) wd_646 wd_647 cy_L_inputs (by omega) (by decide) (Nat.le_of_ble_eq_true rfl) rfl ?_
          refine ax_icmp_ge (tgt := 266) dL_law_246 (by decide) (fun c69 => ?_) (fun c69 => ?_)
          · rw [if_pos c69] at h
            exact ax_less (L' := [(some (av_r a0)), (some (av_r a1)), (some (av_r a2)), (some (av_r a3)), none, none, (some (av_i a6)), none, (some (av_i a8)), (some (av_i q59.1)), (some (av_i v61)), none, (some (av_i v65)), none]) ⟨rfl, rfl, rfl, rfl, rfl, rfl, rfl, rfl, rfl, trivial⟩ (tb_L_law_266 ih h)
          · rw [if_neg c69] at h
            refine ax_aload_n (i := 3) dL_law_249 rfl rfl ?_
            refine ax_iload (i := 6) dL_law_250 rfl ?_
            refine ax_iload (i := 12) dL_law_252 rfl ?_
            refine ax_iload (i := 10) dL_law_254 rfl ?_
            obtain ⟨q70, gq70, h⟩ := Option.bind_eq_some_iff.mp h
            refine ax_cS (As := [av_r a3, av_i a6, av_i v65, av_i v61]) dL_law_256 (th_L_depends gq70) (And.intro wd_669 wd_17) wd_667 wd_668 cy_L_depends (by omega) (by decide) (Nat.le_of_ble_eq_true rfl) rfl ?_
            refine ax_if_ne (tgt := 266) dL_law_259 (by decide) (fun c71 => ?_) (fun c71 => ?_)
            · rw [if_neg c71] at h
              exact ax_less (L' := [(some (av_r a0)), (some (av_r a1)), (some (av_r a2)), (some (av_r a3)), none, none, (some (av_i a6)), none, (some (av_i a8)), (some (av_i q59.1)), (some (av_i v61)), none, (some (av_i v65)), none]) ⟨rfl, rfl, rfl, rfl, rfl, rfl, rfl, rfl, rfl, trivial⟩ (tb_L_law_266 ih h)
            · rw [if_pos c71] at h
              refine ax_iconst (v := (1 : Int32)) dL_law_262 rfl ?_
              refine ax_goto (tgt := 267) dL_law_263 (by decide) ?_
              exact ax_less (L' := [(some (av_r a0)), (some (av_r a1)), (some (av_r a2)), (some (av_r a3)), none, none, (some (av_i a6)), none, (some (av_i a8)), (some (av_i q59.1)), (some (av_i v61)), none, (some (av_i v65)), none]) ⟨rfl, rfl, rfl, rfl, rfl, rfl, rfl, rfl, rfl, trivial⟩ (tb_L_law_267 ih h)
        rw [if_neg c63] at h
        by_cases c72 : v62 = 1
        · rw [if_pos c72] at h
          refine ax_swC (c := 1) (off := 41) (tgt := 220) dL_law_179 c72 (by decide) (by decide) (by decide) rfl (by decide) ?_
          refine ax_iload (i := 9) dL_law_220 rfl ?_
          refine ax_bipush (v := (7 : Int32)) dL_law_222 rfl ?_
          refine ax_ishr dL_law_224 ?_
          refine ax_iload (i := 6) dL_law_225 rfl ?_
          obtain ⟨u73, gu73, h⟩ := Option.bind_eq_some_iff.mp h
          refine ax_irem dL_law_227 (ax_ne_of gu73) ?_
          refine ax_bdI h (fun v74 h => ?_)
          refine ax_istore (i := 12) (L2 := [some (av_r a0), some (av_r a1), some (av_r a2), some (av_r a3), none, none, some (av_i a6), some (av_i a7), some (av_i a8), some (av_i q59.1), some (av_i v61), some (av_i (0 : Int32)), some (av_i v74), none]) dL_law_228 (by decide) rfl rfl ?_
          refine ax_iload (i := 9) dL_law_230 rfl ?_
          refine ax_bipush (v := (11 : Int32)) dL_law_232 rfl ?_
          refine ax_ishr dL_law_234 ?_
          refine ax_iconst (v := (3 : Int32)) dL_law_235 rfl ?_
          obtain ⟨u75, gu75, h⟩ := Option.bind_eq_some_iff.mp h
          refine ax_irem dL_law_236 (ax_ne_of gu75) ?_
          refine ax_aload_n (i := 2) dL_law_237 rfl rfl ?_
          refine ax_iconst (v := (3 : Int32)) dL_law_238 rfl ?_
          refine ax_iload (i := 10) dL_law_239 rfl ?_
          refine ax_imul dL_law_241 ?_
          obtain ⟨x76, gx76, h⟩ := Option.bind_eq_some_iff.mp h
          refine ax_iald dL_law_242 gx76 ?_
          obtain ⟨q77, gq77, h⟩ := Option.bind_eq_some_iff.mp h
          refine ax_cS (As := [av_i x76]) dL_law_243 (th_L_inputs gq77) (And.intro wd_648 wd_17) wd_646 wd_647 cy_L_inputs (by omega) (by decide) (Nat.le_of_ble_eq_true rfl) rfl ?_
          refine ax_icmp_ge (tgt := 266) dL_law_246 (by decide) (fun c78 => ?_) (fun c78 => ?_)
          · rw [if_pos c78] at h
            exact ax_less (L' := [(some (av_r a0)), (some (av_r a1)), (some (av_r a2)), (some (av_r a3)), none, none, (some (av_i a6)), none, (some (av_i a8)), (some (av_i q59.1)), (some (av_i v61)), none, (some (av_i v74)), none]) ⟨rfl, rfl, rfl, rfl, rfl, rfl, rfl, rfl, rfl, trivial⟩ (tb_L_law_266 ih h)
          · rw [if_neg c78] at h
            refine ax_aload_n (i := 3) dL_law_249 rfl rfl ?_
            refine ax_iload (i := 6) dL_law_250 rfl ?_
            refine ax_iload (i := 12) dL_law_252 rfl ?_
            refine ax_iload (i := 10) dL_law_254 rfl ?_
            obtain ⟨q79, gq79, h⟩ := Option.bind_eq_some_iff.mp h
            refine ax_cS (As := [av_r a3, av_i a6, av_i v74, av_i v61]) dL_law_256 (th_L_depends gq79) (And.intro wd_669 wd_17) wd_667 wd_668 cy_L_depends (by omega) (by decide) (Nat.le_of_ble_eq_true rfl) rfl ?_
            refine ax_if_ne (tgt := 266) dL_law_259 (by decide) (fun c80 => ?_) (fun c80 => ?_)
            · rw [if_neg c80] at h
              exact ax_less (L' := [(some (av_r a0)), (some (av_r a1)), (some (av_r a2)), (some (av_r a3)), none, none, (some (av_i a6)), none, (some (av_i a8)), (some (av_i q59.1)), (some (av_i v61)), none, (some (av_i v74)), none]) ⟨rfl, rfl, rfl, rfl, rfl, rfl, rfl, rfl, rfl, trivial⟩ (tb_L_law_266 ih h)
            · rw [if_pos c80] at h
              refine ax_iconst (v := (1 : Int32)) dL_law_262 rfl ?_
              refine ax_goto (tgt := 267) dL_law_263 (by decide) ?_
              exact ax_less (L' := [(some (av_r a0)), (some (av_r a1)), (some (av_r a2)), (some (av_r a3)), none, none, (some (av_i a6)), none, (some (av_i a8)), (some (av_i q59.1)), (some (av_i v61)), none, (some (av_i v74)), none]) ⟨rfl, rfl, rfl, rfl, rfl, rfl, rfl, rfl, rfl, trivial⟩ (tb_L_law_267 ih h)
        rw [if_neg c72] at h
        by_cases c81 : v62 = 2
        · rw [if_pos c81] at h
          refine ax_swC (c := 2) (off := 41) (tgt := 220) dL_law_179 c81 (by decide) (by decide) (by decide) rfl (by decide) ?_
          refine ax_iload (i := 9) dL_law_220 rfl ?_
          refine ax_bipush (v := (7 : Int32)) dL_law_222 rfl ?_
          refine ax_ishr dL_law_224 ?_
          refine ax_iload (i := 6) dL_law_225 rfl ?_
          obtain ⟨u82, gu82, h⟩ := Option.bind_eq_some_iff.mp h
          refine ax_irem dL_law_227 (ax_ne_of gu82) ?_
          refine ax_bdI h (fun v83 h => ?_)
          refine ax_istore (i := 12) (L2 := [some (av_r a0), some (av_r a1), some (av_r a2), some (av_r a3), none, none, some (av_i a6), some (av_i a7), some (av_i a8), some (av_i q59.1), some (av_i v61), some (av_i (0 : Int32)), some (av_i v83), none]) dL_law_228 (by decide) rfl rfl ?_
          refine ax_iload (i := 9) dL_law_230 rfl ?_
          refine ax_bipush (v := (11 : Int32)) dL_law_232 rfl ?_
          refine ax_ishr dL_law_234 ?_
          refine ax_iconst (v := (3 : Int32)) dL_law_235 rfl ?_
          obtain ⟨u84, gu84, h⟩ := Option.bind_eq_some_iff.mp h
          refine ax_irem dL_law_236 (ax_ne_of gu84) ?_
          refine ax_aload_n (i := 2) dL_law_237 rfl rfl ?_
          refine ax_iconst (v := (3 : Int32)) dL_law_238 rfl ?_
          refine ax_iload (i := 10) dL_law_239 rfl ?_
          refine ax_imul dL_law_241 ?_
          obtain ⟨x85, gx85, h⟩ := Option.bind_eq_some_iff.mp h
          refine ax_iald dL_law_242 gx85 ?_
          obtain ⟨q86, gq86, h⟩ := Option.bind_eq_some_iff.mp h
          refine ax_cS (As := [av_i x85]) dL_law_243 (th_L_inputs gq86) (And.intro wd_648 wd_17) wd_646 wd_647 cy_L_inputs (by omega) (by decide) (Nat.le_of_ble_eq_true rfl) rfl ?_
          refine ax_icmp_ge (tgt := 266) dL_law_246 (by decide) (fun c87 => ?_) (fun c87 => ?_)
          · rw [if_pos c87] at h
            exact ax_less (L' := [(some (av_r a0)), (some (av_r a1)), (some (av_r a2)), (some (av_r a3)), none, none, (some (av_i a6)), none, (some (av_i a8)), (some (av_i q59.1)), (some (av_i v61)), none, (some (av_i v83)), none]) ⟨rfl, rfl, rfl, rfl, rfl, rfl, rfl, rfl, rfl, trivial⟩ (tb_L_law_266 ih h)
          · rw [if_neg c87] at h
            refine ax_aload_n (i := 3) dL_law_249 rfl rfl ?_
            refine ax_iload (i := 6) dL_law_250 rfl ?_
            refine ax_iload (i := 12) dL_law_252 rfl ?_
            refine ax_iload (i := 10) dL_law_254 rfl ?_
            obtain ⟨q88, gq88, h⟩ := Option.bind_eq_some_iff.mp h
            refine ax_cS (As := [av_r a3, av_i a6, av_i v83, av_i v61]) dL_law_256 (th_L_depends gq88) (And.intro wd_669 wd_17) wd_667 wd_668 cy_L_depends (by omega) (by decide) (Nat.le_of_ble_eq_true rfl) rfl ?_
            refine ax_if_ne (tgt := 266) dL_law_259 (by decide) (fun c89 => ?_) (fun c89 => ?_)
            · rw [if_neg c89] at h
              exact ax_less (L' := [(some (av_r a0)), (some (av_r a1)), (some (av_r a2)), (some (av_r a3)), none, none, (some (av_i a6)), none, (some (av_i a8)), (some (av_i q59.1)), (some (av_i v61)), none, (some (av_i v83)), none]) ⟨rfl, rfl, rfl, rfl, rfl, rfl, rfl, rfl, rfl, trivial⟩ (tb_L_law_266 ih h)
            · rw [if_pos c89] at h
              refine ax_iconst (v := (1 : Int32)) dL_law_262 rfl ?_
              refine ax_goto (tgt := 267) dL_law_263 (by decide) ?_
              exact ax_less (L' := [(some (av_r a0)), (some (av_r a1)), (some (av_r a2)), (some (av_r a3)), none, none, (some (av_i a6)), none, (some (av_i a8)), (some (av_i q59.1)), (some (av_i v61)), none, (some (av_i v83)), none]) ⟨rfl, rfl, rfl, rfl, rfl, rfl, rfl, rfl, rfl, trivial⟩ (tb_L_law_267 ih h)
        rw [if_neg c81] at h
        by_cases c90 : v62 = 3
        · rw [if_pos c90] at h
          refine ax_swC (c := 3) (off := 172) (tgt := 351) dL_law_179 c90 (by decide) (by decide) (by decide) rfl (by decide) ?_
          refine ax_aload_n (i := 1) dL_law_351 rfl rfl ?_
          refine ax_iload (i := 10) dL_law_352 rfl ?_
          refine ax_iload (i := 9) dL_law_354 rfl ?_
          refine ax_bipush (v := (7 : Int32)) dL_law_356 rfl ?_
          refine ax_ishr dL_law_358 ?_
          refine ax_iconst (v := (4 : Int32)) dL_law_359 rfl ?_
          obtain ⟨u91, gu91, h⟩ := Option.bind_eq_some_iff.mp h
          refine ax_irem dL_law_360 (ax_ne_of gu91) ?_
          refine ax_iload (i := 9) dL_law_361 rfl ?_
          refine ax_bipush (v := (9 : Int32)) dL_law_363 rfl ?_
          refine ax_ishr dL_law_365 ?_
          refine ax_bipush (v := (100 : Int32)) dL_law_366 rfl ?_
          obtain ⟨u92, gu92, h⟩ := Option.bind_eq_some_iff.mp h
          refine ax_irem dL_law_368 (ax_ne_of gu92) ?_
          obtain ⟨w93, gw93, h⟩ := Option.bind_eq_some_iff.mp h
          obtain ⟨q94, gq94, h⟩ := Option.bind_eq_some_iff.mp h
          refine ax_cV (As := [av_i v61, av_i ((q59.1 >>> ((7 : Int32) &&& 31)) - (q59.1 >>> ((7 : Int32) &&& 31)) / (4 : Int32) * (4 : Int32)), av_i ((q59.1 >>> ((9 : Int32) &&& 31)) - (q59.1 >>> ((9 : Int32) &&& 31)) / (100 : Int32) * (100 : Int32))]) (t := 6) dL_law_369 gw93 (th_X9_set gq94) rfl (And.intro wd_319 wd_18) wd_316 wd_317 wd_318 cy_X9_set (by omega) (by decide) (Nat.le_of_ble_eq_true rfl) rfl ?_
          refine ax_istore (i := 11) (L2 := [some (av_r a0), some (av_r a1), some (av_r a2), some (av_r a3), none, none, some (av_i a6), some (av_i a7), some (av_i a8), some (av_i q59.1), some (av_i v61), some (av_i q94.1), none, none]) dL_law_372 (by decide) rfl rfl ?_
          refine ax_iload (i := 9) dL_law_374 rfl ?_
          refine ax_bipush (v := (7 : Int32)) dL_law_376 rfl ?_
          refine ax_ishr dL_law_378 ?_
          refine ax_iconst (v := (4 : Int32)) dL_law_379 rfl ?_
          obtain ⟨u95, gu95, h⟩ := Option.bind_eq_some_iff.mp h
          refine ax_irem dL_law_380 (ax_ne_of gu95) ?_
          refine ax_aload_n (i := 2) dL_law_381 rfl rfl ?_
          refine ax_iconst (v := (3 : Int32)) dL_law_382 rfl ?_
          refine ax_iload (i := 10) dL_law_383 rfl ?_
          refine ax_imul dL_law_385 ?_
          obtain ⟨x96, gx96, h⟩ := Option.bind_eq_some_iff.mp h
          refine ax_iald dL_law_386 gx96 ?_
          obtain ⟨q97, gq97, h⟩ := Option.bind_eq_some_iff.mp h
          refine ax_cS (As := [av_i x96]) dL_law_387 (th_L_parameters gq97) (And.intro wd_651 wd_17) wd_649 wd_650 cy_L_parameters (by omega) (by decide) (Nat.le_of_ble_eq_true rfl) rfl ?_
          refine ax_icmp_ge (tgt := 414) dL_law_390 (by decide) (fun c98 => ?_) (fun c98 => ?_)
          · rw [if_pos c98] at h
            refine ax_iload (i := 11) dL_law_414 rfl ?_
            refine ax_sipush (v := (-1001 : Int32)) dL_law_416 rfl ?_
            refine ax_icmp_ne (tgt := 426) dL_law_419 (by decide) (fun c99 => ?_) (fun c99 => ?_)
            · rw [if_neg c99] at h
              refine ax_iconst (v := (0 : Int32)) dL_law_426 rfl ?_
              exact ax_less (L' := [(some (av_r a0)), (some (av_r a1)), (some (av_r a2)), (some (av_r a3)), none, none, (some (av_i a6)), none, (some (av_i a8)), (some (av_i q59.1)), none, none, none, none]) ⟨rfl, rfl, rfl, rfl, rfl, rfl, rfl, trivial⟩ (tb_L_law_427 ih h)
            · rw [if_pos c99] at h
              refine ax_iconst (v := (1 : Int32)) dL_law_422 rfl ?_
              refine ax_goto (tgt := 427) dL_law_423 (by decide) ?_
              exact ax_less (L' := [(some (av_r a0)), (some (av_r a1)), (some (av_r a2)), (some (av_r a3)), none, none, (some (av_i a6)), none, (some (av_i a8)), (some (av_i q59.1)), none, none, none, none]) ⟨rfl, rfl, rfl, rfl, rfl, rfl, rfl, trivial⟩ (tb_L_law_427 ih h)
          · rw [if_neg c98] at h
            refine ax_iload (i := 11) dL_law_393 rfl ?_
            refine ax_if_ge (tgt := 406) dL_law_395 (by decide) (fun c100 => ?_) (fun c100 => ?_)
            · rw [if_pos c100] at h
              exact ax_less (L' := [(some (av_r a0)), (some (av_r a1)), (some (av_r a2)), (some (av_r a3)), none, none, (some (av_i a6)), none, (some (av_i a8)), (some (av_i q59.1)), none, none, none, none]) ⟨rfl, rfl, rfl, rfl, rfl, rfl, rfl, trivial⟩ (tb_L_law_406 ih h)
            · rw [if_neg c100] at h
              refine ax_iload (i := 11) dL_law_398 rfl ?_
              refine ax_sipush (v := (-1002 : Int32)) dL_law_400 rfl ?_
              refine ax_icmp_ne (tgt := 410) dL_law_403 (by decide) (fun c101 => ?_) (fun c101 => ?_)
              · rw [if_neg c101] at h
                refine ax_iconst (v := (0 : Int32)) dL_law_410 rfl ?_
                refine ax_goto (tgt := 427) dL_law_411 (by decide) ?_
                exact ax_less (L' := [(some (av_r a0)), (some (av_r a1)), (some (av_r a2)), (some (av_r a3)), none, none, (some (av_i a6)), none, (some (av_i a8)), (some (av_i q59.1)), none, none, none, none]) ⟨rfl, rfl, rfl, rfl, rfl, rfl, rfl, trivial⟩ (tb_L_law_427 ih h)
              · rw [if_pos c101] at h
                exact ax_less (L' := [(some (av_r a0)), (some (av_r a1)), (some (av_r a2)), (some (av_r a3)), none, none, (some (av_i a6)), none, (some (av_i a8)), (some (av_i q59.1)), none, none, none, none]) ⟨rfl, rfl, rfl, rfl, rfl, rfl, rfl, trivial⟩ (tb_L_law_406 ih h)
        rw [if_neg c90] at h
        by_cases c102 : v62 = 4
        · rw [if_pos c102] at h
          refine ax_swC (c := 4) (off := 172) (tgt := 351) dL_law_179 c102 (by decide) (by decide) (by decide) rfl (by decide) ?_
          refine ax_aload_n (i := 1) dL_law_351 rfl rfl ?_
          refine ax_iload (i := 10) dL_law_352 rfl ?_
          refine ax_iload (i := 9) dL_law_354 rfl ?_
          refine ax_bipush (v := (7 : Int32)) dL_law_356 rfl ?_
          refine ax_ishr dL_law_358 ?_
          refine ax_iconst (v := (4 : Int32)) dL_law_359 rfl ?_
          obtain ⟨u103, gu103, h⟩ := Option.bind_eq_some_iff.mp h
          refine ax_irem dL_law_360 (ax_ne_of gu103) ?_
          refine ax_iload (i := 9) dL_law_361 rfl ?_
          refine ax_bipush (v := (9 : Int32)) dL_law_363 rfl ?_
          refine ax_ishr dL_law_365 ?_
          refine ax_bipush (v := (100 : Int32)) dL_law_366 rfl ?_
          obtain ⟨u104, gu104, h⟩ := Option.bind_eq_some_iff.mp h
          refine ax_irem dL_law_368 (ax_ne_of gu104) ?_
          obtain ⟨w105, gw105, h⟩ := Option.bind_eq_some_iff.mp h
          obtain ⟨q106, gq106, h⟩ := Option.bind_eq_some_iff.mp h
          refine ax_cV (As := [av_i v61, av_i ((q59.1 >>> ((7 : Int32) &&& 31)) - (q59.1 >>> ((7 : Int32) &&& 31)) / (4 : Int32) * (4 : Int32)), av_i ((q59.1 >>> ((9 : Int32) &&& 31)) - (q59.1 >>> ((9 : Int32) &&& 31)) / (100 : Int32) * (100 : Int32))]) (t := 6) dL_law_369 gw105 (th_X9_set gq106) rfl (And.intro wd_319 wd_18) wd_316 wd_317 wd_318 cy_X9_set (by omega) (by decide) (Nat.le_of_ble_eq_true rfl) rfl ?_
          refine ax_istore (i := 11) (L2 := [some (av_r a0), some (av_r a1), some (av_r a2), some (av_r a3), none, none, some (av_i a6), some (av_i a7), some (av_i a8), some (av_i q59.1), some (av_i v61), some (av_i q106.1), none, none]) dL_law_372 (by decide) rfl rfl ?_
          refine ax_iload (i := 9) dL_law_374 rfl ?_
          refine ax_bipush (v := (7 : Int32)) dL_law_376 rfl ?_
          refine ax_ishr dL_law_378 ?_
          refine ax_iconst (v := (4 : Int32)) dL_law_379 rfl ?_
          obtain ⟨u107, gu107, h⟩ := Option.bind_eq_some_iff.mp h
          refine ax_irem dL_law_380 (ax_ne_of gu107) ?_
          refine ax_aload_n (i := 2) dL_law_381 rfl rfl ?_
          refine ax_iconst (v := (3 : Int32)) dL_law_382 rfl ?_
          refine ax_iload (i := 10) dL_law_383 rfl ?_
          refine ax_imul dL_law_385 ?_
          obtain ⟨x108, gx108, h⟩ := Option.bind_eq_some_iff.mp h
          refine ax_iald dL_law_386 gx108 ?_
          obtain ⟨q109, gq109, h⟩ := Option.bind_eq_some_iff.mp h
          refine ax_cS (As := [av_i x108]) dL_law_387 (th_L_parameters gq109) (And.intro wd_651 wd_17) wd_649 wd_650 cy_L_parameters (by omega) (by decide) (Nat.le_of_ble_eq_true rfl) rfl ?_
          refine ax_icmp_ge (tgt := 414) dL_law_390 (by decide) (fun c110 => ?_) (fun c110 => ?_)
          · rw [if_pos c110] at h
            refine ax_iload (i := 11) dL_law_414 rfl ?_
            refine ax_sipush (v := (-1001 : Int32)) dL_law_416 rfl ?_
            refine ax_icmp_ne (tgt := 426) dL_law_419 (by decide) (fun c111 => ?_) (fun c111 => ?_)
            · rw [if_neg c111] at h
              refine ax_iconst (v := (0 : Int32)) dL_law_426 rfl ?_
              exact ax_less (L' := [(some (av_r a0)), (some (av_r a1)), (some (av_r a2)), (some (av_r a3)), none, none, (some (av_i a6)), none, (some (av_i a8)), (some (av_i q59.1)), none, none, none, none]) ⟨rfl, rfl, rfl, rfl, rfl, rfl, rfl, trivial⟩ (tb_L_law_427 ih h)
            · rw [if_pos c111] at h
              refine ax_iconst (v := (1 : Int32)) dL_law_422 rfl ?_
              refine ax_goto (tgt := 427) dL_law_423 (by decide) ?_
              exact ax_less (L' := [(some (av_r a0)), (some (av_r a1)), (some (av_r a2)), (some (av_r a3)), none, none, (some (av_i a6)), none, (some (av_i a8)), (some (av_i q59.1)), none, none, none, none]) ⟨rfl, rfl, rfl, rfl, rfl, rfl, rfl, trivial⟩ (tb_L_law_427 ih h)
          · rw [if_neg c110] at h
            refine ax_iload (i := 11) dL_law_393 rfl ?_
            refine ax_if_ge (tgt := 406) dL_law_395 (by decide) (fun c112 => ?_) (fun c112 => ?_)
            · rw [if_pos c112] at h
              exact ax_less (L' := [(some (av_r a0)), (some (av_r a1)), (some (av_r a2)), (some (av_r a3)), none, none, (some (av_i a6)), none, (some (av_i a8)), (some (av_i q59.1)), none, none, none, none]) ⟨rfl, rfl, rfl, rfl, rfl, rfl, rfl, trivial⟩ (tb_L_law_406 ih h)
            · rw [if_neg c112] at h
              refine ax_iload (i := 11) dL_law_398 rfl ?_
              refine ax_sipush (v := (-1002 : Int32)) dL_law_400 rfl ?_
              refine ax_icmp_ne (tgt := 410) dL_law_403 (by decide) (fun c113 => ?_) (fun c113 => ?_)
              · rw [if_neg c113] at h
                refine ax_iconst (v := (0 : Int32)) dL_law_410 rfl ?_
                refine ax_goto (tgt := 427) dL_law_411 (by decide) ?_
                exact ax_less (L' := [(some (av_r a0)), (some (av_r a1)), (some (av_r a2)), (some (av_r a3)), none, none, (some (av_i a6)), none, (some (av_i a8)), (some (av_i q59.1)), none, none, none, none]) ⟨rfl, rfl, rfl, rfl, rfl, rfl, rfl, trivial⟩ (tb_L_law_427 ih h)
              · rw [if_pos c113] at h
                exact ax_less (L' := [(some (av_r a0)), (some (av_r a1)), (some (av_r a2)), (some (av_r a3)), none, none, (some (av_i a6)), none, (some (av_i a8)), (some (av_i q59.1)), none, none, none, none]) ⟨rfl, rfl, rfl, rfl, rfl, rfl, rfl, trivial⟩ (tb_L_law_406 ih h)
        rw [if_neg c102] at h
        by_cases c114 : v62 = 5
        · rw [if_pos c114] at h
          refine ax_swC (c := 5) (off := 253) (tgt := 432) dL_law_179 c114 (by decide) (by decide) (by decide) rfl (by decide) ?_
          refine ax_aload_n (i := 1) dL_law_432 rfl rfl ?_
          refine ax_iload (i := 10) dL_law_433 rfl ?_
          refine ax_iload (i := 9) dL_law_435 rfl ?_
          refine ax_bipush (v := (7 : Int32)) dL_law_437 rfl ?_
          refine ax_ishr dL_law_439 ?_
          refine ax_bipush (v := (9 : Int32)) dL_law_440 rfl ?_
          obtain ⟨u115, gu115, h⟩ := Option.bind_eq_some_iff.mp h
          refine ax_irem dL_law_442 (ax_ne_of gu115) ?_
          refine ax_iload (i := 9) dL_law_443 rfl ?_
          refine ax_bipush (v := (7 : Int32)) dL_law_445 rfl ?_
          refine ax_ishr dL_law_447 ?_
          refine ax_bipush (v := (9 : Int32)) dL_law_448 rfl ?_
          obtain ⟨u116, gu116, h⟩ := Option.bind_eq_some_iff.mp h
          refine ax_irem dL_law_450 (ax_ne_of gu116) ?_
          refine ax_iload (i := 9) dL_law_451 rfl ?_
          refine ax_bipush (v := (11 : Int32)) dL_law_453 rfl ?_
          refine ax_ishr dL_law_455 ?_
          refine ax_bipush (v := (20 : Int32)) dL_law_456 rfl ?_
          obtain ⟨u117, gu117, h⟩ := Option.bind_eq_some_iff.mp h
          refine ax_irem dL_law_458 (ax_ne_of gu117) ?_
          refine ax_iadd dL_law_459 ?_
          obtain ⟨w118, gw118, h⟩ := Option.bind_eq_some_iff.mp h
          obtain ⟨q119, gq119, h⟩ := Option.bind_eq_some_iff.mp h
          refine ax_cV (As := [av_i v61, av_i ((q59.1 >>> ((7 : Int32) &&& 31)) - (q59.1 >>> ((7 : Int32) &&& 31)) / (9 : Int32) * (9 : Int32)), av_i (((q59.1 >>> ((7 : Int32) &&& 31)) - (q59.1 >>> ((7 : Int32) &&& 31)) / (9 : Int32) * (9 : Int32)) + ((q59.1 >>> ((11 : Int32) &&& 31)) - (q59.1 >>> ((11 : Int32) &&& 31)) / (20 : Int32) * (20 : Int32)))]) (t := 6) dL_law_460 gw118 (th_X9_setRange gq119) rfl (And.intro wd_342 wd_18) wd_339 wd_340 wd_341 cy_X9_setRange (by omega) (by decide) (Nat.le_of_ble_eq_true rfl) rfl ?_
          refine ax_istore (i := 11) (L2 := [some (av_r a0), some (av_r a1), some (av_r a2), some (av_r a3), none, none, some (av_i a6), some (av_i a7), some (av_i a8), some (av_i q59.1), some (av_i v61), some (av_i q119.1), none, none]) dL_law_463 (by decide) rfl rfl ?_
          refine ax_iload (i := 11) dL_law_465 rfl ?_
          refine ax_if_lt (tgt := 474) dL_law_467 (by decide) (fun c120 => ?_) (fun c120 => ?_)
          · rw [if_pos c120] at h
            refine ax_iconst (v := (0 : Int32)) dL_law_474 rfl ?_
            exact ax_less (L' := [(some (av_r a0)), (some (av_r a1)), (some (av_r a2)), (some (av_r a3)), none, none, (some (av_i a6)), none, (some (av_i a8)), (some (av_i q59.1)), none, none, none, none]) ⟨rfl, rfl, rfl, rfl, rfl, rfl, rfl, trivial⟩ (tb_L_law_475 ih h)
          · rw [if_neg c120] at h
            refine ax_iconst (v := (1 : Int32)) dL_law_470 rfl ?_
            refine ax_goto (tgt := 475) dL_law_471 (by decide) ?_
            exact ax_less (L' := [(some (av_r a0)), (some (av_r a1)), (some (av_r a2)), (some (av_r a3)), none, none, (some (av_i a6)), none, (some (av_i a8)), (some (av_i q59.1)), none, none, none, none]) ⟨rfl, rfl, rfl, rfl, rfl, rfl, rfl, trivial⟩ (tb_L_law_475 ih h)
        rw [if_neg c114] at h
        by_cases c121 : v62 = 6
        · rw [if_pos c121] at h
          refine ax_swC (c := 6) (off := 301) (tgt := 480) dL_law_179 c121 (by decide) (by decide) (by decide) rfl (by decide) ?_
          refine ax_aload_n (i := 1) dL_law_480 rfl rfl ?_
          refine ax_bipush (v := (12 : Int32)) dL_law_481 rfl ?_
          refine ax_iload (i := 9) dL_law_483 rfl ?_
          refine ax_bipush (v := (7 : Int32)) dL_law_485 rfl ?_
          refine ax_ishr dL_law_487 ?_
          refine ax_bipush (v := (37 : Int32)) dL_law_488 rfl ?_
          obtain ⟨u122, gu122, h⟩ := Option.bind_eq_some_iff.mp h
          refine ax_irem dL_law_490 (ax_ne_of gu122) ?_
          refine ax_iadd dL_law_491 ?_
          obtain ⟨w123, gw123, h⟩ := Option.bind_eq_some_iff.mp h
          obtain ⟨q124, gq124, h⟩ := Option.bind_eq_some_iff.mp h
          refine ax_cV (As := [av_i ((12 : Int32) + ((q59.1 >>> ((7 : Int32) &&& 31)) - (q59.1 >>> ((7 : Int32) &&& 31)) / (37 : Int32) * (37 : Int32)))]) (t := 6) dL_law_492 gw123 (th_X9_setRoom gq124) rfl (And.intro wd_424 wd_18) wd_421 wd_422 wd_423 cy_X9_setRoom (by omega) (by decide) (Nat.le_of_ble_eq_true rfl) rfl ?_
          refine ax_istore (i := 11) (L2 := [some (av_r a0), some (av_r a1), some (av_r a2), some (av_r a3), none, none, some (av_i a6), some (av_i a7), some (av_i a8), some (av_i q59.1), some (av_i v61), some (av_i q124.1), none, none]) dL_law_495 (by decide) rfl rfl ?_
          refine ax_iload (i := 11) dL_law_497 rfl ?_
          refine ax_bipush (v := (12 : Int32)) dL_law_499 rfl ?_
          refine ax_icmp_lt (tgt := 515) dL_law_501 (by decide) (fun c125 => ?_) (fun c125 => ?_)
          · rw [if_pos c125] at h
            exact ax_less (L' := [(some (av_r a0)), (some (av_r a1)), (some (av_r a2)), (some (av_r a3)), none, none, (some (av_i a6)), none, (some (av_i a8)), (some (av_i q59.1)), none, none, none, none]) ⟨rfl, rfl, rfl, rfl, rfl, rfl, rfl, trivial⟩ (tb_L_law_515 ih h)
          · rw [if_neg c125] at h
            refine ax_iload (i := 11) dL_law_504 rfl ?_
            refine ax_bipush (v := (48 : Int32)) dL_law_506 rfl ?_
            refine ax_icmp_gt (tgt := 515) dL_law_508 (by decide) (fun c126 => ?_) (fun c126 => ?_)
            · rw [if_pos c126] at h
              exact ax_less (L' := [(some (av_r a0)), (some (av_r a1)), (some (av_r a2)), (some (av_r a3)), none, none, (some (av_i a6)), none, (some (av_i a8)), (some (av_i q59.1)), none, none, none, none]) ⟨rfl, rfl, rfl, rfl, rfl, rfl, rfl, trivial⟩ (tb_L_law_515 ih h)
            · rw [if_neg c126] at h
              refine ax_iconst (v := (1 : Int32)) dL_law_511 rfl ?_
              refine ax_goto (tgt := 516) dL_law_512 (by decide) ?_
              exact ax_less (L' := [(some (av_r a0)), (some (av_r a1)), (some (av_r a2)), (some (av_r a3)), none, none, (some (av_i a6)), none, (some (av_i a8)), (some (av_i q59.1)), none, none, none, none]) ⟨rfl, rfl, rfl, rfl, rfl, rfl, rfl, trivial⟩ (tb_L_law_516 ih h)
        rw [if_neg c121] at h
        refine ax_swD (tgt := 521) dL_law_179 (fun c hc1 hc2 => ?_) (by decide) ?_
        · have hcc : c = 0 ∨ c = 1 ∨ c = 2 ∨ c = 3 ∨ c = 4 ∨ c = 5 ∨ c = 6 := by omega
          rcases hcc with rfl | rfl | rfl | rfl | rfl | rfl | rfl
          · exact Or.inr (fun e => c63 (e.trans (by decide)))
          · exact Or.inr (fun e => c72 (e.trans (by decide)))
          · exact Or.inr (fun e => c81 (e.trans (by decide)))
          · exact Or.inr (fun e => c90 (e.trans (by decide)))
          · exact Or.inr (fun e => c102 (e.trans (by decide)))
          · exact Or.inr (fun e => c114 (e.trans (by decide)))
          · exact Or.inr (fun e => c121 (e.trans (by decide)))
        refine ax_aload_n (i := 1) dL_law_521 rfl rfl ?_
        refine ax_iload (i := 10) dL_law_522 rfl ?_
        refine ax_iload (i := 9) dL_law_524 rfl ?_
        refine ax_bipush (v := (7 : Int32)) dL_law_526 rfl ?_
        refine ax_ishr dL_law_528 ?_
        refine ax_iload (i := 6) dL_law_529 rfl ?_
        obtain ⟨u127, gu127, h⟩ := Option.bind_eq_some_iff.mp h
        refine ax_irem dL_law_531 (ax_ne_of gu127) ?_
        refine ax_iload (i := 9) dL_law_532 rfl ?_
        refine ax_bipush (v := (11 : Int32)) dL_law_534 rfl ?_
        refine ax_ishr dL_law_536 ?_
        refine ax_bipush (v := (14 : Int32)) dL_law_537 rfl ?_
        obtain ⟨u128, gu128, h⟩ := Option.bind_eq_some_iff.mp h
        refine ax_irem dL_law_539 (ax_ne_of gu128) ?_
        obtain ⟨w129, gw129, h⟩ := Option.bind_eq_some_iff.mp h
        obtain ⟨q130, gq130, h⟩ := Option.bind_eq_some_iff.mp h
        refine ax_cV (As := [av_i v61, av_i ((q59.1 >>> ((7 : Int32) &&& 31)) - (q59.1 >>> ((7 : Int32) &&& 31)) / a6 * a6), av_i ((q59.1 >>> ((11 : Int32) &&& 31)) - (q59.1 >>> ((11 : Int32) &&& 31)) / (14 : Int32) * (14 : Int32))]) (t := 6) dL_law_540 gw129 (th_X9_compare gq130) rfl (And.intro wd_354 wd_18) wd_351 wd_352 wd_353 cy_X9_compare (by omega) (by decide) (Nat.le_of_ble_eq_true rfl) rfl ?_
        refine ax_istore (i := 11) (L2 := [some (av_r a0), some (av_r a1), some (av_r a2), some (av_r a3), none, none, some (av_i a6), some (av_i a7), some (av_i a8), some (av_i q59.1), some (av_i v61), some (av_i q130.1), none, none]) dL_law_543 (by decide) rfl rfl ?_
        refine ax_iload (i := 11) dL_law_545 rfl ?_
        refine ax_if_lt (tgt := 562) dL_law_547 (by decide) (fun c131 => ?_) (fun c131 => ?_)
        · rw [if_pos c131] at h
          exact ax_less (L' := [(some (av_r a0)), (some (av_r a1)), (some (av_r a2)), (some (av_r a3)), none, none, (some (av_i a6)), none, (some (av_i a8)), (some (av_i q59.1)), none, none, none, none]) ⟨rfl, rfl, rfl, rfl, rfl, rfl, rfl, trivial⟩ (tb_L_law_562 ih h)
        · rw [if_neg c131] at h
          refine ax_iload (i := 11) dL_law_550 rfl ?_
          refine ax_sipush (v := (256 : Int32)) dL_law_552 rfl ?_
          refine ax_icmp_ge (tgt := 562) dL_law_555 (by decide) (fun c132 => ?_) (fun c132 => ?_)
          · rw [if_pos c132] at h
            exact ax_less (L' := [(some (av_r a0)), (some (av_r a1)), (some (av_r a2)), (some (av_r a3)), none, none, (some (av_i a6)), none, (some (av_i a8)), (some (av_i q59.1)), none, none, none, none]) ⟨rfl, rfl, rfl, rfl, rfl, rfl, rfl, trivial⟩ (tb_L_law_562 ih h)
          · rw [if_neg c132] at h
            refine ax_iconst (v := (1 : Int32)) dL_law_558 rfl ?_
            refine ax_goto (tgt := 563) dL_law_559 (by decide) ?_
            exact ax_less (L' := [(some (av_r a0)), (some (av_r a1)), (some (av_r a2)), (some (av_r a3)), none, none, (some (av_i a6)), none, (some (av_i a8)), (some (av_i q59.1)), none, none, none, none]) ⟨rfl, rfl, rfl, rfl, rfl, rfl, rfl, trivial⟩ (tb_L_law_563 ih h)
def fb_L_law_125 (k78 : Option Nat → Option Nat → Option Nat → Option Nat → Option Nat → Int32 → Int32 → Int32 → ax_S → Option (Int32 × ax_S)) (a0 : Option Nat) (a1 : Option Nat) (a2 : Option Nat) (a3 : Option Nat) (a4 : Option Nat) (a6 : Int32) (a8 : Int32) (b0 : Option Nat) (b1 : Option Nat) (b2 : Option Nat) (b3 : Option Nat) (b4 : Int32) (b5 : Int32) (s : ax_S) : Option (Int32 × ax_S) :=
  (fn_L_adds b0 b1 b2 b3 b4 b5 s).bind fun q133 =>
  k78 a0 a1 a2 a3 a4 a6 q133.1 (a8 + (1)) q133.2
set_option maxRecDepth 100000 in
set_option maxHeartbeats 4000000 in
theorem tb_L_law_125 {q : Int32 × ax_S} {k78 : Option Nat → Option Nat → Option Nat → Option Nat → Option Nat → Int32 → Int32 → Int32 → ax_S → Option (Int32 × ax_S)} (hk78 : ∀ (a0 : Option Nat) (a1 : Option Nat) (a2 : Option Nat) (a3 : Option Nat) (a4 : Option Nat) (a6 : Int32) (a7 : Int32) (a8 : Int32) (s : ax_S), k78 a0 a1 a2 a3 a4 a6 a7 a8 s = some q → AW mm_L_law 73 0 0 78 [(some (av_r a0)), (some (av_r a1)), (some (av_r a2)), (some (av_r a3)), (some (av_r a4)), none, (some (av_i a6)), (some (av_i a7)), (some (av_i a8)), none, none, none, none, none] [] s (some (av_i q.1), q.2)) {a0 : Option Nat} {a1 : Option Nat} {a2 : Option Nat} {a3 : Option Nat} {a4 : Option Nat} {a6 : Int32} {a8 : Int32} {b0 : Option Nat} {b1 : Option Nat} {b2 : Option Nat} {b3 : Option Nat} {b4 : Int32} {b5 : Int32} {s : ax_S} (h : fb_L_law_125 k78 a0 a1 a2 a3 a4 a6 a8 b0 b1 b2 b3 b4 b5 s = some q) : AW mm_L_law 73 0 0 125 [(some (av_r a0)), (some (av_r a1)), (some (av_r a2)), (some (av_r a3)), (some (av_r a4)), none, (some (av_i a6)), none, (some (av_i a8)), none, none, none, none, none] [av_i b5, av_i b4, av_r b3, av_r b2, av_r b1, av_r b0] s (some (av_i q.1), q.2) := by
  unfold fb_L_law_125 at h
  obtain ⟨q133, gq133, h⟩ := Option.bind_eq_some_iff.mp h
  refine ax_cS (As := [av_r b0, av_r b1, av_r b2, av_r b3, av_i b4, av_i b5]) dL_law_125 (th_L_adds gq133) (And.intro wd_654 wd_17) wd_652 wd_653 cy_L_adds (by omega) (by decide) (Nat.le_of_ble_eq_true rfl) rfl ?_
  refine ax_istore (i := 7) (L2 := [some (av_r a0), some (av_r a1), some (av_r a2), some (av_r a3), some (av_r a4), none, some (av_i a6), some (av_i q133.1), some (av_i a8), none, none, none, none, none]) dL_law_128 (by decide) rfl rfl ?_
  refine ax_iinc (i := 8) (v := (a8 + (1))) (L2 := [some (av_r a0), some (av_r a1), some (av_r a2), some (av_r a3), some (av_r a4), none, some (av_i a6), some (av_i q133.1), some (av_i (a8 + (1))), none, none, none, none, none]) dL_law_130 rfl rfl (by decide) rfl rfl ?_
  refine ax_goto (tgt := 78) dL_law_133 (by decide) ?_
  exact ax_less (L' := [(some (av_r a0)), (some (av_r a1)), (some (av_r a2)), (some (av_r a3)), (some (av_r a4)), none, (some (av_i a6)), (some (av_i q133.1)), (some (av_i (a8 + (1)))), none, none, none, none, none]) ⟨rfl, rfl, rfl, rfl, rfl, rfl, rfl, rfl, trivial⟩ (hk78 _ _ _ _ _ _ _ _ _ h)
def fb_L_law_78 : Nat → Option Nat → Option Nat → Option Nat → Option Nat → Option Nat → Int32 → Int32 → Int32 → ax_S → Option (Int32 × ax_S)
  | 0, _, _, _, _, _, _, _, _, _ => none
  | n + 1, a0, a1, a2, a3, a4, a6, a7, a8, s =>
    if a6 ≤ a8 then
      fb_L_law_139 10000 a0 a1 a2 a3 a6 a7 (0 : Int32) s
    else
      if a7 = 0 then
        fb_L_law_139 10000 a0 a1 a2 a3 a6 a7 (0 : Int32) s
      else
        (fn_L_cell a0 ((1 : Int32) + a8) s).bind fun q136 =>
        (if (3 : Int32) = 0 then none else some ()).bind fun u137 =>
        if (q136.1 - q136.1 / (3 : Int32) * (3 : Int32)) = 0 then
          fb_L_law_125 (fb_L_law_78 n) a0 a1 a2 a3 a4 a6 a8 a1 a2 a3 a4 a8 (0 : Int32) q136.2
        else
          (if (7 : Int32) = 0 then none else some ()).bind fun u139 =>
          fb_L_law_125 (fb_L_law_78 n) a0 a1 a2 a3 a4 a6 a8 a1 a2 a3 a4 a8 ((q136.1 >>> ((2 : Int32) &&& 31)) - (q136.1 >>> ((2 : Int32) &&& 31)) / (7 : Int32) * (7 : Int32)) q136.2
set_option maxRecDepth 100000 in
set_option maxHeartbeats 4000000 in
theorem tb_L_law_78 {q : Int32 × ax_S} : ∀ (n : Nat) (a0 : Option Nat) (a1 : Option Nat) (a2 : Option Nat) (a3 : Option Nat) (a4 : Option Nat) (a6 : Int32) (a7 : Int32) (a8 : Int32) (s : ax_S) (h : fb_L_law_78 n a0 a1 a2 a3 a4 a6 a7 a8 s = some q), AW mm_L_law 73 0 0 78 [(some (av_r a0)), (some (av_r a1)), (some (av_r a2)), (some (av_r a3)), (some (av_r a4)), none, (some (av_i a6)), (some (av_i a7)), (some (av_i a8)), none, none, none, none, none] [] s (some (av_i q.1), q.2) := by
  intro n
  induction n with
  | zero =>
    intro a0 a1 a2 a3 a4 a6 a7 a8 s h
    exact ax_no h
  | succ n ih =>
    intro a0 a1 a2 a3 a4 a6 a7 a8 s h
    unfold fb_L_law_78 at h
    refine ax_iload (i := 8) dL_law_78 rfl ?_
    refine ax_iload (i := 6) dL_law_80 rfl ?_
    refine ax_icmp_ge (tgt := 136) dL_law_82 (by decide) (fun c134 => ?_) (fun c134 => ?_)
    · rw [if_pos c134] at h
      refine ax_iconst (v := (0 : Int32)) dL_law_136 rfl ?_
      refine ax_istore (i := 8) (L2 := [some (av_r a0), some (av_r a1), some (av_r a2), some (av_r a3), some (av_r a4), none, some (av_i a6), some (av_i a7), some (av_i (0 : Int32)), none, none, none, none, none]) dL_law_137 (by decide) rfl rfl ?_
      exact ax_less (L' := [(some (av_r a0)), (some (av_r a1)), (some (av_r a2)), (some (av_r a3)), none, none, (some (av_i a6)), (some (av_i a7)), (some (av_i (0 : Int32))), none, none, none, none, none]) ⟨rfl, rfl, rfl, rfl, rfl, rfl, rfl, trivial⟩ (tb_L_law_139  _ _ _ _ _ _ _ _ _ h)
    · rw [if_neg c134] at h
      refine ax_iload (i := 7) dL_law_85 rfl ?_
      refine ax_if_eq (tgt := 136) dL_law_87 (by decide) (fun c135 => ?_) (fun c135 => ?_)
      · rw [if_pos c135] at h
        refine ax_iconst (v := (0 : Int32)) dL_law_136 rfl ?_
        refine ax_istore (i := 8) (L2 := [some (av_r a0), some (av_r a1), some (av_r a2), some (av_r a3), some (av_r a4), none, some (av_i a6), some (av_i a7), some (av_i (0 : Int32)), none, none, none, none, none]) dL_law_137 (by decide) rfl rfl ?_
        exact ax_less (L' := [(some (av_r a0)), (some (av_r a1)), (some (av_r a2)), (some (av_r a3)), none, none, (some (av_i a6)), (some (av_i a7)), (some (av_i (0 : Int32))), none, none, none, none, none]) ⟨rfl, rfl, rfl, rfl, rfl, rfl, rfl, trivial⟩ (tb_L_law_139  _ _ _ _ _ _ _ _ _ h)
      · rw [if_neg c135] at h
        refine ax_aload_n (i := 0) dL_law_90 rfl rfl ?_
        refine ax_iconst (v := (1 : Int32)) dL_law_91 rfl ?_
        refine ax_iload (i := 8) dL_law_92 rfl ?_
        refine ax_iadd dL_law_94 ?_
        obtain ⟨q136, gq136, h⟩ := Option.bind_eq_some_iff.mp h
        refine ax_cS (As := [av_r a0, av_i ((1 : Int32) + a8)]) dL_law_95 (th_L_cell gq136) (And.intro wd_643 wd_17) wd_641 wd_642 cy_L_cell (by omega) (by decide) (Nat.le_of_ble_eq_true rfl) rfl ?_
        refine ax_istore (i := 9) (L2 := [some (av_r a0), some (av_r a1), some (av_r a2), some (av_r a3), some (av_r a4), none, some (av_i a6), some (av_i a7), some (av_i a8), some (av_i q136.1), none, none, none, none]) dL_law_98 (by decide) rfl rfl ?_
        refine ax_aload_n (i := 1) dL_law_100 rfl rfl ?_
        refine ax_aload_n (i := 2) dL_law_101 rfl rfl ?_
        refine ax_aload_n (i := 3) dL_law_102 rfl rfl ?_
        refine ax_aload (i := 4) dL_law_103 rfl ?_
        refine ax_iload (i := 8) dL_law_105 rfl ?_
        refine ax_iload (i := 9) dL_law_107 rfl ?_
        refine ax_iconst (v := (3 : Int32)) dL_law_109 rfl ?_
        obtain ⟨u137, gu137, h⟩ := Option.bind_eq_some_iff.mp h
        refine ax_irem dL_law_110 (ax_ne_of gu137) ?_
        refine ax_if_ne (tgt := 118) dL_law_111 (by decide) (fun c138 => ?_) (fun c138 => ?_)
        · rw [if_neg c138] at h
          refine ax_iload (i := 9) dL_law_118 rfl ?_
          refine ax_iconst (v := (2 : Int32)) dL_law_120 rfl ?_
          refine ax_ishr dL_law_121 ?_
          refine ax_bipush (v := (7 : Int32)) dL_law_122 rfl ?_
          obtain ⟨u139, gu139, h⟩ := Option.bind_eq_some_iff.mp h
          refine ax_irem dL_law_124 (ax_ne_of gu139) ?_
          exact ax_less (L' := [(some (av_r a0)), (some (av_r a1)), (some (av_r a2)), (some (av_r a3)), (some (av_r a4)), none, (some (av_i a6)), none, (some (av_i a8)), none, none, none, none, none]) ⟨rfl, rfl, rfl, rfl, rfl, rfl, rfl, trivial⟩ (tb_L_law_125 ih h)
        · rw [if_pos c138] at h
          refine ax_iconst (v := (0 : Int32)) dL_law_114 rfl ?_
          refine ax_goto (tgt := 125) dL_law_115 (by decide) ?_
          exact ax_less (L' := [(some (av_r a0)), (some (av_r a1)), (some (av_r a2)), (some (av_r a3)), (some (av_r a4)), none, (some (av_i a6)), none, (some (av_i a8)), none, none, none, none, none]) ⟨rfl, rfl, rfl, rfl, rfl, rfl, rfl, trivial⟩ (tb_L_law_125 ih h)
def fb_L_law_72 (a0 : Option Nat) (a1 : Option Nat) (a2 : Option Nat) (a3 : Option Nat) (a4 : Option Nat) (a6 : Int32) (s : ax_S) : Option (Int32 × ax_S) :=
  fb_L_law_78 10000 a0 a1 a2 a3 a4 a6 (0 : Int32) (0 : Int32) s
set_option maxRecDepth 100000 in
set_option maxHeartbeats 4000000 in
theorem tb_L_law_72 {q : Int32 × ax_S} {a0 : Option Nat} {a1 : Option Nat} {a2 : Option Nat} {a3 : Option Nat} {a4 : Option Nat} {a6 : Int32} {s : ax_S} (h : fb_L_law_72 a0 a1 a2 a3 a4 a6 s = some q) : AW mm_L_law 73 0 0 72 [(some (av_r a0)), (some (av_r a1)), (some (av_r a2)), (some (av_r a3)), (some (av_r a4)), none, (some (av_i a6)), none, none, none, none, none, none, none] [] s (some (av_i q.1), q.2) := by
  unfold fb_L_law_72 at h
  refine ax_iconst (v := (0 : Int32)) dL_law_72 rfl ?_
  refine ax_istore (i := 7) (L2 := [some (av_r a0), some (av_r a1), some (av_r a2), some (av_r a3), some (av_r a4), none, some (av_i a6), some (av_i (0 : Int32)), none, none, none, none, none, none]) dL_law_73 (by decide) rfl rfl ?_
  refine ax_iconst (v := (0 : Int32)) dL_law_75 rfl ?_
  refine ax_istore (i := 8) (L2 := [some (av_r a0), some (av_r a1), some (av_r a2), some (av_r a3), some (av_r a4), none, some (av_i a6), some (av_i (0 : Int32)), some (av_i (0 : Int32)), none, none, none, none, none]) dL_law_76 (by decide) rfl rfl ?_
  exact ax_less (L' := [(some (av_r a0)), (some (av_r a1)), (some (av_r a2)), (some (av_r a3)), (some (av_r a4)), none, (some (av_i a6)), (some (av_i (0 : Int32))), (some (av_i (0 : Int32))), none, none, none, none, none]) ⟨rfl, rfl, rfl, rfl, rfl, rfl, rfl, rfl, trivial⟩ (tb_L_law_78  _ _ _ _ _ _ _ _ _ _ h)
def fi_L_law (a0 : Option Nat) (s : ax_S) : Option (Int32 × ax_S) :=
  ax_bd (ax_nw s 6 6) fun s140 =>
  ax_bd (some s.1.length) fun r141 =>
  (ax_sh s140 6 r141).bind fun w142 =>
  (fn_X9_init r141 s140).bind fun q143 =>
  ax_bd (ax_nw q143 9 36) fun s144 =>
  ax_bd (some q143.1.length) fun r145 =>
  ax_bd (ax_nw s144 9 36) fun s146 =>
  ax_bd (some s144.1.length) fun r147 =>
  ax_bd (ax_nw s146 9 48) fun s148 =>
  ax_bd (some s146.1.length) fun r149 =>
  (fn_L_cell a0 (0 : Int32) s148).bind fun q150 =>
  (if (7 : Int32) = 0 then none else some ()).bind fun u151 =>
  ax_bd (((3 : Int32) + (q150.1 - q150.1 / (7 : Int32) * (7 : Int32)))) fun v152 =>
  (ax_sh q150.2 6 r141).bind fun w153 =>
  (fn_X9_restore r141 (0 : Int32) q150.2).bind fun q154 =>
  if q154.1 = (-1003 : Int32) then
    (ax_sh q154.2 6 r141).bind fun w156 =>
    (fn_X9_build r141 q154.2).bind fun q157 =>
    if q157.1 = (-1003 : Int32) then
      (ax_sh q157.2 6 r141).bind fun w159 =>
      (fn_X9_clear r141 q157.2).bind fun q160 =>
      if q160.1 = 0 then
        fb_L_law_78 10000 a0 r141 r145 r147 r149 v152 (1 : Int32) (0 : Int32) q160.2
      else
        fb_L_law_72 a0 r141 r145 r147 r149 v152 q160.2
    else
      fb_L_law_72 a0 r141 r145 r147 r149 v152 q157.2
  else
    fb_L_law_72 a0 r141 r145 r147 r149 v152 q154.2
set_option maxRecDepth 100000 in
set_option maxHeartbeats 4000000 in
theorem tw_L_law {q : Int32 × ax_S} {a0 : Option Nat} {s : ax_S} (h : fi_L_law a0 s = some q) : AW mm_L_law 73 11599 54260 0 [some (av_r a0), none, none, none, none, none, none, none, none, none, none, none, none, none] [] s (some (av_i q.1), q.2) := by
  unfold fi_L_law at h
  refine ax_newO (t := 6) (q := (RX9, TX9, 6)) (bc := 11598) (bs := 54254) dL_law_0 rfl wd_36 wd_37 wd_18 (by decide +kernel) ?_
  refine ax_bdS h (fun s140 h => ?_)
  refine ax_bdR h (fun r141 h => ?_)
  refine ax_dup dL_law_3 trivial ?_
  obtain ⟨w142, gw142, h⟩ := Option.bind_eq_some_iff.mp h
  obtain ⟨q143, gq143, h⟩ := Option.bind_eq_some_iff.mp h
  refine ax_cI (As := []) (t := 6) (bc := 3) (bs := 120) (kc := 11595) (ks := 54134) dL_law_4 gw142 (th_X9_init gq143) rfl rfl (And.intro wd_40 wd_18) wd_38 wd_39 cy_X9_init (by omega) (by decide) (Nat.le_of_ble_eq_true rfl) rfl ?_
  refine ax_astore_n (i := 1) (L2 := [some (av_r a0), some (av_r r141), none, none, none, none, none, none, none, none, none, none, none, none]) dL_law_7 rfl (by decide) rfl rfl ?_
  refine ax_bipush (v := (36 : Int32)) dL_law_8 rfl ?_
  refine ax_newA (t := 9) (n := 36) (bc := 2) (bs := 84) dL_law_10 (by decide) rfl wd_84 (by decide) (by decide) (by decide) ?_
  refine ax_bdS h (fun s144 h => ?_)
  refine ax_bdR h (fun r145 h => ?_)
  refine ax_astore_n (i := 2) (L2 := [some (av_r a0), some (av_r r141), some (av_r r145), none, none, none, none, none, none, none, none, none, none, none]) dL_law_12 rfl (by decide) rfl rfl ?_
  refine ax_bipush (v := (36 : Int32)) dL_law_13 rfl ?_
  refine ax_newA (t := 9) (n := 36) (bc := 1) (bs := 48) dL_law_15 (by decide) rfl wd_84 (by decide) (by decide) (by decide) ?_
  refine ax_bdS h (fun s146 h => ?_)
  refine ax_bdR h (fun r147 h => ?_)
  refine ax_astore_n (i := 3) (L2 := [some (av_r a0), some (av_r r141), some (av_r r145), some (av_r r147), none, none, none, none, none, none, none, none, none, none]) dL_law_17 rfl (by decide) rfl rfl ?_
  refine ax_bipush (v := (48 : Int32)) dL_law_18 rfl ?_
  refine ax_newA (t := 9) (n := 48) (bc := 0) (bs := 0) dL_law_20 (by decide) rfl wd_84 (by decide) (by decide) (by decide) ?_
  refine ax_bdS h (fun s148 h => ?_)
  refine ax_bdR h (fun r149 h => ?_)
  refine ax_astore (i := 4) (L2 := [some (av_r a0), some (av_r r141), some (av_r r145), some (av_r r147), some (av_r r149), none, none, none, none, none, none, none, none, none]) dL_law_22 (by decide) rfl rfl ?_
  refine ax_aload_n (i := 0) dL_law_24 rfl rfl ?_
  refine ax_iconst (v := (0 : Int32)) dL_law_25 rfl ?_
  obtain ⟨q150, gq150, h⟩ := Option.bind_eq_some_iff.mp h
  refine ax_cS (As := [av_r a0, av_i (0 : Int32)]) dL_law_26 (th_L_cell gq150) (And.intro wd_643 wd_17) wd_641 wd_642 cy_L_cell (by omega) (by decide) (Nat.le_of_ble_eq_true rfl) rfl ?_
  refine ax_istore (i := 5) (L2 := [some (av_r a0), some (av_r r141), some (av_r r145), some (av_r r147), some (av_r r149), some (av_i q150.1), none, none, none, none, none, none, none, none]) dL_law_29 (by decide) rfl rfl ?_
  refine ax_iconst (v := (3 : Int32)) dL_law_31 rfl ?_
  refine ax_iload (i := 5) dL_law_32 rfl ?_
  refine ax_bipush (v := (7 : Int32)) dL_law_34 rfl ?_
  obtain ⟨u151, gu151, h⟩ := Option.bind_eq_some_iff.mp h
  refine ax_irem dL_law_36 (ax_ne_of gu151) ?_
  refine ax_iadd dL_law_37 ?_
  refine ax_bdI h (fun v152 h => ?_)
  refine ax_istore (i := 6) (L2 := [some (av_r a0), some (av_r r141), some (av_r r145), some (av_r r147), some (av_r r149), some (av_i q150.1), some (av_i v152), none, none, none, none, none, none, none]) dL_law_38 (by decide) rfl rfl ?_
  refine ax_aload_n (i := 1) dL_law_40 rfl rfl ?_
  refine ax_iconst (v := (0 : Int32)) dL_law_41 rfl ?_
  obtain ⟨w153, gw153, h⟩ := Option.bind_eq_some_iff.mp h
  obtain ⟨q154, gq154, h⟩ := Option.bind_eq_some_iff.mp h
  refine ax_cV (As := [av_i (0 : Int32)]) (t := 6) dL_law_42 gw153 (th_X9_restore gq154) rfl (And.intro wd_601 wd_18) wd_598 wd_599 wd_600 cy_X9_restore (by omega) (by decide) (Nat.le_of_ble_eq_true rfl) rfl ?_
  refine ax_sipush (v := (-1003 : Int32)) dL_law_45 rfl ?_
  refine ax_icmp_ne (tgt := 72) dL_law_48 (by decide) (fun c155 => ?_) (fun c155 => ?_)
  · rw [if_neg c155] at h
    refine ax_wide (bc2 := 0) (bs2 := 0) (by omega) (by omega) ?_
    exact ax_less (L' := [(some (av_r a0)), (some (av_r r141)), (some (av_r r145)), (some (av_r r147)), (some (av_r r149)), none, (some (av_i v152)), none, none, none, none, none, none, none]) ⟨rfl, rfl, rfl, rfl, rfl, rfl, trivial⟩ (tb_L_law_72  h)
  · rw [if_pos c155] at h
    refine ax_aload_n (i := 1) dL_law_51 rfl rfl ?_
    obtain ⟨w156, gw156, h⟩ := Option.bind_eq_some_iff.mp h
    obtain ⟨q157, gq157, h⟩ := Option.bind_eq_some_iff.mp h
    refine ax_cV (As := []) (t := 6) dL_law_52 gw156 (th_X9_build gq157) rfl (And.intro wd_436 wd_18) wd_433 wd_434 wd_435 cy_X9_build (by omega) (by decide) (Nat.le_of_ble_eq_true rfl) rfl ?_
    refine ax_sipush (v := (-1003 : Int32)) dL_law_55 rfl ?_
    refine ax_icmp_ne (tgt := 72) dL_law_58 (by decide) (fun c158 => ?_) (fun c158 => ?_)
    · rw [if_neg c158] at h
      refine ax_wide (bc2 := 0) (bs2 := 0) (by omega) (by omega) ?_
      exact ax_less (L' := [(some (av_r a0)), (some (av_r r141)), (some (av_r r145)), (some (av_r r147)), (some (av_r r149)), none, (some (av_i v152)), none, none, none, none, none, none, none]) ⟨rfl, rfl, rfl, rfl, rfl, rfl, trivial⟩ (tb_L_law_72  h)
    · rw [if_pos c158] at h
      refine ax_aload_n (i := 1) dL_law_61 rfl rfl ?_
      obtain ⟨w159, gw159, h⟩ := Option.bind_eq_some_iff.mp h
      obtain ⟨q160, gq160, h⟩ := Option.bind_eq_some_iff.mp h
      refine ax_cV (As := []) (t := 6) dL_law_62 gw159 (th_X9_clear gq160) rfl (And.intro wd_236 wd_18) wd_233 wd_234 wd_235 cy_X9_clear (by omega) (by decide) (Nat.le_of_ble_eq_true rfl) rfl ?_
      refine ax_if_ne (tgt := 72) dL_law_65 (by decide) (fun c161 => ?_) (fun c161 => ?_)
      · rw [if_neg c161] at h
        refine ax_wide (bc2 := 0) (bs2 := 0) (by omega) (by omega) ?_
        exact ax_less (L' := [(some (av_r a0)), (some (av_r r141)), (some (av_r r145)), (some (av_r r147)), (some (av_r r149)), none, (some (av_i v152)), none, none, none, none, none, none, none]) ⟨rfl, rfl, rfl, rfl, rfl, rfl, trivial⟩ (tb_L_law_72  h)
      · rw [if_pos c161] at h
        refine ax_iconst (v := (1 : Int32)) dL_law_68 rfl ?_
        refine ax_goto (tgt := 73) dL_law_69 (by decide) ?_
        refine ax_istore (i := 7) (L2 := [some (av_r a0), some (av_r r141), some (av_r r145), some (av_r r147), some (av_r r149), some (av_i q150.1), some (av_i v152), some (av_i (1 : Int32)), none, none, none, none, none, none]) dL_law_73 (by decide) rfl rfl ?_
        refine ax_iconst (v := (0 : Int32)) dL_law_75 rfl ?_
        refine ax_istore (i := 8) (L2 := [some (av_r a0), some (av_r r141), some (av_r r145), some (av_r r147), some (av_r r149), some (av_i q150.1), some (av_i v152), some (av_i (1 : Int32)), some (av_i (0 : Int32)), none, none, none, none, none]) dL_law_76 (by decide) rfl rfl ?_
        refine ax_wide (bc2 := 0) (bs2 := 0) (by omega) (by omega) ?_
        exact ax_less (L' := [(some (av_r a0)), (some (av_r r141)), (some (av_r r145)), (some (av_r r147)), (some (av_r r149)), none, (some (av_i v152)), (some (av_i (1 : Int32))), (some (av_i (0 : Int32))), none, none, none, none, none]) ⟨rfl, rfl, rfl, rfl, rfl, rfl, rfl, rfl, trivial⟩ (tb_L_law_78  _ _ _ _ _ _ _ _ _ _ h)
def fn_L_law (a0 : Option Nat) (s : ax_S) : Option (Int32 × ax_S) := ax_bz (fi_L_law a0 s)
