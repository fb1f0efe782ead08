/-! X1_has -/
abbrev mm_X1_has : ax_M := (RX1, cX1_has, (some .boolean), 2, false)
def fi_X1_has (a0 : Option Nat) (a1 : Int32) (s : ax_S) : Option (Int32 × ax_S) :=
  (ax_gi s 1 1 a0).bind fun x1 =>
  (fn_X9_isIn a1 (0) (x1 - (1)) s).bind fun q2 =>
  some (q2.1, q2.2)
set_option maxRecDepth 100000 in
set_option maxHeartbeats 4000000 in
theorem tw_X1_has {q : Int32 × ax_S} {a0 : Option Nat} {a1 : Int32} {s : ax_S} (h : fi_X1_has a0 a1 s = some q) : AW mm_X1_has 1 0 0 0 [some (av_r a0), some (av_i a1)] [] s (some (av_i q.1), q.2) := by
  unfold fi_X1_has at h
  refine ax_iload_n (i := 1) dX1_has_0 rfl rfl ?_
  refine ax_iconst (v := (0)) dX1_has_1 rfl ?_
  refine ax_aload_n (i := 0) dX1_has_2 rfl rfl ?_
  obtain ⟨x1, gx1, h⟩ := Option.bind_eq_some_iff.mp h
  refine ax_getI (q := (RX1, TX1, 5)) (t := 1) (k := 1) dX1_has_3 rfl (by decide) wd_87 rfl gx1 ?_
  refine ax_iconst (v := (1)) dX1_has_6 rfl ?_
  refine ax_isub dX1_has_7 ?_
  obtain ⟨q2, gq2, h⟩ := Option.bind_eq_some_iff.mp h
  refine ax_cSN (As := [av_i a1, av_i (0), av_i (x1 - (1))]) dX1_has_8 (th_X9_isIn gq2) (And.intro wd_259 wd_18) wn_257 wd_258 cy_X9_isIn (by omega) (by decide) (Nat.le_of_ble_eq_true rfl) rfl ?_
  exact ax_reti dX1_has_11 h
def fn_X1_has (a0 : Option Nat) (a1 : Int32) (s : ax_S) : Option (Int32 × ax_S) := ax_bz (fi_X1_has a0 a1 s)
set_option maxRecDepth 100000 in
set_option maxHeartbeats 4000000 in
theorem th_X1_has {q : Int32 × ax_S} {a0 : Option Nat} {a1 : Int32} {s : ax_S} (h : fn_X1_has a0 a1 s = some q) : AC mm_X1_has yX1_has 1 0 0 [av_r a0, av_i a1] s (some (av_i q.1), q.2) := by
  obtain ⟨h, hz⟩ := ax_bz_of h
  exact ax_met (L0 := [some (av_r a0), some (av_i a1)]) (by decide +kernel) rfl (fun h => absurd h (by decide)) ⟨rfl, rfl, trivial⟩ (Nat.le_of_ble_eq_true rfl) hz (tw_X1_has h)
/-! X1_depthBehindInputs -/
abbrev mm_X1_depthBehindInputs : ax_M := (RX1, cX1_depthBehindInputs, (some .int), 5, false)
def fb_X1_depthBehindInputs_4 : Nat → Option Nat → Option Nat → Int32 → Int32 → ax_S → Option (Int32 × ax_S)
  | 0, _, _, _, _, _ => none
  | n + 1, a0, a1, a2, a3, s =>
    if (3) ≤ a3 then
      some (a2, s)
    else
      (ax_gr s 2 3 a1).bind fun r2 =>
      (ax_al s 9 r2 a3).bind fun x3 =>
      (ax_sh s 1 a0).bind fun w4 =>
      (fn_X1_has a0 x3 s).bind fun q5 =>
      if q5.1 = 0 then
        (fb_X1_depthBehindInputs_4 n) a0 a1 a2 (a3 + (1)) q5.2
      else
        (ax_gr q5.2 1 4 a0).bind fun r7 =>
        (ax_al q5.2 9 r7 x3).bind fun x8 =>
        ax_bd ((if a2 < (x8 + (1)) then (x8 + (1)) else a2)) fun v9 =>
        (fb_X1_depthBehindInputs_4 n) a0 a1 v9 (a3 + (1)) q5.2
set_option maxRecDepth 100000 in
set_option maxHeartbeats 4000000 in
theorem tb_X1_depthBehindInputs_4 {q : Int32 × ax_S} : ∀ (n : Nat) (a0 : Option Nat) (a1 : Option Nat) (a2 : Int32) (a3 : Int32) (s : ax_S) (h : fb_X1_depthBehindInputs_4 n a0 a1 a2 a3 s = some q), AW mm_X1_depthBehindInputs 2 0 0 4 [(some (av_r a0)), (some (av_r a1)), (some (av_i a2)), (some (av_i a3)), none] [] s (some (av_i q.1), q.2) := by
  intro n
  induction n with
  | zero =>
    intro a0 a1 a2 a3 s h
    exact ax_no h
  | succ n ih =>
    intro a0 a1 a2 a3 s h
    unfold fb_X1_depthBehindInputs_4 at h
    refine ax_iload_n (i := 3) dX1_depthBehindInputs_4 rfl rfl ?_
    refine ax_iconst (v := (3)) dX1_depthBehindInputs_5 rfl ?_
    refine ax_icmp_ge (tgt := 46) dX1_depthBehindInputs_6 (by decide) (fun c1 => ?_) (fun c1 => ?_)
    · rw [if_pos c1] at h
      refine ax_iload_n (i := 2) dX1_depthBehindInputs_46 rfl rfl ?_
      exact ax_reti dX1_depthBehindInputs_47 h
    · rw [if_neg c1] at h
      refine ax_aload_n (i := 1) dX1_depthBehindInputs_9 rfl rfl ?_
      obtain ⟨r2, gr2, h⟩ := Option.bind_eq_some_iff.mp h
      refine ax_getR (q := (RX3, TX3, 5)) (t := 2) (k := 3) dX1_depthBehindInputs_10 rfl (by decide) wd_67 rfl gr2 ?_
      refine ax_iload_n (i := 3) dX1_depthBehindInputs_13 rfl rfl ?_
      obtain ⟨x3, gx3, h⟩ := Option.bind_eq_some_iff.mp h
      refine ax_iald dX1_depthBehindInputs_14 gx3 ?_
      refine ax_istore (i := 4) (L2 := [some (av_r a0), some (av_r a1), some (av_i a2), some (av_i a3), some (av_i x3)]) dX1_depthBehindInputs_15 (by decide) rfl rfl ?_
      refine ax_aload_n (i := 0) dX1_depthBehindInputs_17 rfl rfl ?_
      refine ax_iload (i := 4) dX1_depthBehindInputs_18 rfl ?_
      obtain ⟨w4, gw4, h⟩ := Option.bind_eq_some_iff.mp h
      obtain ⟨q5, gq5, h⟩ := Option.bind_eq_some_iff.mp h
      refine ax_cV (As := [av_i x3]) (t := 1) dX1_depthBehindInputs_20 gw4 (th_X1_has gq5) rfl (And.intro wd_256 wd_19) wd_253 wd_254 wd_255 cy_X1_has (by omega) (by decide) (Nat.le_of_ble_eq_true rfl) rfl ?_
      refine ax_if_eq (tgt := 40) dX1_depthBehindInputs_23 (by decide) (fun c6 => ?_) (fun c6 => ?_)
      · rw [if_pos c6] at h
        refine ax_iinc (i := 3) (v := (a3 + (1))) (L2 := [some (av_r a0), some (av_r a1), some (av_i a2), some (av_i (a3 + (1))), some (av_i x3)]) dX1_depthBehindInputs_40 rfl rfl (by decide) rfl rfl ?_
        refine ax_goto (tgt := 4) dX1_depthBehindInputs_43 (by decide) ?_
        exact ax_less (L' := [(some (av_r a0)), (some (av_r a1)), (some (av_i a2)), (some (av_i (a3 + (1)))), none]) ⟨rfl, rfl, rfl, rfl, trivial⟩ (ih _ _ _ _ _ h)
      · rw [if_neg c6] at h
        refine ax_iload_n (i := 2) dX1_depthBehindInputs_26 rfl rfl ?_
        refine ax_aload_n (i := 0) dX1_depthBehindInputs_27 rfl rfl ?_
        obtain ⟨r7, gr7, h⟩ := Option.bind_eq_some_iff.mp h
        refine ax_getR (q := (RX1, TX1, 5)) (t := 1) (k := 4) dX1_depthBehindInputs_28 rfl (by decide) wd_92 rfl gr7 ?_
        refine ax_iload (i := 4) dX1_depthBehindInputs_31 rfl ?_
        obtain ⟨x8, gx8, h⟩ := Option.bind_eq_some_iff.mp h
        refine ax_iald dX1_depthBehindInputs_33 gx8 ?_
        refine ax_iconst (v := (1)) dX1_depthBehindInputs_34 rfl ?_
        refine ax_iadd dX1_depthBehindInputs_35 ?_
        refine ax_max dX1_depthBehindInputs_36 wd_299 wd_300 wd_26 wd_301 (by omega) (Nat.le_of_ble_eq_true rfl) ?_
        refine ax_bdI h (fun v9 h => ?_)
        refine ax_istore_n (i := 2) (L2 := [some (av_r a0), some (av_r a1), some (av_i v9), some (av_i a3), some (av_i x3)]) dX1_depthBehindInputs_39 rfl (by decide) rfl rfl ?_
        refine ax_iinc (i := 3) (v := (a3 + (1))) (L2 := [some (av_r a0), some (av_r a1), some (av_i v9), some (av_i (a3 + (1))), some (av_i x3)]) dX1_depthBehindInputs_40 rfl rfl (by decide) rfl rfl ?_
        refine ax_goto (tgt := 4) dX1_depthBehindInputs_43 (by decide) ?_
        exact ax_less (L' := [(some (av_r a0)), (some (av_r a1)), (some (av_i v9)), (some (av_i (a3 + (1)))), none]) ⟨rfl, rfl, rfl, rfl, trivial⟩ (ih _ _ _ _ _ h)
def fn_X1_depthBehindInputs (a0 : Option Nat) (a1 : Option Nat) (s : ax_S) : Option (Int32 × ax_S) :=
  fb_X1_depthBehindInputs_4 10000 a0 a1 (0) (0) s
set_option maxRecDepth 100000 in
set_option maxHeartbeats 4000000 in
theorem tw_X1_depthBehindInputs {q : Int32 × ax_S} {a0 : Option Nat} {a1 : Option Nat} {s : ax_S} (h : fn_X1_depthBehindInputs a0 a1 s = some q) : AW mm_X1_depthBehindInputs 2 0 0 0 [some (av_r a0), some (av_r a1), none, none, none] [] s (some (av_i q.1), q.2) := by
  unfold fn_X1_depthBehindInputs at h
  refine ax_iconst (v := (0)) dX1_depthBehindInputs_0 rfl ?_
  refine ax_istore_n (i := 2) (L2 := [some (av_r a0), some (av_r a1), some (av_i (0)), none, none]) dX1_depthBehindInputs_1 rfl (by decide) rfl rfl ?_
  refine ax_iconst (v := (0)) dX1_depthBehindInputs_2 rfl ?_
  refine ax_istore_n (i := 3) (L2 := [some (av_r a0), some (av_r a1), some (av_i (0)), some (av_i (0)), none]) dX1_depthBehindInputs_3 rfl (by decide) rfl rfl ?_
  exact ax_less (L' := [(some (av_r a0)), (some (av_r a1)), (some (av_i (0))), (some (av_i (0))), none]) ⟨rfl, rfl, rfl, rfl, trivial⟩ (tb_X1_depthBehindInputs_4  _ _ _ _ _ _ h)
set_option maxRecDepth 100000 in
set_option maxHeartbeats 4000000 in
theorem th_X1_depthBehindInputs {q : Int32 × ax_S} {a0 : Option Nat} {a1 : Option Nat} {s : ax_S} (h : fn_X1_depthBehindInputs a0 a1 s = some q) : AC mm_X1_depthBehindInputs yX1_depthBehindInputs 2 0 0 [av_r a0, av_r a1] s (some (av_i q.1), q.2) := by
  exact ax_met (L0 := [some (av_r a0), some (av_r a1), none, none, none]) (by decide +kernel) rfl (fun h => absurd h (by decide)) ⟨rfl, rfl, trivial⟩ (Nat.le_of_ble_eq_true rfl) trivial (tw_X1_depthBehindInputs h)
/-! X1_firstReady -/
abbrev mm_X1_firstReady : ax_M := (RX1, cX1_firstReady, (some .int), 4, false)
def fb_X1_firstReady_31 (k2 : Option Nat → Int32 → Int32 → ax_S → Option (Int32 × ax_S)) (a0 : Option Nat) (a1 : Int32) (a2 : Int32) (b0 : Int32) (s : ax_S) : Option (Int32 × ax_S) :=
  if b0 = 0 then
    k2 a0 a1 (a2 + (1)) s
  else
    (fn_X9_contains a1 a2 s).bind fun q2 =>
    if q2.1 = 0 then
      some (a2, q2.2)
    else
      k2 a0 a1 (a2 + (1)) q2.2
set_option maxRecDepth 100000 in
set_option maxHeartbeats 4000000 in
theorem tb_X1_firstReady_31 {q : Int32 × ax_S} {k2 : Option Nat → Int32 → Int32 → ax_S → Option (Int32 × ax_S)} (hk2 : ∀ (a0 : Option Nat) (a1 : Int32) (a2 : Int32) (s : ax_S), k2 a0 a1 a2 s = some q → AW mm_X1_firstReady 2 0 0 2 [(some (av_r a0)), (some (av_i a1)), (some (av_i a2)), none] [] s (some (av_i q.1), q.2)) {a0 : Option Nat} {a1 : Int32} {a2 : Int32} {b0 : Int32} {s : ax_S} (h : fb_X1_firstReady_31 k2 a0 a1 a2 b0 s = some q) : AW mm_X1_firstReady 2 0 0 31 [(some (av_r a0)), (some (av_i a1)), (some (av_i a2)), none] [av_i b0] s (some (av_i q.1), q.2) := by
  unfold fb_X1_firstReady_31 at h
  refine ax_istore_n (i := 3) (L2 := [some (av_r a0), some (av_i a1), some (av_i a2), some (av_i b0)]) dX1_firstReady_31 rfl (by decide) rfl rfl ?_
  refine ax_iload_n (i := 3) dX1_firstReady_32 rfl rfl ?_
  refine ax_if_eq (tgt := 46) dX1_firstReady_33 (by decide) (fun c1 => ?_) (fun c1 => ?_)
  · rw [if_pos c1] at h
    refine ax_iinc (i := 2) (v := (a2 + (1))) (L2 := [some (av_r a0), some (av_i a1), some (av_i (a2 + (1))), some (av_i b0)]) dX1_firstReady_46 rfl rfl (by decide) rfl rfl ?_
    refine ax_goto (tgt := 2) dX1_firstReady_49 (by decide) ?_
    exact ax_less (L' := [(some (av_r a0)), (some (av_i a1)), (some (av_i (a2 + (1)))), none]) ⟨rfl, rfl, rfl, trivial⟩ (hk2 _ _ _ _ h)
  · rw [if_neg c1] at h
    refine ax_iload_n (i := 1) dX1_firstReady_36 rfl rfl ?_
    refine ax_iload_n (i := 2) dX1_firstReady_37 rfl rfl ?_
    obtain ⟨q2, gq2, h⟩ := Option.bind_eq_some_iff.mp h
    refine ax_cSN (As := [av_i a1, av_i a2]) dX1_firstReady_38 (th_X9_contains gq2) (And.intro wd_279 wd_18) wn_294 wd_278 cy_X9_contains (by omega) (by decide) (Nat.le_of_ble_eq_true rfl) rfl ?_
    refine ax_if_ne (tgt := 46) dX1_firstReady_41 (by decide) (fun c3 => ?_) (fun c3 => ?_)
    · rw [if_neg c3] at h
      refine ax_iinc (i := 2) (v := (a2 + (1))) (L2 := [some (av_r a0), some (av_i a1), some (av_i (a2 + (1))), some (av_i b0)]) dX1_firstReady_46 rfl rfl (by decide) rfl rfl ?_
      refine ax_goto (tgt := 2) dX1_firstReady_49 (by decide) ?_
      exact ax_less (L' := [(some (av_r a0)), (some (av_i a1)), (some (av_i (a2 + (1)))), none]) ⟨rfl, rfl, rfl, trivial⟩ (hk2 _ _ _ _ h)
    · rw [if_pos c3] at h
      refine ax_iload_n (i := 2) dX1_firstReady_44 rfl rfl ?_
      exact ax_reti dX1_firstReady_45 h
def fb_X1_firstReady_2 : Nat → Option Nat → Int32 → Int32 → ax_S → Option (Int32 × ax_S)
  | 0, _, _, _, _ => none
  | n + 1, a0, a1, a2, s =>
    (ax_gi s 1 1 a0).bind fun x4 =>
    if x4 ≤ a2 then
      some ((0), s)
    else
      (ax_gr s 1 0 a0).bind fun r6 =>
      (ax_ar s 12 r6 a2).bind fun r7 =>
      (ax_sh s 2 r7).bind fun w8 =>
      (fn_X3_inputSet r7 s).bind fun q9 =>
      if (q9.1 &&& (a1 ^^^ (-1))) = 0 then
        fb_X1_firstReady_31 (fb_X1_firstReady_2 n) a0 a1 a2 (1) q9.2
      else
        fb_X1_firstReady_31 (fb_X1_firstReady_2 n) a0 a1 a2 (0) q9.2
set_option maxRecDepth 100000 in
set_option maxHeartbeats 4000000 in
theorem tb_X1_firstReady_2 {q : Int32 × ax_S} : ∀ (n : Nat) (a0 : Option Nat) (a1 : Int32) (a2 : Int32) (s : ax_S) (h : fb_X1_firstReady_2 n a0 a1 a2 s = some q), AW mm_X1_firstReady 2 0 0 2 [(some (av_r a0)), (some (av_i a1)), (some (av_i a2)), none] [] s (some (av_i q.1), q.2) := by
  intro n
  induction n with
  | zero =>
    intro a0 a1 a2 s h
    exact ax_no h
  | succ n ih =>
    intro a0 a1 a2 s h
    unfold fb_X1_firstReady_2 at h
    refine ax_iload_n (i := 2) dX1_firstReady_2 rfl rfl ?_
    refine ax_aload_n (i := 0) dX1_firstReady_3 rfl rfl ?_
    obtain ⟨x4, gx4, h⟩ := Option.bind_eq_some_iff.mp h
    refine ax_getI (q := (RX1, TX1, 5)) (t := 1) (k := 1) dX1_firstReady_4 rfl (by decide) wd_87 rfl gx4 ?_
    refine ax_icmp_ge (tgt := 52) dX1_firstReady_7 (by decide) (fun c5 => ?_) (fun c5 => ?_)
    · rw [if_pos c5] at h
      refine ax_iconst (v := (0)) dX1_firstReady_52 rfl ?_
      exact ax_reti dX1_firstReady_53 h
    · rw [if_neg c5] at h
      refine ax_aload_n (i := 0) dX1_firstReady_10 rfl rfl ?_
      obtain ⟨r6, gr6, h⟩ := Option.bind_eq_some_iff.mp h
      refine ax_getR (q := (RX1, TX1, 5)) (t := 1) (k := 0) dX1_firstReady_11 rfl (by decide) wd_85 rfl gr6 ?_
      refine ax_iload_n (i := 2) dX1_firstReady_14 rfl rfl ?_
      obtain ⟨r7, gr7, h⟩ := Option.bind_eq_some_iff.mp h
      refine ax_aald (t := 12) (by decide) dX1_firstReady_15 gr7 ?_
      obtain ⟨w8, gw8, h⟩ := Option.bind_eq_some_iff.mp h
      obtain ⟨q9, gq9, h⟩ := Option.bind_eq_some_iff.mp h
      refine ax_cV (As := []) (t := 2) dX1_firstReady_16 gw8 (th_X3_inputSet gq9) rfl (And.intro wd_276 wd_20) wd_273 wd_274 wd_275 cy_X3_inputSet (by omega) (by decide) (Nat.le_of_ble_eq_true rfl) rfl ?_
      refine ax_iload_n (i := 1) dX1_firstReady_19 rfl rfl ?_
      refine ax_iconst (v := (-1)) dX1_firstReady_20 rfl ?_
      refine ax_ixor dX1_firstReady_21 ?_
      refine ax_iand dX1_firstReady_22 ?_
      refine ax_if_ne (tgt := 30) dX1_firstReady_23 (by decide) (fun c10 => ?_) (fun c10 => ?_)
      · rw [if_neg c10] at h
        refine ax_iconst (v := (0)) dX1_firstReady_30 rfl ?_
        exact ax_less (L' := [(some (av_r a0)), (some (av_i a1)), (some (av_i a2)), none]) ⟨rfl, rfl, rfl, trivial⟩ (tb_X1_firstReady_31 ih h)
      · rw [if_pos c10] at h
        refine ax_iconst (v := (1)) dX1_firstReady_26 rfl ?_
        refine ax_goto (tgt := 31) dX1_firstReady_27 (by decide) ?_
        exact ax_less (L' := [(some (av_r a0)), (some (av_i a1)), (some (av_i a2)), none]) ⟨rfl, rfl, rfl, trivial⟩ (tb_X1_firstReady_31 ih h)
def fn_X1_firstReady (a0 : Option Nat) (a1 : Int32) (s : ax_S) : Option (Int32 × ax_S) :=
  fb_X1_firstReady_2 10000 a0 a1 (0) s
set_option maxRecDepth 100000 in
set_option maxHeartbeats 4000000 in
theorem tw_X1_firstReady {q : Int32 × ax_S} {a0 : Option Nat} {a1 : Int32} {s : ax_S} (h : fn_X1_firstReady a0 a1 s = some q) : AW mm_X1_firstReady 2 0 0 0 [some (av_r a0), some (av_i a1), none, none] [] s (some (av_i q.1), q.2) := by
  unfold fn_X1_firstReady at h
  refine ax_iconst (v := (0)) dX1_firstReady_0 rfl ?_
  refine ax_istore_n (i := 2) (L2 := [some (av_r a0), some (av_i a1), some (av_i (0)), none]) dX1_firstReady_1 rfl (by decide) rfl rfl ?_
  exact ax_less (L' := [(some (av_r a0)), (some (av_i a1)), (some (av_i (0))), none]) ⟨rfl, rfl, rfl, trivial⟩ (tb_X1_firstReady_2  _ _ _ _ _ h)
set_option maxRecDepth 100000 in
set_option maxHeartbeats 4000000 in
theorem th_X1_firstReady {q : Int32 × ax_S} {a0 : Option Nat} {a1 : Int32} {s : ax_S} (h : fn_X1_firstReady a0 a1 s = some q) : AC mm_X1_firstReady yX1_firstReady 2 0 0 [av_r a0, av_i a1] s (some (av_i q.1), q.2) := by
  exact ax_met (L0 := [some (av_r a0), some (av_i a1), none, none]) (by decide +kernel) rfl (fun h => absurd h (by decide)) ⟨rfl, rfl, trivial⟩ (Nat.le_of_ble_eq_true rfl) trivial (tw_X1_firstReady h)
/-! X1_arrange -/
abbrev mm_X1_arrange : ax_M := (RX1, cX1_arrange, none, 4, false)
def fb_X1_arrange_4 : Nat → Option Nat → Int32 → Int32 → ax_S → Option (ax_S)
  | 0, _, _, _, _ => none
  | n + 1, a0, a1, a2, s =>
    (ax_gi s 1 1 a0).bind fun x1 =>
    if x1 ≤ a2 then
      some s
    else
      (ax_sh s 1 a0).bind fun w3 =>
      (fn_X1_firstReady a0 a1 s).bind fun q4 =>
      (ax_gr q4.2 1 2 a0).bind fun r5 =>
      (ax_as q4.2 9 r5 a2 q4.1).bind fun s6 =>
      (ax_gr s6 1 3 a0).bind fun r7 =>
      (ax_as s6 9 r7 q4.1 a2).bind fun s8 =>
      (ax_gr s8 1 4 a0).bind fun r9 =>
      (ax_gr s8 1 0 a0).bind fun r10 =>
      (ax_ar s8 12 r10 q4.1).bind fun r11 =>
      (ax_sh s8 1 a0).bind fun w12 =>
      (fn_X1_depthBehindInputs a0 r11 s8).bind fun q13 =>
      (ax_as q13.2 9 r9 q4.1 q13.1).bind fun s14 =>
      ax_bd ((a1 ||| ((1) <<< (q4.1 &&& 31)))) fun v15 =>
      (fb_X1_arrange_4 n) a0 v15 (a2 + (1)) s14
set_option maxRecDepth 100000 in
set_option maxHeartbeats 4000000 in
theorem tb_X1_arrange_4 {q : ax_S} : ∀ (n : Nat) (a0 : Option Nat) (a1 : Int32) (a2 : Int32) (s : ax_S) (h : fb_X1_arrange_4 n a0 a1 a2 s = some q), AW mm_X1_arrange 3 0 0 4 [(some (av_r a0)), (some (av_i a1)), (some (av_i a2)), none] [] s (none, q) := by
  intro n
  induction n with
  | zero =>
    intro a0 a1 a2 s h
    exact ax_no h
  | succ n ih =>
    intro a0 a1 a2 s h
    unfold fb_X1_arrange_4 at h
    refine ax_iload_n (i := 2) dX1_arrange_4 rfl rfl ?_
    refine ax_aload_n (i := 0) dX1_arrange_5 rfl rfl ?_
    obtain ⟨x1, gx1, h⟩ := Option.bind_eq_some_iff.mp h
    refine ax_getI (q := (RX1, TX1, 5)) (t := 1) (k := 1) dX1_arrange_6 rfl (by decide) wd_87 rfl gx1 ?_
    refine ax_icmp_ge (tgt := 60) dX1_arrange_9 (by decide) (fun c2 => ?_) (fun c2 => ?_)
    · rw [if_pos c2] at h
      exact ax_retv dX1_arrange_60 h
    · rw [if_neg c2] at h
      refine ax_aload_n (i := 0) dX1_arrange_12 rfl rfl ?_
      refine ax_iload_n (i := 1) dX1_arrange_13 rfl rfl ?_
      obtain ⟨w3, gw3, h⟩ := Option.bind_eq_some_iff.mp h
      obtain ⟨q4, gq4, h⟩ := Option.bind_eq_some_iff.mp h
      refine ax_cV (As := [av_i a1]) (t := 1) dX1_arrange_14 gw3 (th_X1_firstReady gq4) rfl (And.intro wd_293 wd_19) wd_290 wd_292 wd_1 cy_X1_firstReady (by omega) (by decide) (Nat.le_of_ble_eq_true rfl) rfl ?_
      refine ax_istore_n (i := 3) (L2 := [some (av_r a0), some (av_i a1), some (av_i a2), some (av_i q4.1)]) dX1_arrange_17 rfl (by decide) rfl rfl ?_
      refine ax_aload_n (i := 0) dX1_arrange_18 rfl rfl ?_
      obtain ⟨r5, gr5, h⟩ := Option.bind_eq_some_iff.mp h
      refine ax_getR (q := (RX1, TX1, 5)) (t := 1) (k := 2) dX1_arrange_19 rfl (by decide) wd_89 rfl gr5 ?_
      refine ax_iload_n (i := 2) dX1_arrange_22 rfl rfl ?_
      refine ax_iload_n (i := 3) dX1_arrange_23 rfl rfl ?_
      obtain ⟨s6, gs6, h⟩ := Option.bind_eq_some_iff.mp h
      refine ax_iast dX1_arrange_24 gs6 ?_
      refine ax_aload_n (i := 0) dX1_arrange_25 rfl rfl ?_
      obtain ⟨r7, gr7, h⟩ := Option.bind_eq_some_iff.mp h
      refine ax_getR (q := (RX1, TX1, 5)) (t := 1) (k := 3) dX1_arrange_26 rfl (by decide) wd_90 rfl gr7 ?_
      refine ax_iload_n (i := 3) dX1_arrange_29 rfl rfl ?_
      refine ax_iload_n (i := 2) dX1_arrange_30 rfl rfl ?_
      obtain ⟨s8, gs8, h⟩ := Option.bind_eq_some_iff.mp h
      refine ax_iast dX1_arrange_31 gs8 ?_
      refine ax_aload_n (i := 0) dX1_arrange_32 rfl rfl ?_
      obtain ⟨r9, gr9, h⟩ := Option.bind_eq_some_iff.mp h
      refine ax_getR (q := (RX1, TX1, 5)) (t := 1) (k := 4) dX1_arrange_33 rfl (by decide) wd_92 rfl gr9 ?_
      refine ax_iload_n (i := 3) dX1_arrange_36 rfl rfl ?_
      refine ax_aload_n (i := 0) dX1_arrange_37 rfl rfl ?_
      refine ax_aload_n (i := 0) dX1_arrange_38 rfl rfl ?_
      obtain ⟨r10, gr10, h⟩ := Option.bind_eq_some_iff.mp h
      refine ax_getR (q := (RX1, TX1, 5)) (t := 1) (k := 0) dX1_arrange_39 rfl (by decide) wd_85 rfl gr10 ?_
      refine ax_iload_n (i := 3) dX1_arrange_42 rfl rfl ?_
      obtain ⟨r11, gr11, h⟩ := Option.bind_eq_some_iff.mp h
      refine ax_aald (t := 12) (by decide) dX1_arrange_43 gr11 ?_
      obtain ⟨w12, gw12, h⟩ := Option.bind_eq_some_iff.mp h
      obtain ⟨q13, gq13, h⟩ := Option.bind_eq_some_iff.mp h
      refine ax_cV (As := [av_r r11]) (t := 1) dX1_arrange_44 gw12 (th_X1_depthBehindInputs gq13) rfl (And.intro wd_298 wd_19) wd_295 wd_297 wd_2 cy_X1_depthBehindInputs (by omega) (by decide) (Nat.le_of_ble_eq_true rfl) rfl ?_
      obtain ⟨s14, gs14, h⟩ := Option.bind_eq_some_iff.mp h
      refine ax_iast dX1_arrange_47 gs14 ?_
      refine ax_iload_n (i := 1) dX1_arrange_48 rfl rfl ?_
      refine ax_iconst (v := (1)) dX1_arrange_49 rfl ?_
      refine ax_iload_n (i := 3) dX1_arrange_50 rfl rfl ?_
      refine ax_ishl dX1_arrange_51 ?_
      refine ax_ior dX1_arrange_52 ?_
      refine ax_bdI h (fun v15 h => ?_)
      refine ax_istore_n (i := 1) (L2 := [some (av_r a0), some (av_i v15), some (av_i a2), some (av_i q4.1)]) dX1_arrange_53 rfl (by decide) rfl rfl ?_
      refine ax_iinc (i := 2) (v := (a2 + (1))) (L2 := [some (av_r a0), some (av_i v15), some (av_i (a2 + (1))), some (av_i q4.1)]) dX1_arrange_54 rfl rfl (by decide) rfl rfl ?_
      refine ax_goto (tgt := 4) dX1_arrange_57 (by decide) ?_
      exact ax_less (L' := [(some (av_r a0)), (some (av_i v15)), (some (av_i (a2 + (1)))), none]) ⟨rfl, rfl, rfl, trivial⟩ (ih _ _ _ _ h)
def fn_X1_arrange (a0 : Option Nat) (s : ax_S) : Option (ax_S) :=
  fb_X1_arrange_4 10000 a0 (0) (0) s
set_option maxRecDepth 100000 in
set_option maxHeartbeats 4000000 in
theorem tw_X1_arrange {q : ax_S} {a0 : Option Nat} {s : ax_S} (h : fn_X1_arrange a0 s = some q) : AW mm_X1_arrange 3 0 0 0 [some (av_r a0), none, none, none] [] s (none, q) := by
  unfold fn_X1_arrange at h
  refine ax_iconst (v := (0)) dX1_arrange_0 rfl ?_
  refine ax_istore_n (i := 1) (L2 := [some (av_r a0), some (av_i (0)), none, none]) dX1_arrange_1 rfl (by decide) rfl rfl ?_
  refine ax_iconst (v := (0)) dX1_arrange_2 rfl ?_
  refine ax_istore_n (i := 2) (L2 := [some (av_r a0), some (av_i (0)), some (av_i (0)), none]) dX1_arrange_3 rfl (by decide) rfl rfl ?_
  exact ax_less (L' := [(some (av_r a0)), (some (av_i (0))), (some (av_i (0))), none]) ⟨rfl, rfl, rfl, trivial⟩ (tb_X1_arrange_4  _ _ _ _ _ h)
set_option maxRecDepth 100000 in
set_option maxHeartbeats 4000000 in
theorem th_X1_arrange {q : ax_S} {a0 : Option Nat} {s : ax_S} (h : fn_X1_arrange a0 s = some q) : AC mm_X1_arrange yX1_arrange 3 0 0 [av_r a0] s (none, q) := by
  exact ax_met (L0 := [some (av_r a0), none, none, none]) (by decide +kernel) rfl (fun h => absurd h (by decide)) ⟨rfl, trivial⟩ (Nat.le_of_ble_eq_true rfl) trivial (tw_X1_arrange h)
/-! X1_add -/
abbrev mm_X1_add : ax_M := (RX1, cX1_add, (some .int), 3, false)
def fn_X1_add (a0 : Option Nat) (a1 : Int32) (s : ax_S) : Option (Int32 × ax_S) :=
  (ax_gi s 1 1 a0).bind fun x1 =>
  if x1 < (12) then
    (ax_gi s 1 1 a0).bind fun x3 =>
    (ax_gr s 1 0 a0).bind fun r4 =>
    (ax_ar s 12 r4 x3).bind fun r5 =>
    (ax_sh s 2 r5).bind fun w6 =>
    (fn_X3_reset r5 a1 s).bind fun q7 =>
    (ax_gi q7 1 1 a0).bind fun x8 =>
    (ax_pi q7 1 1 a0 (x8 + (1))).bind fun s9 =>
    (ax_sh s9 1 a0).bind fun w10 =>
    (fn_X1_arrange a0 s9).bind fun q11 =>
    some (x3, q11)
  else
    some ((-1004), s)
set_option maxRecDepth 100000 in
set_option maxHeartbeats 4000000 in
theorem tw_X1_add {q : Int32 × ax_S} {a0 : Option Nat} {a1 : Int32} {s : ax_S} (h : fn_X1_add a0 a1 s = some q) : AW mm_X1_add 4 0 0 0 [some (av_r a0), some (av_i a1), none] [] s (some (av_i q.1), q.2) := by
  unfold fn_X1_add at h
  refine ax_aload_n (i := 0) dX1_add_0 rfl rfl ?_
  obtain ⟨x1, gx1, h⟩ := Option.bind_eq_some_iff.mp h
  refine ax_getI (q := (RX1, TX1, 5)) (t := 1) (k := 1) dX1_add_1 rfl (by decide) wd_87 rfl gx1 ?_
  refine ax_bipush (v := (12)) dX1_add_4 rfl ?_
  refine ax_icmp_lt (tgt := 13) dX1_add_6 (by decide) (fun c2 => ?_) (fun c2 => ?_)
  · rw [if_pos c2] at h
    refine ax_aload_n (i := 0) dX1_add_13 rfl rfl ?_
    obtain ⟨x3, gx3, h⟩ := Option.bind_eq_some_iff.mp h
    refine ax_getI (q := (RX1, TX1, 5)) (t := 1) (k := 1) dX1_add_14 rfl (by decide) wd_87 rfl gx3 ?_
    refine ax_istore_n (i := 2) (L2 := [some (av_r a0), some (av_i a1), some (av_i x3)]) dX1_add_17 rfl (by decide) rfl rfl ?_
    refine ax_aload_n (i := 0) dX1_add_18 rfl rfl ?_
    obtain ⟨r4, gr4, h⟩ := Option.bind_eq_some_iff.mp h
    refine ax_getR (q := (RX1, TX1, 5)) (t := 1) (k := 0) dX1_add_19 rfl (by decide) wd_85 rfl gr4 ?_
    refine ax_iload_n (i := 2) dX1_add_22 rfl rfl ?_
    obtain ⟨r5, gr5, h⟩ := Option.bind_eq_some_iff.mp h
    refine ax_aald (t := 12) (by decide) dX1_add_23 gr5 ?_
    refine ax_iload_n (i := 1) dX1_add_24 rfl rfl ?_
    obtain ⟨w6, gw6, h⟩ := Option.bind_eq_some_iff.mp h
    obtain ⟨q7, gq7, h⟩ := Option.bind_eq_some_iff.mp h
    refine ax_cV (As := [av_i a1]) (t := 2) dX1_add_25 gw6 (th_X3_reset gq7) rfl (And.intro wd_573 wd_20) wd_663 wd_571 wd_572 cy_X3_reset (by omega) (by decide) (Nat.le_of_ble_eq_true rfl) rfl ?_
    refine ax_aload_n (i := 0) dX1_add_28 rfl rfl ?_
    refine ax_dup dX1_add_29 trivial ?_
    obtain ⟨x8, gx8, h⟩ := Option.bind_eq_some_iff.mp h
    refine ax_getI (q := (RX1, TX1, 5)) (t := 1) (k := 1) dX1_add_30 rfl (by decide) wd_87 rfl gx8 ?_
    refine ax_iconst (v := (1)) dX1_add_33 rfl ?_
    refine ax_iadd dX1_add_34 ?_
    obtain ⟨s9, gs9, h⟩ := Option.bind_eq_some_iff.mp h
    refine ax_putI (q := (RX1, TX1, 5)) (t := 1) (k := 1) dX1_add_35 rfl (by decide) wd_87 rfl rfl ⟨rfl, rfl⟩ gs9 ?_
    refine ax_aload_n (i := 0) dX1_add_38 rfl rfl ?_
    obtain ⟨w10, gw10, h⟩ := Option.bind_eq_some_iff.mp h
    obtain ⟨q11, gq11, h⟩ := Option.bind_eq_some_iff.mp h
    refine ax_cV (As := []) (t := 1) dX1_add_39 gw10 (th_X1_arrange gq11) rfl (And.intro wd_289 wd_19) wd_286 wd_288 wd_0 cy_X1_arrange (by omega) (by decide) (Nat.le_of_ble_eq_true rfl) rfl ?_
    refine ax_iload_n (i := 2) dX1_add_42 rfl rfl ?_
    exact ax_reti dX1_add_43 h
  · rw [if_neg c2] at h
    refine ax_sipush (v := (-1004)) dX1_add_9 rfl ?_
    exact ax_reti dX1_add_12 h
set_option maxRecDepth 100000 in
set_option maxHeartbeats 4000000 in
theorem th_X1_add {q : Int32 × ax_S} {a0 : Option Nat} {a1 : Int32} {s : ax_S} (h : fn_X1_add a0 a1 s = some q) : AC mm_X1_add yX1_add 4 0 0 [av_r a0, av_i a1] s (some (av_i q.1), q.2) := by
  exact ax_met (L0 := [some (av_r a0), some (av_i a1), none]) (by decide +kernel) rfl (fun h => absurd h (by decide)) ⟨rfl, rfl, trivial⟩ (Nat.le_of_ble_eq_true rfl) trivial (tw_X1_add h)
/-! X1_hasInput -/
abbrev mm_X1_hasInput : ax_M := (RX1, cX1_hasInput, (some .boolean), 3, false)
def fi_X1_hasInput (a0 : Option Nat) (a1 : Int32) (a2 : Int32) (s : ax_S) : Option (Int32 × ax_S) :=
  (ax_sh s 1 a0).bind fun w1 =>
  (fn_X1_has a0 a1 s).bind fun q2 =>
  if q2.1 = 0 then
    some ((0), q2.2)
  else
    (ax_gr q2.2 1 0 a0).bind fun r4 =>
    (ax_ar q2.2 12 r4 a1).bind fun r5 =>
    (ax_gi q2.2 2 0 r5).bind fun x6 =>
    (fn_X2_inputs x6 q2.2).bind fun q7 =>
    (fn_X9_isIn a2 (0) (q7.1 - (1)) q7.2).bind fun q8 =>
    if q8.1 = 0 then
      some ((0), q8.2)
    else
      some ((1), q8.2)
set_option maxRecDepth 100000 in
set_option maxHeartbeats 4000000 in
theorem tw_X1_hasInput {q : Int32 × ax_S} {a0 : Option Nat} {a1 : Int32} {a2 : Int32} {s : ax_S} (h : fi_X1_hasInput a0 a1 a2 s = some q) : AW mm_X1_hasInput 2 0 0 0 [some (av_r a0), some (av_i a1), some (av_i a2)] [] s (some (av_i q.1), q.2) := by
  unfold fi_X1_hasInput at h
  refine ax_aload_n (i := 0) dX1_hasInput_0 rfl rfl ?_
  refine ax_iload_n (i := 1) dX1_hasInput_1 rfl rfl ?_
  obtain ⟨w1, gw1, h⟩ := Option.bind_eq_some_iff.mp h
  obtain ⟨q2, gq2, h⟩ := Option.bind_eq_some_iff.mp h
  refine ax_cV (As := [av_i a1]) (t := 1) dX1_hasInput_2 gw1 (th_X1_has gq2) rfl (And.intro wd_256 wd_19) wd_253 wd_254 wd_255 cy_X1_has (by omega) (by decide) (Nat.le_of_ble_eq_true rfl) rfl ?_
  refine ax_if_eq (tgt := 34) dX1_hasInput_5 (by decide) (fun c3 => ?_) (fun c3 => ?_)
  · rw [if_pos c3] at h
    refine ax_iconst (v := (0)) dX1_hasInput_34 rfl ?_
    exact ax_reti dX1_hasInput_35 h
  · rw [if_neg c3] at h
    refine ax_iload_n (i := 2) dX1_hasInput_8 rfl rfl ?_
    refine ax_iconst (v := (0)) dX1_hasInput_9 rfl ?_
    refine ax_aload_n (i := 0) dX1_hasInput_10 rfl rfl ?_
    obtain ⟨r4, gr4, h⟩ := Option.bind_eq_some_iff.mp h
    refine ax_getR (q := (RX1, TX1, 5)) (t := 1) (k := 0) dX1_hasInput_11 rfl (by decide) wd_85 rfl gr4 ?_
    refine ax_iload_n (i := 1) dX1_hasInput_14 rfl rfl ?_
    obtain ⟨r5, gr5, h⟩ := Option.bind_eq_some_iff.mp h
    refine ax_aald (t := 12) (by decide) dX1_hasInput_15 gr5 ?_
    obtain ⟨x6, gx6, h⟩ := Option.bind_eq_some_iff.mp h
    refine ax_getI (q := (RX3, TX3, 5)) (t := 2) (k := 0) dX1_hasInput_16 rfl (by decide) wd_59 rfl gx6 ?_
    obtain ⟨q7, gq7, h⟩ := Option.bind_eq_some_iff.mp h
    refine ax_cS (As := [av_i x6]) dX1_hasInput_19 (th_X2_inputs gq7) (And.intro wd_262 wd_32) wd_260 wd_261 cy_X2_inputs (by omega) (by decide) (Nat.le_of_ble_eq_true rfl) rfl ?_
    refine ax_iconst (v := (1)) dX1_hasInput_22 rfl ?_
    refine ax_isub dX1_hasInput_23 ?_
    obtain ⟨q8, gq8, h⟩ := Option.bind_eq_some_iff.mp h
    refine ax_cSN (As := [av_i a2, av_i (0), av_i (q7.1 - (1))]) dX1_hasInput_24 (th_X9_isIn gq8) (And.intro wd_259 wd_18) wn_257 wd_258 cy_X9_isIn (by omega) (by decide) (Nat.le_of_ble_eq_true rfl) rfl ?_
    refine ax_if_eq (tgt := 34) dX1_hasInput_27 (by decide) (fun c9 => ?_) (fun c9 => ?_)
    · rw [if_pos c9] at h
      refine ax_iconst (v := (0)) dX1_hasInput_34 rfl ?_
      exact ax_reti dX1_hasInput_35 h
    · rw [if_neg c9] at h
      refine ax_iconst (v := (1)) dX1_hasInput_30 rfl ?_
      refine ax_goto (tgt := 35) dX1_hasInput_31 (by decide) ?_
      exact ax_reti dX1_hasInput_35 h
def fn_X1_hasInput (a0 : Option Nat) (a1 : Int32) (a2 : Int32) (s : ax_S) : Option (Int32 × ax_S) := ax_bz (fi_X1_hasInput a0 a1 a2 s)
set_option maxRecDepth 100000 in
set_option maxHeartbeats 4000000 in
theorem th_X1_hasInput {q : Int32 × ax_S} {a0 : Option Nat} {a1 : Int32} {a2 : Int32} {s : ax_S} (h : fn_X1_hasInput a0 a1 a2 s = some q) : AC mm_X1_hasInput yX1_hasInput 2 0 0 [av_r a0, av_i a1, av_i a2] s (some (av_i q.1), q.2) := by
  obtain ⟨h, hz⟩ := ax_bz_of h
  exact ax_met (L0 := [some (av_r a0), some (av_i a1), some (av_i a2)]) (by decide +kernel) rfl (fun h => absurd h (by decide)) ⟨rfl, rfl, rfl, trivial⟩ (Nat.le_of_ble_eq_true rfl) hz (tw_X1_hasInput h)
/-! X1_dependents -/
abbrev mm_X1_dependents : ax_M := (RX1, cX1_dependents, (some .int), 5, false)
def fb_X1_dependents_6 : Nat → Option Nat → Int32 → Int32 → ax_S → Option (Int32 × ax_S)
  | 0, _, _, _, _ => none
  | n + 1, a0, a2, a3, s =>
    (ax_gi s 1 1 a0).bind fun x1 =>
    if x1 ≤ a3 then
      some (a2, s)
    else
      (ax_gr s 1 2 a0).bind fun r3 =>
      (ax_al s 9 r3 a3).bind fun x4 =>
      (ax_gr s 1 0 a0).bind fun r5 =>
      (ax_ar s 12 r5 x4).bind fun r6 =>
      (ax_sh s 2 r6).bind fun w7 =>
      (fn_X3_inputSet r6 s).bind fun q8 =>
      if (q8.1 &&& a2) = 0 then
        (fb_X1_dependents_6 n) a0 a2 (a3 + (1)) q8.2
      else
        ax_bd ((a2 ||| ((1) <<< (x4 &&& 31)))) fun v10 =>
        (fb_X1_dependents_6 n) a0 v10 (a3 + (1)) q8.2
set_option maxRecDepth 100000 in
set_option maxHeartbeats 4000000 in
theorem tb_X1_dependents_6 {q : Int32 × ax_S} : ∀ (n : Nat) (a0 : Option Nat) (a2 : Int32) (a3 : Int32) (s : ax_S) (h : fb_X1_dependents_6 n a0 a2 a3 s = some q), AW mm_X1_dependents 1 0 0 6 [(some (av_r a0)), none, (some (av_i a2)), (some (av_i a3)), none] [] s (some (av_i q.1), q.2) := by
  intro n
  induction n with
  | zero =>
    intro a0 a2 a3 s h
    exact ax_no h
  | succ n ih =>
    intro a0 a2 a3 s h
    unfold fb_X1_dependents_6 at h
    refine ax_iload_n (i := 3) dX1_dependents_6 rfl rfl ?_
    refine ax_aload_n (i := 0) dX1_dependents_7 rfl rfl ?_
    obtain ⟨x1, gx1, h⟩ := Option.bind_eq_some_iff.mp h
    refine ax_getI (q := (RX1, TX1, 5)) (t := 1) (k := 1) dX1_dependents_8 rfl (by decide) wd_87 rfl gx1 ?_
    refine ax_icmp_ge (tgt := 50) dX1_dependents_11 (by decide) (fun c2 => ?_) (fun c2 => ?_)
    · rw [if_pos c2] at h
      refine ax_iload_n (i := 2) dX1_dependents_50 rfl rfl ?_
      exact ax_reti dX1_dependents_51 h
    · rw [if_neg c2] at h
      refine ax_aload_n (i := 0) dX1_dependents_14 rfl rfl ?_
      obtain ⟨r3, gr3, h⟩ := Option.bind_eq_some_iff.mp h
      refine ax_getR (q := (RX1, TX1, 5)) (t := 1) (k := 2) dX1_dependents_15 rfl (by decide) wd_89 rfl gr3 ?_
      refine ax_iload_n (i := 3) dX1_dependents_18 rfl rfl ?_
      obtain ⟨x4, gx4, h⟩ := Option.bind_eq_some_iff.mp h
      refine ax_iald dX1_dependents_19 gx4 ?_
      refine ax_istore (i := 4) (L2 := [some (av_r a0), none, some (av_i a2), some (av_i a3), some (av_i x4)]) dX1_dependents_20 (by decide) rfl rfl ?_
      refine ax_aload_n (i := 0) dX1_dependents_22 rfl rfl ?_
      obtain ⟨r5, gr5, h⟩ := Option.bind_eq_some_iff.mp h
      refine ax_getR (q := (RX1, TX1, 5)) (t := 1) (k := 0) dX1_dependents_23 rfl (by decide) wd_85 rfl gr5 ?_
      refine ax_iload (i := 4) dX1_dependents_26 rfl ?_
      obtain ⟨r6, gr6, h⟩ := Option.bind_eq_some_iff.mp h
      refine ax_aald (t := 12) (by decide) dX1_dependents_28 gr6 ?_
      obtain ⟨w7, gw7, h⟩ := Option.bind_eq_some_iff.mp h
      obtain ⟨q8, gq8, h⟩ := Option.bind_eq_some_iff.mp h
      refine ax_cV (As := []) (t := 2) dX1_dependents_29 gw7 (th_X3_inputSet gq8) rfl (And.intro wd_276 wd_20) wd_273 wd_274 wd_275 cy_X3_inputSet (by omega) (by decide) (Nat.le_of_ble_eq_true rfl) rfl ?_
      refine ax_iload_n (i := 2) dX1_dependents_32 rfl rfl ?_
      refine ax_iand dX1_dependents_33 ?_
      refine ax_if_eq (tgt := 44) dX1_dependents_34 (by decide) (fun c9 => ?_) (fun c9 => ?_)
      · rw [if_pos c9] at h
        refine ax_iinc (i := 3) (v := (a3 + (1))) (L2 := [some (av_r a0), none, some (av_i a2), some (av_i (a3 + (1))), some (av_i x4)]) dX1_dependents_44 rfl rfl (by decide) rfl rfl ?_
        refine ax_goto (tgt := 6) dX1_dependents_47 (by decide) ?_
        exact ax_less (L' := [(some (av_r a0)), none, (some (av_i a2)), (some (av_i (a3 + (1)))), none]) ⟨rfl, rfl, rfl, trivial⟩ (ih _ _ _ _ h)
      · rw [if_neg c9] at h
        refine ax_iload_n (i := 2) dX1_dependents_37 rfl rfl ?_
        refine ax_iconst (v := (1)) dX1_dependents_38 rfl ?_
        refine ax_iload (i := 4) dX1_dependents_39 rfl ?_
        refine ax_ishl dX1_dependents_41 ?_
        refine ax_ior dX1_dependents_42 ?_
        refine ax_bdI h (fun v10 h => ?_)
        refine ax_istore_n (i := 2) (L2 := [some (av_r a0), none, some (av_i v10), some (av_i a3), some (av_i x4)]) dX1_dependents_43 rfl (by decide) rfl rfl ?_
        refine ax_iinc (i := 3) (v := (a3 + (1))) (L2 := [some (av_r a0), none, some (av_i v10), some (av_i (a3 + (1))), some (av_i x4)]) dX1_dependents_44 rfl rfl (by decide) rfl rfl ?_
        refine ax_goto (tgt := 6) dX1_dependents_47 (by decide) ?_
        exact ax_less (L' := [(some (av_r a0)), none, (some (av_i v10)), (some (av_i (a3 + (1)))), none]) ⟨rfl, rfl, rfl, trivial⟩ (ih _ _ _ _ h)
def fn_X1_dependents (a0 : Option Nat) (a1 : Int32) (s : ax_S) : Option (Int32 × ax_S) :=
  ax_bd (((1) <<< (a1 &&& 31))) fun v11 =>
  fb_X1_dependents_6 10000 a0 v11 (0) s
set_option maxRecDepth 100000 in
set_option maxHeartbeats 4000000 in
theorem tw_X1_dependents {q : Int32 × ax_S} {a0 : Option Nat} {a1 : Int32} {s : ax_S} (h : fn_X1_dependents a0 a1 s = some q) : AW mm_X1_dependents 1 0 0 0 [some (av_r a0), some (av_i a1), none, none, none] [] s (some (av_i q.1), q.2) := by
  unfold fn_X1_dependents at h
  refine ax_iconst (v := (1)) dX1_dependents_0 rfl ?_
  refine ax_iload_n (i := 1) dX1_dependents_1 rfl rfl ?_
  refine ax_ishl dX1_dependents_2 ?_
  refine ax_bdI h (fun v11 h => ?_)
  refine ax_istore_n (i := 2) (L2 := [some (av_r a0), some (av_i a1), some (av_i v11), none, none]) dX1_dependents_3 rfl (by decide) rfl rfl ?_
  refine ax_iconst (v := (0)) dX1_dependents_4 rfl ?_
  refine ax_istore_n (i := 3) (L2 := [some (av_r a0), some (av_i a1), some (av_i v11), some (av_i (0)), none]) dX1_dependents_5 rfl (by decide) rfl rfl ?_
  exact ax_less (L' := [(some (av_r a0)), none, (some (av_i v11)), (some (av_i (0))), none]) ⟨rfl, rfl, rfl, trivial⟩ (tb_X1_dependents_6  _ _ _ _ _ h)
set_option maxRecDepth 100000 in
set_option maxHeartbeats 4000000 in
theorem th_X1_dependents {q : Int32 × ax_S} {a0 : Option Nat} {a1 : Int32} {s : ax_S} (h : fn_X1_dependents a0 a1 s = some q) : AC mm_X1_dependents yX1_dependents 1 0 0 [av_r a0, av_i a1] s (some (av_i q.1), q.2) := by
  exact ax_met (L0 := [some (av_r a0), some (av_i a1), none, none, none]) (by decide +kernel) rfl (fun h => absurd h (by decide)) ⟨rfl, rfl, trivial⟩ (Nat.le_of_ble_eq_true rfl) trivial (tw_X1_dependents h)
/-! X1_hasParameter -/
abbrev mm_X1_hasParameter : ax_M := (RX1, cX1_hasParameter, (some .boolean), 3, false)
def fi_X1_hasParameter (a0 : Option Nat) (a1 : Int32) (a2 : Int32) (s : ax_S) : Option (Int32 × ax_S) :=
  (ax_sh s 1 a0).bind fun w1 =>
  (fn_X1_has a0 a1 s).bind fun q2 =>
  if q2.1 = 0 then
    some ((0), q2.2)
  else
    (ax_gr q2.2 1 0 a0).bind fun r4 =>
    (ax_ar q2.2 12 r4 a1).bind fun r5 =>
    (ax_gi q2.2 2 0 r5).bind fun x6 =>
    (fn_X2_parameters x6 q2.2).bind fun q7 =>
    (fn_X9_isIn a2 (0) (q7.1 - (1)) q7.2).bind fun q8 =>
    if q8.1 = 0 then
      some ((0), q8.2)
    else
      some ((1), q8.2)
set_option maxRecDepth 100000 in
set_option maxHeartbeats 4000000 in
theorem tw_X1_hasParameter {q : Int32 × ax_S} {a0 : Option Nat} {a1 : Int32} {a2 : Int32} {s : ax_S} (h : fi_X1_hasParameter a0 a1 a2 s = some q) : AW mm_X1_hasParameter 2 0 0 0 [some (av_r a0), some (av_i a1), some (av_i a2)] [] s (some (av_i q.1), q.2) := by
  unfold fi_X1_hasParameter at h
  refine ax_aload_n (i := 0) dX1_hasParameter_0 rfl rfl ?_
  refine ax_iload_n (i := 1) dX1_hasParameter_1 rfl rfl ?_
  obtain ⟨w1, gw1, h⟩ := Option.bind_eq_some_iff.mp h
  obtain ⟨q2, gq2, h⟩ := Option.bind_eq_some_iff.mp h
  refine ax_cV (As := [av_i a1]) (t := 1) dX1_hasParameter_2 gw1 (th_X1_has gq2) rfl (And.intro wd_256 wd_19) wd_253 wd_254 wd_255 cy_X1_has (by omega) (by decide) (Nat.le_of_ble_eq_true rfl) rfl ?_
  refine ax_if_eq (tgt := 34) dX1_hasParameter_5 (by decide) (fun c3 => ?_) (fun c3 => ?_)
  · rw [if_pos c3] at h
    refine ax_iconst (v := (0)) dX1_hasParameter_34 rfl ?_
    exact ax_reti dX1_hasParameter_35 h
  · rw [if_neg c3] at h
    refine ax_iload_n (i := 2) dX1_hasParameter_8 rfl rfl ?_
    refine ax_iconst (v := (0)) dX1_hasParameter_9 rfl ?_
    refine ax_aload_n (i := 0) dX1_hasParameter_10 rfl rfl ?_
    obtain ⟨r4, gr4, h⟩ := Option.bind_eq_some_iff.mp h
    refine ax_getR (q := (RX1, TX1, 5)) (t := 1) (k := 0) dX1_hasParameter_11 rfl (by decide) wd_85 rfl gr4 ?_
    refine ax_iload_n (i := 1) dX1_hasParameter_14 rfl rfl ?_
    obtain ⟨r5, gr5, h⟩ := Option.bind_eq_some_iff.mp h
    refine ax_aald (t := 12) (by decide) dX1_hasParameter_15 gr5 ?_
    obtain ⟨x6, gx6, h⟩ := Option.bind_eq_some_iff.mp h
    refine ax_getI (q := (RX3, TX3, 5)) (t := 2) (k := 0) dX1_hasParameter_16 rfl (by decide) wd_59 rfl gx6 ?_
    obtain ⟨q7, gq7, h⟩ := Option.bind_eq_some_iff.mp h
    refine ax_cS (As := [av_i x6]) dX1_hasParameter_19 (th_X2_parameters gq7) (And.intro wd_326 wd_32) wd_324 wd_325 cy_X2_parameters (by omega) (by decide) (Nat.le_of_ble_eq_true rfl) rfl ?_
    refine ax_iconst (v := (1)) dX1_hasParameter_22 rfl ?_
    refine ax_isub dX1_hasParameter_23 ?_
    obtain ⟨q8, gq8, h⟩ := Option.bind_eq_some_iff.mp h
    refine ax_cSN (As := [av_i a2, av_i (0), av_i (q7.1 - (1))]) dX1_hasParameter_24 (th_X9_isIn gq8) (And.intro wd_259 wd_18) wn_257 wd_258 cy_X9_isIn (by omega) (by decide) (Nat.le_of_ble_eq_true rfl) rfl ?_
    refine ax_if_eq (tgt := 34) dX1_hasParameter_27 (by decide) (fun c9 => ?_) (fun c9 => ?_)
    · rw [if_pos c9] at h
      refine ax_iconst (v := (0)) dX1_hasParameter_34 rfl ?_
      exact ax_reti dX1_hasParameter_35 h
    · rw [if_neg c9] at h
      refine ax_iconst (v := (1)) dX1_hasParameter_30 rfl ?_
      refine ax_goto (tgt := 35) dX1_hasParameter_31 (by decide) ?_
      exact ax_reti dX1_hasParameter_35 h
def fn_X1_hasParameter (a0 : Option Nat) (a1 : Int32) (a2 : Int32) (s : ax_S) : Option (Int32 × ax_S) := ax_bz (fi_X1_hasParameter a0 a1 a2 s)
set_option maxRecDepth 100000 in
set_option maxHeartbeats 4000000 in
theorem th_X1_hasParameter {q : Int32 × ax_S} {a0 : Option Nat} {a1 : Int32} {a2 : Int32} {s : ax_S} (h : fn_X1_hasParameter a0 a1 a2 s = some q) : AC mm_X1_hasParameter yX1_hasParameter 2 0 0 [av_r a0, av_i a1, av_i a2] s (some (av_i q.1), q.2) := by
  obtain ⟨h, hz⟩ := ax_bz_of h
  exact ax_met (L0 := [some (av_r a0), some (av_i a1), some (av_i a2)]) (by decide +kernel) rfl (fun h => absurd h (by decide)) ⟨rfl, rfl, rfl, trivial⟩ (Nat.le_of_ble_eq_true rfl) hz (tw_X1_hasParameter h)
/-! X1_link -/
abbrev mm_X1_link : ax_M := (RX1, cX1_link, none, 4, false)
def fn_X1_link (a0 : Option Nat) (a1 : Int32) (a2 : Int32) (a3 : Int32) (s : ax_S) : Option (ax_S) :=
  (ax_sh s 1 a0).bind fun w1 =>
  (fn_X1_hasInput a0 a1 a2 s).bind fun q2 =>
  if q2.1 = 0 then
    some q2.2
  else
    (ax_gr q2.2 1 0 a0).bind fun r4 =>
    (ax_ar q2.2 12 r4 a1).bind fun r5 =>
    (ax_gr q2.2 2 3 r5).bind fun r6 =>
    (ax_as q2.2 9 r6 a2 a3).bind fun s7 =>
    (ax_sh s7 1 a0).bind fun w8 =>
    (fn_X1_arrange a0 s7).bind fun q9 =>
    some q9
set_option maxRecDepth 100000 in
set_option maxHeartbeats 4000000 in
theorem tw_X1_link {q : ax_S} {a0 : Option Nat} {a1 : Int32} {a2 : Int32} {a3 : Int32} {s : ax_S} (h : fn_X1_link a0 a1 a2 a3 s = some q) : AW mm_X1_link 4 0 0 0 [some (av_r a0), some (av_i a1), some (av_i a2), some (av_i a3)] [] s (none, q) := by
  unfold fn_X1_link at h
  refine ax_aload_n (i := 0) dX1_link_0 rfl rfl ?_
  refine ax_iload_n (i := 1) dX1_link_1 rfl rfl ?_
  refine ax_iload_n (i := 2) dX1_link_2 rfl rfl ?_
  obtain ⟨w1, gw1, h⟩ := Option.bind_eq_some_iff.mp h
  obtain ⟨q2, gq2, h⟩ := Option.bind_eq_some_iff.mp h
  refine ax_cV (As := [av_i a1, av_i a2]) (t := 1) dX1_link_3 gw1 (th_X1_hasInput gq2) rfl (And.intro wd_252 wd_19) wd_285 wd_250 wd_251 cy_X1_hasInput (by omega) (by decide) (Nat.le_of_ble_eq_true rfl) rfl ?_
  refine ax_if_eq (tgt := 25) dX1_link_6 (by decide) (fun c3 => ?_) (fun c3 => ?_)
  · rw [if_pos c3] at h
    exact ax_retv dX1_link_25 h
  · rw [if_neg c3] at h
    refine ax_aload_n (i := 0) dX1_link_9 rfl rfl ?_
    obtain ⟨r4, gr4, h⟩ := Option.bind_eq_some_iff.mp h
    refine ax_getR (q := (RX1, TX1, 5)) (t := 1) (k := 0) dX1_link_10 rfl (by decide) wd_85 rfl gr4 ?_
    refine ax_iload_n (i := 1) dX1_link_13 rfl rfl ?_
    obtain ⟨r5, gr5, h⟩ := Option.bind_eq_some_iff.mp h
    refine ax_aald (t := 12) (by decide) dX1_link_14 gr5 ?_
    obtain ⟨r6, gr6, h⟩ := Option.bind_eq_some_iff.mp h
    refine ax_getR (q := (RX3, TX3, 5)) (t := 2) (k := 3) dX1_link_15 rfl (by decide) wd_67 rfl gr6 ?_
    refine ax_iload_n (i := 2) dX1_link_18 rfl rfl ?_
    refine ax_iload_n (i := 3) dX1_link_19 rfl rfl ?_
    obtain ⟨s7, gs7, h⟩ := Option.bind_eq_some_iff.mp h
    refine ax_iast dX1_link_20 gs7 ?_
    refine ax_aload_n (i := 0) dX1_link_21 rfl rfl ?_
    obtain ⟨w8, gw8, h⟩ := Option.bind_eq_some_iff.mp h
    obtain ⟨q9, gq9, h⟩ := Option.bind_eq_some_iff.mp h
    refine ax_cV (As := []) (t := 1) dX1_link_22 gw8 (th_X1_arrange gq9) rfl (And.intro wd_289 wd_19) wd_286 wd_288 wd_0 cy_X1_arrange (by omega) (by decide) (Nat.le_of_ble_eq_true rfl) rfl ?_
    exact ax_retv dX1_link_25 h
set_option maxRecDepth 100000 in
set_option maxHeartbeats 4000000 in
theorem th_X1_link {q : ax_S} {a0 : Option Nat} {a1 : Int32} {a2 : Int32} {a3 : Int32} {s : ax_S} (h : fn_X1_link a0 a1 a2 a3 s = some q) : AC mm_X1_link yX1_link 4 0 0 [av_r a0, av_i a1, av_i a2, av_i a3] s (none, q) := by
  exact ax_met (L0 := [some (av_r a0), some (av_i a1), some (av_i a2), some (av_i a3)]) (by decide +kernel) rfl (fun h => absurd h (by decide)) ⟨rfl, rfl, rfl, rfl, trivial⟩ (Nat.le_of_ble_eq_true rfl) trivial (tw_X1_link h)
/-! X1_addAll -/
abbrev mm_X1_addAll : ax_M := (RX1, cX1_addAll, none, 4, false)
def fb_X1_addAll_53 (a0 : Option Nat) (s : ax_S) : Option (ax_S) :=
  (ax_sh s 1 a0).bind fun w1 =>
  (fn_X1_arrange a0 s).bind fun q2 =>
  some q2
set_option maxRecDepth 100000 in
set_option maxHeartbeats 4000000 in
theorem tb_X1_addAll_53 {q : ax_S} {a0 : Option Nat} {s : ax_S} (h : fb_X1_addAll_53 a0 s = some q) : AW mm_X1_addAll 4 0 0 53 [(some (av_r a0)), none, none, none] [] s (none, q) := by
  unfold fb_X1_addAll_53 at h
  refine ax_aload_n (i := 0) dX1_addAll_53 rfl rfl ?_
  obtain ⟨w1, gw1, h⟩ := Option.bind_eq_some_iff.mp h
  obtain ⟨q2, gq2, h⟩ := Option.bind_eq_some_iff.mp h
  refine ax_cV (As := []) (t := 1) dX1_addAll_54 gw1 (th_X1_arrange gq2) rfl (And.intro wd_289 wd_19) wd_286 wd_288 wd_0 cy_X1_arrange (by omega) (by decide) (Nat.le_of_ble_eq_true rfl) rfl ?_
  exact ax_retv dX1_addAll_57 h
def fb_X1_addAll_2 : Nat → Option Nat → Option Nat → Int32 → Int32 → ax_S → Option (ax_S)
  | 0, _, _, _, _, _ => none
  | n + 1, a0, a1, a2, a3, s =>
    if a2 ≤ a3 then
      fb_X1_addAll_53 a0 s
    else
      (ax_ln s 12 a1).bind fun x4 =>
      if x4 ≤ a3 then
        fb_X1_addAll_53 a0 s
      else
        (ax_gi s 1 1 a0).bind fun x6 =>
        if (12) ≤ x6 then
          fb_X1_addAll_53 a0 s
        else
          (ax_gr s 1 0 a0).bind fun r8 =>
          (ax_gi s 1 1 a0).bind fun x9 =>
          (ax_ar s 12 r8 x9).bind fun r10 =>
          (ax_ar s 12 a1 a3).bind fun r11 =>
          (ax_sh s 2 r10).bind fun w12 =>
          (fn_X3_copyFrom r10 r11 s).bind fun q13 =>
          (ax_gi q13 1 1 a0).bind fun x14 =>
          (ax_pi q13 1 1 a0 (x14 + (1))).bind fun s15 =>
          (fb_X1_addAll_2 n) a0 a1 a2 (a3 + (1)) s15
set_option maxRecDepth 100000 in
set_option maxHeartbeats 4000000 in
theorem tb_X1_addAll_2 {q : ax_S} : ∀ (n : Nat) (a0 : Option Nat) (a1 : Option Nat) (a2 : Int32) (a3 : Int32) (s : ax_S) (h : fb_X1_addAll_2 n a0 a1 a2 a3 s = some q), AW mm_X1_addAll 4 0 0 2 [(some (av_r a0)), (some (av_r a1)), (some (av_i a2)), (some (av_i a3))] [] s (none, q) := by
  intro n
  induction n with
  | zero =>
    intro a0 a1 a2 a3 s h
    exact ax_no h
  | succ n ih =>
    intro a0 a1 a2 a3 s h
    unfold fb_X1_addAll_2 at h
    refine ax_iload_n (i := 3) dX1_addAll_2 rfl rfl ?_
    refine ax_iload_n (i := 2) dX1_addAll_3 rfl rfl ?_
    refine ax_icmp_ge (tgt := 53) dX1_addAll_4 (by decide) (fun c3 => ?_) (fun c3 => ?_)
    · rw [if_pos c3] at h
      exact ax_less (L' := [(some (av_r a0)), none, none, none]) ⟨rfl, trivial⟩ (tb_X1_addAll_53  h)
    · rw [if_neg c3] at h
      refine ax_iload_n (i := 3) dX1_addAll_7 rfl rfl ?_
      refine ax_aload_n (i := 1) dX1_addAll_8 rfl rfl ?_
      obtain ⟨x4, gx4, h⟩ := Option.bind_eq_some_iff.mp h
      refine ax_alen (t := 12) (by decide) dX1_addAll_9 gx4 ?_
      refine ax_icmp_ge (tgt := 53) dX1_addAll_10 (by decide) (fun c5 => ?_) (fun c5 => ?_)
      · rw [if_pos c5] at h
        exact ax_less (L' := [(some (av_r a0)), none, none, none]) ⟨rfl, trivial⟩ (tb_X1_addAll_53  h)
      · rw [if_neg c5] at h
        refine ax_aload_n (i := 0) dX1_addAll_13 rfl rfl ?_
        obtain ⟨x6, gx6, h⟩ := Option.bind_eq_some_iff.mp h
        refine ax_getI (q := (RX1, TX1, 5)) (t := 1) (k := 1) dX1_addAll_14 rfl (by decide) wd_87 rfl gx6 ?_
        refine ax_bipush (v := (12)) dX1_addAll_17 rfl ?_
        refine ax_icmp_ge (tgt := 53) dX1_addAll_19 (by decide) (fun c7 => ?_) (fun c7 => ?_)
        · rw [if_pos c7] at h
          exact ax_less (L' := [(some (av_r a0)), none, none, none]) ⟨rfl, trivial⟩ (tb_X1_addAll_53  h)
        · rw [if_neg c7] at h
          refine ax_aload_n (i := 0) dX1_addAll_22 rfl rfl ?_
          obtain ⟨r8, gr8, h⟩ := Option.bind_eq_some_iff.mp h
          refine ax_getR (q := (RX1, TX1, 5)) (t := 1) (k := 0) dX1_addAll_23 rfl (by decide) wd_85 rfl gr8 ?_
          refine ax_aload_n (i := 0) dX1_addAll_26 rfl rfl ?_
          obtain ⟨x9, gx9, h⟩ := Option.bind_eq_some_iff.mp h
          refine ax_getI (q := (RX1, TX1, 5)) (t := 1) (k := 1) dX1_addAll_27 rfl (by decide) wd_87 rfl gx9 ?_
          obtain ⟨r10, gr10, h⟩ := Option.bind_eq_some_iff.mp h
          refine ax_aald (t := 12) (by decide) dX1_addAll_30 gr10 ?_
          refine ax_aload_n (i := 1) dX1_addAll_31 rfl rfl ?_
          refine ax_iload_n (i := 3) dX1_addAll_32 rfl rfl ?_
          obtain ⟨r11, gr11, h⟩ := Option.bind_eq_some_iff.mp h
          refine ax_aald (t := 12) (by decide) dX1_addAll_33 gr11 ?_
          obtain ⟨w12, gw12, h⟩ := Option.bind_eq_some_iff.mp h
          obtain ⟨q13, gq13, h⟩ := Option.bind_eq_some_iff.mp h
          refine ax_cV (As := [av_r r11]) (t := 2) dX1_addAll_34 gw12 (th_X3_copyFrom gq13) rfl (And.intro wd_587 wd_20) wd_584 wd_585 wd_586 cy_X3_copyFrom (by omega) (by decide) (Nat.le_of_ble_eq_true rfl) rfl ?_
          refine ax_aload_n (i := 0) dX1_addAll_37 rfl rfl ?_
          refine ax_dup dX1_addAll_38 trivial ?_
          obtain ⟨x14, gx14, h⟩ := Option.bind_eq_some_iff.mp h
          refine ax_getI (q := (RX1, TX1, 5)) (t := 1) (k := 1) dX1_addAll_39 rfl (by decide) wd_87 rfl gx14 ?_
          refine ax_iconst (v := (1)) dX1_addAll_42 rfl ?_
          refine ax_iadd dX1_addAll_43 ?_
          obtain ⟨s15, gs15, h⟩ := Option.bind_eq_some_iff.mp h
          refine ax_putI (q := (RX1, TX1, 5)) (t := 1) (k := 1) dX1_addAll_44 rfl (by decide) wd_87 rfl rfl ⟨rfl, rfl⟩ gs15 ?_
          refine ax_iinc (i := 3) (v := (a3 + (1))) (L2 := [some (av_r a0), some (av_r a1), some (av_i a2), some (av_i (a3 + (1)))]) dX1_addAll_47 rfl rfl (by decide) rfl rfl ?_
          refine ax_goto (tgt := 2) dX1_addAll_50 (by decide) ?_
          exact ax_less (L' := [(some (av_r a0)), (some (av_r a1)), (some (av_i a2)), (some (av_i (a3 + (1))))]) ⟨rfl, rfl, rfl, rfl, trivial⟩ (ih _ _ _ _ _ h)
def fn_X1_addAll (a0 : Option Nat) (a1 : Option Nat) (a2 : Int32) (s : ax_S) : Option (ax_S) :=
  fb_X1_addAll_2 10000 a0 a1 a2 (0) s
set_option maxRecDepth 100000 in
set_option maxHeartbeats 4000000 in
theorem tw_X1_addAll {q : ax_S} {a0 : Option Nat} {a1 : Option Nat} {a2 : Int32} {s : ax_S} (h : fn_X1_addAll a0 a1 a2 s = some q) : AW mm_X1_addAll 4 0 0 0 [some (av_r a0), some (av_r a1), some (av_i a2), none] [] s (none, q) := by
  unfold fn_X1_addAll at h
  refine ax_iconst (v := (0)) dX1_addAll_0 rfl ?_
  refine ax_istore_n (i := 3) (L2 := [some (av_r a0), some (av_r a1), some (av_i a2), some (av_i (0))]) dX1_addAll_1 rfl (by decide) rfl rfl ?_
  exact ax_less (L' := [(some (av_r a0)), (some (av_r a1)), (some (av_i a2)), (some (av_i (0)))]) ⟨rfl, rfl, rfl, rfl, trivial⟩ (tb_X1_addAll_2  _ _ _ _ _ _ h)
set_option maxRecDepth 100000 in
set_option maxHeartbeats 4000000 in
theorem th_X1_addAll {q : ax_S} {a0 : Option Nat} {a1 : Option Nat} {a2 : Int32} {s : ax_S} (h : fn_X1_addAll a0 a1 a2 s = some q) : AC mm_X1_addAll yX1_addAll 4 0 0 [av_r a0, av_r a1, av_i a2] s (none, q) := by
  exact ax_met (L0 := [some (av_r a0), some (av_r a1), some (av_i a2), none]) (by decide +kernel) rfl (fun h => absurd h (by decide)) ⟨rfl, rfl, rfl, trivial⟩ (Nat.le_of_ble_eq_true rfl) trivial (tw_X1_addAll h)
/-! X1_copyFrom -/
abbrev mm_X1_copyFrom : ax_M := (RX1, cX1_copyFrom, none, 2, false)
def fn_X1_copyFrom (a0 : Option Nat) (a1 : Option Nat) (s : ax_S) : Option (ax_S) :=
  (ax_pi s 1 1 a0 (0)).bind fun s1 =>
  (ax_gr s1 1 0 a1).bind fun r2 =>
  (ax_gi s1 1 1 a1).bind fun x3 =>
  (ax_sh s1 1 a0).bind fun w4 =>
  (fn_X1_addAll a0 r2 x3 s1).bind fun q5 =>
  some q5
set_option maxRecDepth 100000 in
set_option maxHeartbeats 4000000 in
theorem tw_X1_copyFrom {q : ax_S} {a0 : Option Nat} {a1 : Option Nat} {s : ax_S} (h : fn_X1_copyFrom a0 a1 s = some q) : AW mm_X1_copyFrom 5 0 0 0 [some (av_r a0), some (av_r a1)] [] s (none, q) := by
  unfold fn_X1_copyFrom at h
  refine ax_aload_n (i := 0) dX1_copyFrom_0 rfl rfl ?_
  refine ax_iconst (v := (0)) dX1_copyFrom_1 rfl ?_
  obtain ⟨s1, gs1, h⟩ := Option.bind_eq_some_iff.mp h
  refine ax_putI (q := (RX1, TX1, 5)) (t := 1) (k := 1) dX1_copyFrom_2 rfl (by decide) wd_87 rfl rfl ⟨rfl, rfl⟩ gs1 ?_
  refine ax_aload_n (i := 0) dX1_copyFrom_5 rfl rfl ?_
  refine ax_aload_n (i := 1) dX1_copyFrom_6 rfl rfl ?_
  obtain ⟨r2, gr2, h⟩ := Option.bind_eq_some_iff.mp h
  refine ax_getR (q := (RX1, TX1, 5)) (t := 1) (k := 0) dX1_copyFrom_7 rfl (by decide) wd_85 rfl gr2 ?_
  refine ax_aload_n (i := 1) dX1_copyFrom_10 rfl rfl ?_
  obtain ⟨x3, gx3, h⟩ := Option.bind_eq_some_iff.mp h
  refine ax_getI (q := (RX1, TX1, 5)) (t := 1) (k := 1) dX1_copyFrom_11 rfl (by decide) wd_87 rfl gx3 ?_
  obtain ⟨w4, gw4, h⟩ := Option.bind_eq_some_iff.mp h
  obtain ⟨q5, gq5, h⟩ := Option.bind_eq_some_iff.mp h
  refine ax_cV (As := [av_r r2, av_i x3]) (t := 1) dX1_copyFrom_14 gw4 (th_X1_addAll gq5) rfl (And.intro wd_583 wd_19) wd_597 wd_581 wd_582 cy_X1_addAll (by omega) (by decide) (Nat.le_of_ble_eq_true rfl) rfl ?_
  exact ax_retv dX1_copyFrom_17 h
set_option maxRecDepth 100000 in
set_option maxHeartbeats 4000000 in
theorem th_X1_copyFrom {q : ax_S} {a0 : Option Nat} {a1 : Option Nat} {s : ax_S} (h : fn_X1_copyFrom a0 a1 s = some q) : AC mm_X1_copyFrom yX1_copyFrom 5 0 0 [av_r a0, av_r a1] s (none, q) := by
  exact ax_met (L0 := [some (av_r a0), some (av_r a1)]) (by decide +kernel) rfl (fun h => absurd h (by decide)) ⟨rfl, rfl, trivial⟩ (Nat.le_of_ble_eq_true rfl) trivial (tw_X1_copyFrom h)
/-! X1_removeAll -/
abbrev mm_X1_removeAll : ax_M := (RX1, cX1_removeAll, none, 1, false)
def fn_X1_removeAll (a0 : Option Nat) (s : ax_S) : Option (ax_S) :=
  (ax_pi s 1 1 a0 (0)).bind fun s1 =>
  some s1
set_option maxRecDepth 100000 in
set_option maxHeartbeats 4000000 in
theorem tw_X1_removeAll {q : ax_S} {a0 : Option Nat} {s : ax_S} (h : fn_X1_removeAll a0 s = some q) : AW mm_X1_removeAll 0 0 0 0 [some (av_r a0)] [] s (none, q) := by
  unfold fn_X1_removeAll at h
  refine ax_aload_n (i := 0) dX1_removeAll_0 rfl rfl ?_
  refine ax_iconst (v := (0)) dX1_removeAll_1 rfl ?_
  obtain ⟨s1, gs1, h⟩ := Option.bind_eq_some_iff.mp h
  refine ax_putI (q := (RX1, TX1, 5)) (t := 1) (k := 1) dX1_removeAll_2 rfl (by decide) wd_87 rfl rfl ⟨rfl, rfl⟩ gs1 ?_
  exact ax_retv dX1_removeAll_5 h
set_option maxRecDepth 100000 in
set_option maxHeartbeats 4000000 in
theorem th_X1_removeAll {q : ax_S} {a0 : Option Nat} {s : ax_S} (h : fn_X1_removeAll a0 s = some q) : AC mm_X1_removeAll yX1_removeAll 0 0 0 [av_r a0] s (none, q) := by
  exact ax_met (L0 := [some (av_r a0)]) (by decide +kernel) rfl (fun h => absurd h (by decide)) ⟨rfl, trivial⟩ (Nat.le_of_ble_eq_true rfl) trivial (tw_X1_removeAll h)
/-! X1_init -/
abbrev mm_X1_init : ax_M := (RX1, cX1_init, none, 2, true)
def fb_X1_init_39 : Nat → Option Nat → Int32 → ax_S → Option (ax_S)
  | 0, _, _, _ => none
  | n + 1, a0, a1, s =>
    if (12) ≤ a1 then
      some s
    else
      (ax_gr s 1 0 a0).bind fun r2 =>
      ax_bd (ax_nw s 2 5) fun s3 =>
      ax_bd (some s.1.length) fun r4 =>
      (ax_sh s3 2 r4).bind fun w5 =>
      (fn_X3_init r4 s3).bind fun q6 =>
      (ax_aw q6 12 r2 a1 r4).bind fun s7 =>
      (fb_X1_init_39 n) a0 (a1 + (1)) s7
set_option maxRecDepth 100000 in
set_option maxHeartbeats 4000000 in
theorem tb_X1_init_39 {q : ax_S} : ∀ (n : Nat) (a0 : Option Nat) (a1 : Int32) (s : ax_S) (h : fb_X1_init_39 n a0 a1 s = some q), AW mm_X1_init 2 (n * 3) (n * 12) 39 [(some (av_r a0)), (some (av_i a1))] [] s (none, q) := by
  intro n
  induction n with
  | zero =>
    intro a0 a1 s h
    exact ax_no h
  | succ n ih =>
    intro a0 a1 s h
    unfold fb_X1_init_39 at h
    refine ax_wide (bc2 := n * 3 + 3) (bs2 := n * 12 + 12) (by rw [Nat.succ_mul]; exact Nat.le_refl _) (by rw [Nat.succ_mul]; exact Nat.le_refl _) ?_
    refine ax_iload_n (i := 1) dX1_init_39 rfl rfl ?_
    refine ax_bipush (v := (12)) dX1_init_40 rfl ?_
    refine ax_icmp_ge (tgt := 64) dX1_init_42 (by decide) (fun c1 => ?_) (fun c1 => ?_)
    · rw [if_pos c1] at h
      exact ax_retv dX1_init_64 h
    · rw [if_neg c1] at h
      refine ax_aload_n (i := 0) dX1_init_45 rfl rfl ?_
      obtain ⟨r2, gr2, h⟩ := Option.bind_eq_some_iff.mp h
      refine ax_getR (q := (RX1, TX1, 5)) (t := 1) (k := 0) dX1_init_46 rfl (by decide) wd_85 rfl gr2 ?_
      refine ax_iload_n (i := 1) dX1_init_49 rfl rfl ?_
      refine ax_newO (t := 2) (q := (RX3, TX3, 5)) (bc := n * 3 + 2) (bs := n * 12 + 7) dX1_init_50 rfl wd_50 wd_52 wd_20 (by decide +kernel) ?_
      refine ax_bdS h (fun s3 h => ?_)
      refine ax_bdR h (fun r4 h => ?_)
      refine ax_dup dX1_init_53 trivial ?_
      obtain ⟨w5, gw5, h⟩ := Option.bind_eq_some_iff.mp h
      obtain ⟨q6, gq6, h⟩ := Option.bind_eq_some_iff.mp h
      refine ax_cIN (As := []) (t := 2) (bc := n * 3 + 0) (bs := n * 12 + 0) (kc := 2) (ks := 7) dX1_init_54 gw5 (th_X3_init gq6) rfl rfl (And.intro wd_55 wd_20) wn_53 wd_54 cy_X3_init (by omega) (by decide) (Nat.le_of_ble_eq_true rfl) rfl ?_
      obtain ⟨s7, gs7, h⟩ := Option.bind_eq_some_iff.mp h
      refine ax_aast (t := 12) (by decide) rfl dX1_init_57 gs7 ?_
      refine ax_iinc (i := 1) (v := (a1 + (1))) (L2 := [some (av_r a0), some (av_i (a1 + (1)))]) dX1_init_58 rfl rfl (by decide) rfl rfl ?_
      refine ax_goto (tgt := 39) dX1_init_61 (by decide) ?_
      refine ax_wide (bc2 := n * 3) (bs2 := n * 12) (by omega) (by omega) ?_
      exact ax_less (L' := [(some (av_r a0)), (some (av_i (a1 + (1))))]) ⟨rfl, rfl, trivial⟩ (ih _ _ _ h)
def fn_X1_init (a0 : Option Nat) (s : ax_S) : Option (ax_S) :=
  (ax_sh s 1 a0).bind fun w8 =>
  ax_bd (ax_nw s 12 12) fun s9 =>
  ax_bd (some s.1.length) fun r10 =>
  (ax_pr s9 1 0 a0 r10).bind fun s11 =>
  ax_bd (ax_nw s11 9 12) fun s12 =>
  ax_bd (some s11.1.length) fun r13 =>
  (ax_pr s12 1 2 a0 r13).bind fun s14 =>
  ax_bd (ax_nw s14 9 12) fun s15 =>
  ax_bd (some s14.1.length) fun r16 =>
  (ax_pr s15 1 3 a0 r16).bind fun s17 =>
  ax_bd (ax_nw s17 9 12) fun s18 =>
  ax_bd (some s17.1.length) fun r19 =>
  (ax_pr s18 1 4 a0 r19).bind fun s20 =>
  fb_X1_init_39 60 a0 (0) s20
set_option maxRecDepth 100000 in
set_option maxHeartbeats 4000000 in
theorem tw_X1_init {q : ax_S} {a0 : Option Nat} {s : ax_S} (h : fn_X1_init a0 s = some q) : AW mm_X1_init 2 184 768 0 [some (av_r a0), none] [] s (none, q) := by
  unfold fn_X1_init at h
  refine ax_aload_n (i := 0) dX1_init_0 rfl rfl ?_
  obtain ⟨w8, gw8, h⟩ := Option.bind_eq_some_iff.mp h
  refine ax_cO dX1_init_1 gw8 wd_49 wd_42 wd_43 (by omega) (Nat.le_of_ble_eq_true rfl) ?_
  refine ax_aload_n (i := 0) dX1_init_4 rfl rfl ?_
  refine ax_bipush (v := (12)) dX1_init_5 rfl ?_
  refine ax_newR (t := 12) (n := 12) (bc := 183) (bs := 756) dX1_init_7 (by decide) rfl wd_50 (by decide) (by decide) (by decide) (by decide) ?_
  refine ax_bdS h (fun s9 h => ?_)
  refine ax_bdR h (fun r10 h => ?_)
  obtain ⟨s11, gs11, h⟩ := Option.bind_eq_some_iff.mp h
  refine ax_putRF (q := (RX1, TX1, 5)) (t := 1) (k := 0) dX1_init_10 rfl (by decide) wd_85 rfl rfl rfl rfl (fun w => by cases w <;> exact ⟨rfl, rfl⟩) gs11 ?_
  refine ax_aload_n (i := 0) dX1_init_13 rfl rfl ?_
  refine ax_bipush (v := (12)) dX1_init_14 rfl ?_
  refine ax_newA (t := 9) (n := 12) (bc := 182) (bs := 744) dX1_init_16 (by decide) rfl wd_84 (by decide) (by decide) (by decide) ?_
  refine ax_bdS h (fun s12 h => ?_)
  refine ax_bdR h (fun r13 h => ?_)
  obtain ⟨s14, gs14, h⟩ := Option.bind_eq_some_iff.mp h
  refine ax_putRF (q := (RX1, TX1, 5)) (t := 1) (k := 2) dX1_init_18 rfl (by decide) wd_89 rfl rfl rfl rfl (fun w => by cases w <;> exact ⟨rfl, rfl⟩) gs14 ?_
  refine ax_aload_n (i := 0) dX1_init_21 rfl rfl ?_
  refine ax_bipush (v := (12)) dX1_init_22 rfl ?_
  refine ax_newA (t := 9) (n := 12) (bc := 181) (bs := 732) dX1_init_24 (by decide) rfl wd_84 (by decide) (by decide) (by decide) ?_
  refine ax_bdS h (fun s15 h => ?_)
  refine ax_bdR h (fun r16 h => ?_)
  obtain ⟨s17, gs17, h⟩ := Option.bind_eq_some_iff.mp h
  refine ax_putRF (q := (RX1, TX1, 5)) (t := 1) (k := 3) dX1_init_26 rfl (by decide) wd_90 rfl rfl rfl rfl (fun w => by cases w <;> exact ⟨rfl, rfl⟩) gs17 ?_
  refine ax_aload_n (i := 0) dX1_init_29 rfl rfl ?_
  refine ax_bipush (v := (12)) dX1_init_30 rfl ?_
  refine ax_newA (t := 9) (n := 12) (bc := 180) (bs := 720) dX1_init_32 (by decide) rfl wd_84 (by decide) (by decide) (by decide) ?_
  refine ax_bdS h (fun s18 h => ?_)
  refine ax_bdR h (fun r19 h => ?_)
  obtain ⟨s20, gs20, h⟩ := Option.bind_eq_some_iff.mp h
  refine ax_putRF (q := (RX1, TX1, 5)) (t := 1) (k := 4) dX1_init_34 rfl (by decide) wd_92 rfl rfl rfl rfl (fun w => by cases w <;> exact ⟨rfl, rfl⟩) gs20 ?_
  refine ax_iconst (v := (0)) dX1_init_37 rfl ?_
  refine ax_istore_n (i := 1) (L2 := [some (av_r a0), some (av_i (0))]) dX1_init_38 rfl (by decide) rfl rfl ?_
  refine ax_wide (bc2 := 180) (bs2 := 720) (by omega) (by omega) ?_
  exact ax_less (L' := [(some (av_r a0)), (some (av_i (0)))]) ⟨rfl, rfl, trivial⟩ (tb_X1_init_39  _ _ _ _ h)
set_option maxRecDepth 100000 in
set_option maxHeartbeats 4000000 in
theorem th_X1_init {q : ax_S} {a0 : Option Nat} {s : ax_S} (h : fn_X1_init a0 s = some q) : AC mm_X1_init yX1_init 2 184 768 [av_r a0] s (none, q) := by
  exact ax_met (L0 := [some (av_r a0), none]) (by decide +kernel) rfl (fun _ => rfl) ⟨rfl, trivial⟩ (Nat.le_of_ble_eq_true rfl) trivial (tw_X1_init h)
