/-! L_inputs -/
abbrev mm_L_inputs : ax_M := (RL, cL_inputs, (some .int), 1, false)
def fn_L_inputs (a0 : Int32) (s : ax_S) : Option (Int32 × ax_S) :=
  if a0 = 0 then
    some ((0), s)
  else
    if a0 = (6) then
      some ((3), s)
    else
      some ((1), s)
set_option maxRecDepth 100000 in
set_option maxHeartbeats 4000000 in
theorem tw_L_inputs {q : Int32 × ax_S} {a0 : Int32} {s : ax_S} (h : fn_L_inputs a0 s = some q) : AW mm_L_inputs 0 0 0 0 [some (av_i a0)] [] s (some (av_i q.1), q.2) := by
  unfold fn_L_inputs at h
  refine ax_iload_n (i := 0) dL_inputs_0 rfl rfl ?_
  refine ax_if_ne (tgt := 8) dL_inputs_1 (by decide) (fun c1 => ?_) (fun c1 => ?_)
  · rw [if_neg c1] at h
    refine ax_iload_n (i := 0) dL_inputs_8 rfl rfl ?_
    refine ax_bipush (v := (6)) dL_inputs_9 rfl ?_
    refine ax_icmp_ne (tgt := 18) dL_inputs_11 (by decide) (fun c2 => ?_) (fun c2 => ?_)
    · rw [if_neg c2] at h
      refine ax_iconst (v := (1)) dL_inputs_18 rfl ?_
      exact ax_reti dL_inputs_19 h
    · rw [if_pos c2] at h
      refine ax_iconst (v := (3)) dL_inputs_14 rfl ?_
      refine ax_goto (tgt := 19) dL_inputs_15 (by decide) ?_
      exact ax_reti dL_inputs_19 h
  · rw [if_pos c1] at h
    refine ax_iconst (v := (0)) dL_inputs_4 rfl ?_
    refine ax_goto (tgt := 19) dL_inputs_5 (by decide) ?_
    exact ax_reti dL_inputs_19 h
set_option maxRecDepth 100000 in
set_option maxHeartbeats 4000000 in
theorem th_L_inputs {q : Int32 × ax_S} {a0 : Int32} {s : ax_S} (h : fn_L_inputs a0 s = some q) : AC mm_L_inputs yL_inputs 0 0 0 [av_i a0] s (some (av_i q.1), q.2) := by
  exact ax_met (L0 := [some (av_i a0)]) (by decide +kernel) rfl (fun h => absurd h (by decide)) ⟨rfl, trivial⟩ (Nat.le_of_ble_eq_true rfl) trivial (tw_L_inputs h)
/-! L_parameters -/
abbrev mm_L_parameters : ax_M := (RL, cL_parameters, (some .int), 1, false)
def fn_L_parameters (a0 : Int32) (s : ax_S) : Option (Int32 × ax_S) :=
  if a0 = 0 then
    some ((1), s)
  else
    if a0 = (4) then
      some ((1), s)
    else
      if (3) ≤ a0 then
        if a0 = (5) then
          some ((4), s)
        else
          some ((0), s)
      else
        some ((3), s)
set_option maxRecDepth 100000 in
set_option maxHeartbeats 4000000 in
theorem tw_L_parameters {q : Int32 × ax_S} {a0 : Int32} {s : ax_S} (h : fn_L_parameters a0 s = some q) : AW mm_L_parameters 0 0 0 0 [some (av_i a0)] [] s (some (av_i q.1), q.2) := by
  unfold fn_L_parameters at h
  refine ax_iload_n (i := 0) dL_parameters_0 rfl rfl ?_
  refine ax_if_eq (tgt := 9) dL_parameters_1 (by decide) (fun c1 => ?_) (fun c1 => ?_)
  · rw [if_pos c1] at h
    refine ax_iconst (v := (1)) dL_parameters_9 rfl ?_
    refine ax_goto (tgt := 32) dL_parameters_10 (by decide) ?_
    exact ax_reti dL_parameters_32 h
  · rw [if_neg c1] at h
    refine ax_iload_n (i := 0) dL_parameters_4 rfl rfl ?_
    refine ax_iconst (v := (4)) dL_parameters_5 rfl ?_
    refine ax_icmp_ne (tgt := 13) dL_parameters_6 (by decide) (fun c2 => ?_) (fun c2 => ?_)
    · rw [if_neg c2] at h
      refine ax_iload_n (i := 0) dL_parameters_13 rfl rfl ?_
      refine ax_iconst (v := (3)) dL_parameters_14 rfl ?_
      refine ax_icmp_ge (tgt := 22) dL_parameters_15 (by decide) (fun c3 => ?_) (fun c3 => ?_)
      · rw [if_pos c3] at h
        refine ax_iload_n (i := 0) dL_parameters_22 rfl rfl ?_
        refine ax_iconst (v := (5)) dL_parameters_23 rfl ?_
        refine ax_icmp_ne (tgt := 31) dL_parameters_24 (by decide) (fun c4 => ?_) (fun c4 => ?_)
        · rw [if_neg c4] at h
          refine ax_iconst (v := (0)) dL_parameters_31 rfl ?_
          exact ax_reti dL_parameters_32 h
        · rw [if_pos c4] at h
          refine ax_iconst (v := (4)) dL_parameters_27 rfl ?_
          refine ax_goto (tgt := 32) dL_parameters_28 (by decide) ?_
          exact ax_reti dL_parameters_32 h
      · rw [if_neg c3] at h
        refine ax_iconst (v := (3)) dL_parameters_18 rfl ?_
        refine ax_goto (tgt := 32) dL_parameters_19 (by decide) ?_
        exact ax_reti dL_parameters_32 h
    · rw [if_pos c2] at h
      refine ax_iconst (v := (1)) dL_parameters_9 rfl ?_
      refine ax_goto (tgt := 32) dL_parameters_10 (by decide) ?_
      exact ax_reti dL_parameters_32 h
set_option maxRecDepth 100000 in
set_option maxHeartbeats 4000000 in
theorem th_L_parameters {q : Int32 × ax_S} {a0 : Int32} {s : ax_S} (h : fn_L_parameters a0 s = some q) : AC mm_L_parameters yL_parameters 0 0 0 [av_i a0] s (some (av_i q.1), q.2) := by
  exact ax_met (L0 := [some (av_i a0)]) (by decide +kernel) rfl (fun h => absurd h (by decide)) ⟨rfl, trivial⟩ (Nat.le_of_ble_eq_true rfl) trivial (tw_L_parameters h)
/-! L_adds -/
abbrev mm_L_adds : ax_M := (RL, cL_adds, (some .boolean), 8, false)
def fb_L_adds_251 (k157 : Option Nat → Option Nat → Int32 → Int32 → Int32 → Int32 → ax_S → Option (Int32 × ax_S)) (a0 : Option Nat) (a3 : Option Nat) (a4 : Int32) (a5 : Int32) (a7 : Int32) (s : ax_S) : Option (Int32 × ax_S) :=
  k157 a0 a3 a4 a5 (0) (a7 + (1)) s
set_option maxRecDepth 100000 in
set_option maxHeartbeats 4000000 in
theorem tb_L_adds_251 {q : Int32 × ax_S} {k157 : Option Nat → Option Nat → Int32 → Int32 → Int32 → Int32 → ax_S → Option (Int32 × ax_S)} (hk157 : ∀ (a0 : Option Nat) (a3 : Option Nat) (a4 : Int32) (a5 : Int32) (a6 : Int32) (a7 : Int32) (s : ax_S), k157 a0 a3 a4 a5 a6 a7 s = some q → AW mm_L_adds 6 0 0 157 [(some (av_r a0)), none, none, (some (av_r a3)), (some (av_i a4)), (some (av_i a5)), (some (av_i a6)), (some (av_i a7))] [] s (some (av_i q.1), q.2)) {a0 : Option Nat} {a3 : Option Nat} {a4 : Int32} {a5 : Int32} {a7 : Int32} {s : ax_S} (h : fb_L_adds_251 k157 a0 a3 a4 a5 a7 s = some q) : AW mm_L_adds 6 0 0 251 [(some (av_r a0)), none, none, (some (av_r a3)), (some (av_i a4)), (some (av_i a5)), none, (some (av_i a7))] [] s (some (av_i q.1), q.2) := by
  unfold fb_L_adds_251 at h
  refine ax_iconst (v := (0)) dL_adds_251 rfl ?_
  refine ax_istore (i := 6) (L2 := [some (av_r a0), none, none, some (av_r a3), some (av_i a4), some (av_i a5), some (av_i (0)), some (av_i a7)]) dL_adds_252 (by decide) rfl rfl ?_
  refine ax_iinc (i := 7) (v := (a7 + (1))) (L2 := [some (av_r a0), none, none, some (av_r a3), some (av_i a4), some (av_i a5), some (av_i (0)), some (av_i (a7 + (1)))]) dL_adds_254 rfl rfl (by decide) rfl rfl ?_
  refine ax_goto (tgt := 157) dL_adds_257 (by decide) ?_
  exact ax_less (L' := [(some (av_r a0)), none, none, (some (av_r a3)), (some (av_i a4)), (some (av_i a5)), (some (av_i (0))), (some (av_i (a7 + (1))))]) ⟨rfl, rfl, rfl, rfl, rfl, rfl, trivial⟩ (hk157 _ _ _ _ _ _ _ h)
def fb_L_adds_247 (k157 : Option Nat → Option Nat → Int32 → Int32 → Int32 → Int32 → ax_S → Option (Int32 × ax_S)) (a0 : Option Nat) (a3 : Option Nat) (a4 : Int32) (a5 : Int32) (a7 : Int32) (s : ax_S) : Option (Int32 × ax_S) :=
  k157 a0 a3 a4 a5 (1) (a7 + (1)) s
set_option maxRecDepth 100000 in
set_option maxHeartbeats 4000000 in
theorem tb_L_adds_247 {q : Int32 × ax_S} {k157 : Option Nat → Option Nat → Int32 → Int32 → Int32 → Int32 → ax_S → Option (Int32 × ax_S)} (hk157 : ∀ (a0 : Option Nat) (a3 : Option Nat) (a4 : Int32) (a5 : Int32) (a6 : Int32) (a7 : Int32) (s : ax_S), k157 a0 a3 a4 a5 a6 a7 s = some q → AW mm_L_adds 6 0 0 157 [(some (av_r a0)), none, none, (some (av_r a3)), (some (av_i a4)), (some (av_i a5)), (some (av_i a6)), (some (av_i a7))] [] s (some (av_i q.1), q.2)) {a0 : Option Nat} {a3 : Option Nat} {a4 : Int32} {a5 : Int32} {a7 : Int32} {s : ax_S} (h : fb_L_adds_247 k157 a0 a3 a4 a5 a7 s = some q) : AW mm_L_adds 6 0 0 247 [(some (av_r a0)), none, none, (some (av_r a3)), (some (av_i a4)), (some (av_i a5)), none, (some (av_i a7))] [] s (some (av_i q.1), q.2) := by
  unfold fb_L_adds_247 at h
  refine ax_iconst (v := (1)) dL_adds_247 rfl ?_
  refine ax_goto (tgt := 252) dL_adds_248 (by decide) ?_
  refine ax_istore (i := 6) (L2 := [some (av_r a0), none, none, some (av_r a3), some (av_i a4), some (av_i a5), some (av_i (1)), some (av_i a7)]) dL_adds_252 (by decide) rfl rfl ?_
  refine ax_iinc (i := 7) (v := (a7 + (1))) (L2 := [some (av_r a0), none, none, some (av_r a3), some (av_i a4), some (av_i a5), some (av_i (1)), some (av_i (a7 + (1)))]) dL_adds_254 rfl rfl (by decide) rfl rfl ?_
  refine ax_goto (tgt := 157) dL_adds_257 (by decide) ?_
  exact ax_less (L' := [(some (av_r a0)), none, none, (some (av_r a3)), (some (av_i a4)), (some (av_i a5)), (some (av_i (1))), (some (av_i (a7 + (1))))]) ⟨rfl, rfl, rfl, rfl, rfl, rfl, trivial⟩ (hk157 _ _ _ _ _ _ _ h)
def fb_L_adds_211 (k157 : Option Nat → Option Nat → Int32 → Int32 → Int32 → Int32 → ax_S → Option (Int32 × ax_S)) (a0 : Option Nat) (a3 : Option Nat) (a4 : Int32) (a5 : Int32) (a6 : Int32) (a7 : Int32) (b0 : Option Nat) (b1 : Int32) (b2 : Int32) (s : ax_S) : Option (Int32 × ax_S) :=
  (ax_as s 9 b0 b1 b2).bind fun s1 =>
  if a6 = 0 then
    fb_L_adds_251 k157 a0 a3 a4 a5 a7 s1
  else
    (fn_L_parameters a5 s1).bind fun q3 =>
    if q3.1 ≤ a7 then
      fb_L_adds_247 k157 a0 a3 a4 a5 a7 q3.2
    else
      (ax_sh q3.2 6 a0).bind fun w5 =>
      (fn_X9_parameter a0 a4 a7 q3.2).bind fun q6 =>
      (ax_al q6.2 9 a3 (((4) * a4) + a7)).bind fun x7 =>
      if q6.1 = x7 then
        fb_L_adds_247 k157 a0 a3 a4 a5 a7 q6.2
      else
        fb_L_adds_251 k157 a0 a3 a4 a5 a7 q6.2
set_option maxRecDepth 100000 in
set_option maxHeartbeats 4000000 in
theorem tb_L_adds_211 {q : Int32 × ax_S} {k157 : Option Nat → Option Nat → Int32 → Int32 → Int32 → Int32 → ax_S → Option (Int32 × ax_S)} (hk157 : ∀ (a0 : Option Nat) (a3 : Option Nat) (a4 : Int32) (a5 : Int32) (a6 : Int32) (a7 : Int32) (s : ax_S), k157 a0 a3 a4 a5 a6 a7 s = some q → AW mm_L_adds 6 0 0 157 [(some (av_r a0)), none, none, (some (av_r a3)), (some (av_i a4)), (some (av_i a5)), (some (av_i a6)), (some (av_i a7))] [] s (some (av_i q.1), q.2)) {a0 : Option Nat} {a3 : Option Nat} {a4 : Int32} {a5 : Int32} {a6 : Int32} {a7 : Int32} {b0 : Option Nat} {b1 : Int32} {b2 : Int32} {s : ax_S} (h : fb_L_adds_211 k157 a0 a3 a4 a5 a6 a7 b0 b1 b2 s = some q) : AW mm_L_adds 6 0 0 211 [(some (av_r a0)), none, none, (some (av_r a3)), (some (av_i a4)), (some (av_i a5)), (some (av_i a6)), (some (av_i a7))] [av_i b2, av_i b1, av_r b0] s (some (av_i q.1), q.2) := by
  unfold fb_L_adds_211 at h
  obtain ⟨s1, gs1, h⟩ := Option.bind_eq_some_iff.mp h
  refine ax_iast dL_adds_211 gs1 ?_
  refine ax_iload (i := 6) dL_adds_212 rfl ?_
  refine ax_if_eq (tgt := 251) dL_adds_214 (by decide) (fun c2 => ?_) (fun c2 => ?_)
  · rw [if_pos c2] at h
    exact ax_less (L' := [(some (av_r a0)), none, none, (some (av_r a3)), (some (av_i a4)), (some (av_i a5)), none, (some (av_i a7))]) ⟨rfl, rfl, rfl, rfl, rfl, trivial⟩ (tb_L_adds_251 hk157 h)
  · rw [if_neg c2] at h
    refine ax_iload (i := 7) dL_adds_217 rfl ?_
    refine ax_iload (i := 5) dL_adds_219 rfl ?_
    obtain ⟨q3, gq3, h⟩ := Option.bind_eq_some_iff.mp h
    refine ax_cS (As := [av_i a5]) dL_adds_221 (th_L_parameters gq3) (And.intro wd_651 wd_17) wd_649 wd_650 cy_L_parameters (by omega) (by decide) (Nat.le_of_ble_eq_true rfl) rfl ?_
    refine ax_icmp_ge (tgt := 247) dL_adds_224 (by decide) (fun c4 => ?_) (fun c4 => ?_)
    · rw [if_pos c4] at h
      exact ax_less (L' := [(some (av_r a0)), none, none, (some (av_r a3)), (some (av_i a4)), (some (av_i a5)), none, (some (av_i a7))]) ⟨rfl, rfl, rfl, rfl, rfl, trivial⟩ (tb_L_adds_247 hk157 h)
    · rw [if_neg c4] at h
      refine ax_aload_n (i := 0) dL_adds_227 rfl rfl ?_
      refine ax_iload (i := 4) dL_adds_228 rfl ?_
      refine ax_iload (i := 7) dL_adds_230 rfl ?_
      obtain ⟨w5, gw5, h⟩ := Option.bind_eq_some_iff.mp h
      obtain ⟨q6, gq6, h⟩ := Option.bind_eq_some_iff.mp h
      refine ax_cV (As := [av_i a4, av_i a7]) (t := 6) dL_adds_232 gw5 (th_X9_parameter gq6) rfl (And.intro wd_635 wd_18) wd_666 wd_633 wd_634 cy_X9_parameter (by omega) (by decide) (Nat.le_of_ble_eq_true rfl) rfl ?_
      refine ax_aload_n (i := 3) dL_adds_235 rfl rfl ?_
      refine ax_iconst (v := (4)) dL_adds_236 rfl ?_
      refine ax_iload (i := 4) dL_adds_237 rfl ?_
      refine ax_imul dL_adds_239 ?_
      refine ax_iload (i := 7) dL_adds_240 rfl ?_
      refine ax_iadd dL_adds_242 ?_
      obtain ⟨x7, gx7, h⟩ := Option.bind_eq_some_iff.mp h
      refine ax_iald dL_adds_243 gx7 ?_
      refine ax_icmp_ne (tgt := 251) dL_adds_244 (by decide) (fun c8 => ?_) (fun c8 => ?_)
      · rw [if_neg c8] at h
        exact ax_less (L' := [(some (av_r a0)), none, none, (some (av_r a3)), (some (av_i a4)), (some (av_i a5)), none, (some (av_i a7))]) ⟨rfl, rfl, rfl, rfl, rfl, trivial⟩ (tb_L_adds_251 hk157 h)
      · rw [if_pos c8] at h
        exact ax_less (L' := [(some (av_r a0)), none, none, (some (av_r a3)), (some (av_i a4)), (some (av_i a5)), none, (some (av_i a7))]) ⟨rfl, rfl, rfl, rfl, rfl, trivial⟩ (tb_L_adds_247 hk157 h)
def fb_L_adds_210 (k157 : Option Nat → Option Nat → Int32 → Int32 → Int32 → Int32 → ax_S → Option (Int32 × ax_S)) (a0 : Option Nat) (a3 : Option Nat) (a4 : Int32) (a5 : Int32) (a6 : Int32) (a7 : Int32) (b0 : Option Nat) (b1 : Int32) (s : ax_S) : Option (Int32 × ax_S) :=
  fb_L_adds_211 k157 a0 a3 a4 a5 a6 a7 b0 b1 (0) s
set_option maxRecDepth 100000 in
set_option maxHeartbeats 4000000 in
theorem tb_L_adds_210 {q : Int32 × ax_S} {k157 : Option Nat → Option Nat → Int32 → Int32 → Int32 → Int32 → ax_S → Option (Int32 × ax_S)} (hk157 : ∀ (a0 : Option Nat) (a3 : Option Nat) (a4 : Int32) (a5 : Int32) (a6 : Int32) (a7 : Int32) (s : ax_S), k157 a0 a3 a4 a5 a6 a7 s = some q → AW mm_L_adds 6 0 0 157 [(some (av_r a0)), none, none, (some (av_r a3)), (some (av_i a4)), (some (av_i a5)), (some (av_i a6)), (some (av_i a7))] [] s (some (av_i q.1), q.2)) {a0 : Option Nat} {a3 : Option Nat} {a4 : Int32} {a5 : Int32} {a6 : Int32} {a7 : Int32} {b0 : Option Nat} {b1 : Int32} {s : ax_S} (h : fb_L_adds_210 k157 a0 a3 a4 a5 a6 a7 b0 b1 s = some q) : AW mm_L_adds 6 0 0 210 [(some (av_r a0)), none, none, (some (av_r a3)), (some (av_i a4)), (some (av_i a5)), (some (av_i a6)), (some (av_i a7))] [av_i b1, av_r b0] s (some (av_i q.1), q.2) := by
  unfold fb_L_adds_210 at h
  refine ax_iconst (v := (0)) dL_adds_210 rfl ?_
  exact ax_less (L' := [(some (av_r a0)), none, none, (some (av_r a3)), (some (av_i a4)), (some (av_i a5)), (some (av_i a6)), (some (av_i a7))]) ⟨rfl, rfl, rfl, rfl, rfl, rfl, trivial⟩ (tb_L_adds_211 hk157 h)
def fb_L_adds_157 : Nat → Option Nat → Option Nat → Int32 → Int32 → Int32 → Int32 → ax_S → Option (Int32 × ax_S)
  | 0, _, _, _, _, _, _, _ => none
  | n + 1, a0, a3, a4, a5, a6, a7, s =>
    if (4) ≤ a7 then
      some (a6, s)
    else
      if a5 = (1) then
        fb_L_adds_211 (fb_L_adds_157 n) a0 a3 a4 a5 a6 a7 a3 (((4) * a4) + a7) (16) s
      else
        if a5 = (4) then
          fb_L_adds_211 (fb_L_adds_157 n) a0 a3 a4 a5 a6 a7 a3 (((4) * a4) + a7) (1) s
        else
          if a5 = (5) then
            if a7 = (2) then
              fb_L_adds_211 (fb_L_adds_157 n) a0 a3 a4 a5 a6 a7 a3 (((4) * a4) + a7) (255) s
            else
              fb_L_adds_210 (fb_L_adds_157 n) a0 a3 a4 a5 a6 a7 a3 (((4) * a4) + a7) s
          else
            fb_L_adds_210 (fb_L_adds_157 n) a0 a3 a4 a5 a6 a7 a3 (((4) * a4) + a7) s
set_option maxRecDepth 100000 in
set_option maxHeartbeats 4000000 in
theorem tb_L_adds_157 {q : Int32 × ax_S} : ∀ (n : Nat) (a0 : Option Nat) (a3 : Option Nat) (a4 : Int32) (a5 : Int32) (a6 : Int32) (a7 : Int32) (s : ax_S) (h : fb_L_adds_157 n a0 a3 a4 a5 a6 a7 s = some q), AW mm_L_adds 6 0 0 157 [(some (av_r a0)), none, none, (some (av_r a3)), (some (av_i a4)), (some (av_i a5)), (some (av_i a6)), (some (av_i a7))] [] s (some (av_i q.1), q.2) := by
  intro n
  induction n with
  | zero =>
    intro a0 a3 a4 a5 a6 a7 s h
    exact ax_no h
  | succ n ih =>
    intro a0 a3 a4 a5 a6 a7 s h
    unfold fb_L_adds_157 at h
    refine ax_iload (i := 7) dL_adds_157 rfl ?_
    refine ax_iconst (v := (4)) dL_adds_159 rfl ?_
    refine ax_icmp_ge (tgt := 260) dL_adds_160 (by decide) (fun c9 => ?_) (fun c9 => ?_)
    · rw [if_pos c9] at h
      refine ax_iload (i := 6) dL_adds_260 rfl ?_
      exact ax_reti dL_adds_262 h
    · rw [if_neg c9] at h
      refine ax_aload_n (i := 3) dL_adds_163 rfl rfl ?_
      refine ax_iconst (v := (4)) dL_adds_164 rfl ?_
      refine ax_iload (i := 4) dL_adds_165 rfl ?_
      refine ax_imul dL_adds_167 ?_
      refine ax_iload (i := 7) dL_adds_168 rfl ?_
      refine ax_iadd dL_adds_170 ?_
      refine ax_iload (i := 5) dL_adds_171 rfl ?_
      refine ax_iconst (v := (1)) dL_adds_173 rfl ?_
      refine ax_icmp_ne (tgt := 182) dL_adds_174 (by decide) (fun c10 => ?_) (fun c10 => ?_)
      · rw [if_neg c10] at h
        refine ax_iload (i := 5) dL_adds_182 rfl ?_
        refine ax_iconst (v := (4)) dL_adds_184 rfl ?_
        refine ax_icmp_ne (tgt := 192) dL_adds_185 (by decide) (fun c11 => ?_) (fun c11 => ?_)
        · rw [if_neg c11] at h
          refine ax_iload (i := 5) dL_adds_192 rfl ?_
          refine ax_iconst (v := (5)) dL_adds_194 rfl ?_
          refine ax_icmp_ne (tgt := 210) dL_adds_195 (by decide) (fun c12 => ?_) (fun c12 => ?_)
          · rw [if_neg c12] at h
            exact ax_less (L' := [(some (av_r a0)), none, none, (some (av_r a3)), (some (av_i a4)), (some (av_i a5)), (some (av_i a6)), (some (av_i a7))]) ⟨rfl, rfl, rfl, rfl, rfl, rfl, trivial⟩ (tb_L_adds_210 ih h)
          · rw [if_pos c12] at h
            refine ax_iload (i := 7) dL_adds_198 rfl ?_
            refine ax_iconst (v := (2)) dL_adds_200 rfl ?_
            refine ax_icmp_ne (tgt := 210) dL_adds_201 (by decide) (fun c13 => ?_) (fun c13 => ?_)
            · rw [if_neg c13] at h
              exact ax_less (L' := [(some (av_r a0)), none, none, (some (av_r a3)), (some (av_i a4)), (some (av_i a5)), (some (av_i a6)), (some (av_i a7))]) ⟨rfl, rfl, rfl, rfl, rfl, rfl, trivial⟩ (tb_L_adds_210 ih h)
            · rw [if_pos c13] at h
              refine ax_sipush (v := (255)) dL_adds_204 rfl ?_
              refine ax_goto (tgt := 211) dL_adds_207 (by decide) ?_
              exact ax_less (L' := [(some (av_r a0)), none, none, (some (av_r a3)), (some (av_i a4)), (some (av_i a5)), (some (av_i a6)), (some (av_i a7))]) ⟨rfl, rfl, rfl, rfl, rfl, rfl, trivial⟩ (tb_L_adds_211 ih h)
        · rw [if_pos c11] at h
          refine ax_iconst (v := (1)) dL_adds_188 rfl ?_
          refine ax_goto (tgt := 211) dL_adds_189 (by decide) ?_
          exact ax_less (L' := [(some (av_r a0)), none, none, (some (av_r a3)), (some (av_i a4)), (some (av_i a5)), (some (av_i a6)), (some (av_i a7))]) ⟨rfl, rfl, rfl, rfl, rfl, rfl, trivial⟩ (tb_L_adds_211 ih h)
      · rw [if_pos c10] at h
        refine ax_bipush (v := (16)) dL_adds_177 rfl ?_
        refine ax_goto (tgt := 211) dL_adds_179 (by decide) ?_
        exact ax_less (L' := [(some (av_r a0)), none, none, (some (av_r a3)), (some (av_i a4)), (some (av_i a5)), (some (av_i a6)), (some (av_i a7))]) ⟨rfl, rfl, rfl, rfl, rfl, rfl, trivial⟩ (tb_L_adds_211 ih h)
def fb_L_adds_145 (k94 : Option Nat → Option Nat → Option Nat → Int32 → Int32 → Int32 → Int32 → ax_S → Option (Int32 × ax_S)) (a0 : Option Nat) (a2 : Option Nat) (a3 : Option Nat) (a4 : Int32) (a5 : Int32) (a7 : Int32) (s : ax_S) : Option (Int32 × ax_S) :=
  k94 a0 a2 a3 a4 a5 (0) (a7 + (1)) s
set_option maxRecDepth 100000 in
set_option maxHeartbeats 4000000 in
theorem tb_L_adds_145 {q : Int32 × ax_S} {k94 : Option Nat → Option Nat → Option Nat → Int32 → Int32 → Int32 → Int32 → ax_S → Option (Int32 × ax_S)} (hk94 : ∀ (a0 : Option Nat) (a2 : Option Nat) (a3 : Option Nat) (a4 : Int32) (a5 : Int32) (a6 : Int32) (a7 : Int32) (s : ax_S), k94 a0 a2 a3 a4 a5 a6 a7 s = some q → AW mm_L_adds 6 0 0 94 [(some (av_r a0)), none, (some (av_r a2)), (some (av_r a3)), (some (av_i a4)), (some (av_i a5)), (some (av_i a6)), (some (av_i a7))] [] s (some (av_i q.1), q.2)) {a0 : Option Nat} {a2 : Option Nat} {a3 : Option Nat} {a4 : Int32} {a5 : Int32} {a7 : Int32} {s : ax_S} (h : fb_L_adds_145 k94 a0 a2 a3 a4 a5 a7 s = some q) : AW mm_L_adds 6 0 0 145 [(some (av_r a0)), none, (some (av_r a2)), (some (av_r a3)), (some (av_i a4)), (some (av_i a5)), none, (some (av_i a7))] [] s (some (av_i q.1), q.2) := by
  unfold fb_L_adds_145 at h
  refine ax_iconst (v := (0)) dL_adds_145 rfl ?_
  refine ax_istore (i := 6) (L2 := [some (av_r a0), none, some (av_r a2), some (av_r a3), some (av_i a4), some (av_i a5), some (av_i (0)), some (av_i a7)]) dL_adds_146 (by decide) rfl rfl ?_
  refine ax_iinc (i := 7) (v := (a7 + (1))) (L2 := [some (av_r a0), none, some (av_r a2), some (av_r a3), some (av_i a4), some (av_i a5), some (av_i (0)), some (av_i (a7 + (1)))]) dL_adds_148 rfl rfl (by decide) rfl rfl ?_
  refine ax_goto (tgt := 94) dL_adds_151 (by decide) ?_
  exact ax_less (L' := [(some (av_r a0)), none, (some (av_r a2)), (some (av_r a3)), (some (av_i a4)), (some (av_i a5)), (some (av_i (0))), (some (av_i (a7 + (1))))]) ⟨rfl, rfl, rfl, rfl, rfl, rfl, rfl, trivial⟩ (hk94 _ _ _ _ _ _ _ _ h)
def fb_L_adds_141 (k94 : Option Nat → Option Nat → Option Nat → Int32 → Int32 → Int32 → Int32 → ax_S → Option (Int32 × ax_S)) (a0 : Option Nat) (a2 : Option Nat) (a3 : Option Nat) (a4 : Int32) (a5 : Int32) (a7 : Int32) (s : ax_S) : Option (Int32 × ax_S) :=
  k94 a0 a2 a3 a4 a5 (1) (a7 + (1)) s
set_option maxRecDepth 100000 in
set_option maxHeartbeats 4000000 in
theorem tb_L_adds_141 {q : Int32 × ax_S} {k94 : Option Nat → Option Nat → Option Nat → Int32 → Int32 → Int32 → Int32 → ax_S → Option (Int32 × ax_S)} (hk94 : ∀ (a0 : Option Nat) (a2 : Option Nat) (a3 : Option Nat) (a4 : Int32) (a5 : Int32) (a6 : Int32) (a7 : Int32) (s : ax_S), k94 a0 a2 a3 a4 a5 a6 a7 s = some q → AW mm_L_adds 6 0 0 94 [(some (av_r a0)), none, (some (av_r a2)), (some (av_r a3)), (some (av_i a4)), (some (av_i a5)), (some (av_i a6)), (some (av_i a7))] [] s (some (av_i q.1), q.2)) {a0 : Option Nat} {a2 : Option Nat} {a3 : Option Nat} {a4 : Int32} {a5 : Int32} {a7 : Int32} {s : ax_S} (h : fb_L_adds_141 k94 a0 a2 a3 a4 a5 a7 s = some q) : AW mm_L_adds 6 0 0 141 [(some (av_r a0)), none, (some (av_r a2)), (some (av_r a3)), (some (av_i a4)), (some (av_i a5)), none, (some (av_i a7))] [] s (some (av_i q.1), q.2) := by
  unfold fb_L_adds_141 at h
  refine ax_iconst (v := (1)) dL_adds_141 rfl ?_
  refine ax_goto (tgt := 146) dL_adds_142 (by decide) ?_
  refine ax_istore (i := 6) (L2 := [some (av_r a0), none, some (av_r a2), some (av_r a3), some (av_i a4), some (av_i a5), some (av_i (1)), some (av_i a7)]) dL_adds_146 (by decide) rfl rfl ?_
  refine ax_iinc (i := 7) (v := (a7 + (1))) (L2 := [some (av_r a0), none, some (av_r a2), some (av_r a3), some (av_i a4), some (av_i a5), some (av_i (1)), some (av_i (a7 + (1)))]) dL_adds_148 rfl rfl (by decide) rfl rfl ?_
  refine ax_goto (tgt := 94) dL_adds_151 (by decide) ?_
  exact ax_less (L' := [(some (av_r a0)), none, (some (av_r a2)), (some (av_r a3)), (some (av_i a4)), (some (av_i a5)), (some (av_i (1))), (some (av_i (a7 + (1))))]) ⟨rfl, rfl, rfl, rfl, rfl, rfl, rfl, trivial⟩ (hk94 _ _ _ _ _ _ _ _ h)
def fb_L_adds_94 : Nat → Option Nat → Option Nat → Option Nat → Int32 → Int32 → Int32 → Int32 → ax_S → Option (Int32 × ax_S)
  | 0, _, _, _, _, _, _, _, _ => none
  | n + 1, a0, a2, a3, a4, a5, a6, a7, s =>
    if (3) ≤ a7 then
      fb_L_adds_157 10000 a0 a3 a4 a5 a6 (0) s
    else
      (ax_as s 9 a2 (((3) * a4) + a7) (-1005)).bind fun s15 =>
      if a6 = 0 then
        fb_L_adds_145 (fb_L_adds_94 n) a0 a2 a3 a4 a5 a7 s15
      else
        (fn_L_inputs a5 s15).bind fun q17 =>
        if q17.1 ≤ a7 then
          fb_L_adds_141 (fb_L_adds_94 n) a0 a2 a3 a4 a5 a7 q17.2
        else
          (ax_sh q17.2 6 a0).bind fun w19 =>
          (fn_X9_input a0 a4 a7 q17.2).bind fun q20 =>
          if q20.1 = (-1005) then
            fb_L_adds_141 (fb_L_adds_94 n) a0 a2 a3 a4 a5 a7 q20.2
          else
            fb_L_adds_145 (fb_L_adds_94 n) a0 a2 a3 a4 a5 a7 q20.2
set_option maxRecDepth 100000 in
set_option maxHeartbeats 4000000 in
theorem tb_L_adds_94 {q : Int32 × ax_S} : ∀ (n : Nat) (a0 : Option Nat) (a2 : Option Nat) (a3 : Option Nat) (a4 : Int32) (a5 : Int32) (a6 : Int32) (a7 : Int32) (s : ax_S) (h : fb_L_adds_94 n a0 a2 a3 a4 a5 a6 a7 s = some q), AW mm_L_adds 6 0 0 94 [(some (av_r a0)), none, (some (av_r a2)), (some (av_r a3)), (some (av_i a4)), (some (av_i a5)), (some (av_i a6)), (some (av_i a7))] [] s (some (av_i q.1), q.2) := by
  intro n
  induction n with
  | zero =>
    intro a0 a2 a3 a4 a5 a6 a7 s h
    exact ax_no h
  | succ n ih =>
    intro a0 a2 a3 a4 a5 a6 a7 s h
    unfold fb_L_adds_94 at h
    refine ax_iload (i := 7) dL_adds_94 rfl ?_
    refine ax_iconst (v := (3)) dL_adds_96 rfl ?_
    refine ax_icmp_ge (tgt := 154) dL_adds_97 (by decide) (fun c14 => ?_) (fun c14 => ?_)
    · rw [if_pos c14] at h
      refine ax_iconst (v := (0)) dL_adds_154 rfl ?_
      refine ax_istore (i := 7) (L2 := [some (av_r a0), none, some (av_r a2), some (av_r a3), some (av_i a4), some (av_i a5), some (av_i a6), some (av_i (0))]) dL_adds_155 (by decide) rfl rfl ?_
      exact ax_less (L' := [(some (av_r a0)), none, none, (some (av_r a3)), (some (av_i a4)), (some (av_i a5)), (some (av_i a6)), (some (av_i (0)))]) ⟨rfl, rfl, rfl, rfl, rfl, rfl, trivial⟩ (tb_L_adds_157  _ _ _ _ _ _ _ _ h)
    · rw [if_neg c14] at h
      refine ax_aload_n (i := 2) dL_adds_100 rfl rfl ?_
      refine ax_iconst (v := (3)) dL_adds_101 rfl ?_
      refine ax_iload (i := 4) dL_adds_102 rfl ?_
      refine ax_imul dL_adds_104 ?_
      refine ax_iload (i := 7) dL_adds_105 rfl ?_
      refine ax_iadd dL_adds_107 ?_
      refine ax_sipush (v := (-1005)) dL_adds_108 rfl ?_
      obtain ⟨s15, gs15, h⟩ := Option.bind_eq_some_iff.mp h
      refine ax_iast dL_adds_111 gs15 ?_
      refine ax_iload (i := 6) dL_adds_112 rfl ?_
      refine ax_if_eq (tgt := 145) dL_adds_114 (by decide) (fun c16 => ?_) (fun c16 => ?_)
      · rw [if_pos c16] at h
        exact ax_less (L' := [(some (av_r a0)), none, (some (av_r a2)), (some (av_r a3)), (some (av_i a4)), (some (av_i a5)), none, (some (av_i a7))]) ⟨rfl, rfl, rfl, rfl, rfl, rfl, trivial⟩ (tb_L_adds_145 ih h)
      · rw [if_neg c16] at h
        refine ax_iload (i := 7) dL_adds_117 rfl ?_
        refine ax_iload (i := 5) dL_adds_119 rfl ?_
        obtain ⟨q17, gq17, h⟩ := Option.bind_eq_some_iff.mp h
        refine ax_cS (As := [av_i a5]) dL_adds_121 (th_L_inputs gq17) (And.intro wd_648 wd_17) wd_646 wd_647 cy_L_inputs (by omega) (by decide) (Nat.le_of_ble_eq_true rfl) rfl ?_
        refine ax_icmp_ge (tgt := 141) dL_adds_124 (by decide) (fun c18 => ?_) (fun c18 => ?_)
        · rw [if_pos c18] at h
          exact ax_less (L' := [(some (av_r a0)), none, (some (av_r a2)), (some (av_r a3)), (some (av_i a4)), (some (av_i a5)), none, (some (av_i a7))]) ⟨rfl, rfl, rfl, rfl, rfl, rfl, trivial⟩ (tb_L_adds_141 ih h)
        · rw [if_neg c18] at h
          refine ax_aload_n (i := 0) dL_adds_127 rfl rfl ?_
          refine ax_iload (i := 4) dL_adds_128 rfl ?_
          refine ax_iload (i := 7) dL_adds_130 rfl ?_
          obtain ⟨w19, gw19, h⟩ := Option.bind_eq_some_iff.mp h
          obtain ⟨q20, gq20, h⟩ := Option.bind_eq_some_iff.mp h
          refine ax_cV (As := [av_i a4, av_i a7]) (t := 6) dL_adds_132 gw19 (th_X9_input gq20) rfl (And.intro wd_630 wd_18) wd_665 wd_628 wd_629 cy_X9_input (by omega) (by decide) (Nat.le_of_ble_eq_true rfl) rfl ?_
          refine ax_sipush (v := (-1005)) dL_adds_135 rfl ?_
          refine ax_icmp_ne (tgt := 145) dL_adds_138 (by decide) (fun c21 => ?_) (fun c21 => ?_)
          · rw [if_neg c21] at h
            exact ax_less (L' := [(some (av_r a0)), none, (some (av_r a2)), (some (av_r a3)), (some (av_i a4)), (some (av_i a5)), none, (some (av_i a7))]) ⟨rfl, rfl, rfl, rfl, rfl, rfl, trivial⟩ (tb_L_adds_145 ih h)
          · rw [if_pos c21] at h
            exact ax_less (L' := [(some (av_r a0)), none, (some (av_r a2)), (some (av_r a3)), (some (av_i a4)), (some (av_i a5)), none, (some (av_i a7))]) ⟨rfl, rfl, rfl, rfl, rfl, rfl, trivial⟩ (tb_L_adds_141 ih h)
def fb_L_adds_88 (a0 : Option Nat) (a2 : Option Nat) (a3 : Option Nat) (a4 : Int32) (a5 : Int32) (s : ax_S) : Option (Int32 × ax_S) :=
  fb_L_adds_94 10000 a0 a2 a3 a4 a5 (0) (0) s
set_option maxRecDepth 100000 in
set_option maxHeartbeats 4000000 in
theorem tb_L_adds_88 {q : Int32 × ax_S} {a0 : Option Nat} {a2 : Option Nat} {a3 : Option Nat} {a4 : Int32} {a5 : Int32} {s : ax_S} (h : fb_L_adds_88 a0 a2 a3 a4 a5 s = some q) : AW mm_L_adds 6 0 0 88 [(some (av_r a0)), none, (some (av_r a2)), (some (av_r a3)), (some (av_i a4)), (some (av_i a5)), none, none] [] s (some (av_i q.1), q.2) := by
  unfold fb_L_adds_88 at h
  refine ax_iconst (v := (0)) dL_adds_88 rfl ?_
  refine ax_istore (i := 6) (L2 := [some (av_r a0), none, some (av_r a2), some (av_r a3), some (av_i a4), some (av_i a5), some (av_i (0)), none]) dL_adds_89 (by decide) rfl rfl ?_
  refine ax_iconst (v := (0)) dL_adds_91 rfl ?_
  refine ax_istore (i := 7) (L2 := [some (av_r a0), none, some (av_r a2), some (av_r a3), some (av_i a4), some (av_i a5), some (av_i (0)), some (av_i (0))]) dL_adds_92 (by decide) rfl rfl ?_
  exact ax_less (L' := [(some (av_r a0)), none, (some (av_r a2)), (some (av_r a3)), (some (av_i a4)), (some (av_i a5)), (some (av_i (0))), (some (av_i (0)))]) ⟨rfl, rfl, rfl, rfl, rfl, rfl, rfl, trivial⟩ (tb_L_adds_94  _ _ _ _ _ _ _ _ _ h)
def fi_L_adds (a0 : Option Nat) (a1 : Option Nat) (a2 : Option Nat) (a3 : Option Nat) (a4 : Int32) (a5 : Int32) (s : ax_S) : Option (Int32 × ax_S) :=
  (ax_as s 9 a1 ((3) * a4) a5).bind fun s22 =>
  (ax_as s22 9 a1 (((3) * a4) + (1)) (0)).bind fun s23 =>
  (ax_as s23 9 a1 (((3) * a4) + (2)) (99)).bind fun s24 =>
  (ax_sh s24 6 a0).bind fun w25 =>
  (fn_X9_addNode a0 a5 s24).bind fun q26 =>
  if q26.1 = a4 then
    (ax_sh q26.2 6 a0).bind fun w28 =>
    (fn_X9_node a0 a4 (0) q26.2).bind fun q29 =>
    if q29.1 = a5 then
      (fn_L_inputs a5 q29.2).bind fun q31 =>
      (ax_sh q31.2 6 a0).bind fun w32 =>
      (fn_X9_input a0 a4 q31.1 q31.2).bind fun q33 =>
      if q33.1 = (-1001) then
        (fn_L_parameters a5 q33.2).bind fun q35 =>
        (ax_sh q35.2 6 a0).bind fun w36 =>
        (fn_X9_parameter a0 a4 q35.1 q35.2).bind fun q37 =>
        if q37.1 = (-1001) then
          fb_L_adds_94 10000 a0 a2 a3 a4 a5 (1) (0) q37.2
        else
          fb_L_adds_88 a0 a2 a3 a4 a5 q37.2
      else
        fb_L_adds_88 a0 a2 a3 a4 a5 q33.2
    else
      fb_L_adds_88 a0 a2 a3 a4 a5 q29.2
  else
    fb_L_adds_88 a0 a2 a3 a4 a5 q26.2
set_option maxRecDepth 100000 in
set_option maxHeartbeats 4000000 in
theorem tw_L_adds {q : Int32 × ax_S} {a0 : Option Nat} {a1 : Option Nat} {a2 : Option Nat} {a3 : Option Nat} {a4 : Int32} {a5 : Int32} {s : ax_S} (h : fi_L_adds a0 a1 a2 a3 a4 a5 s = some q) : AW mm_L_adds 6 0 0 0 [some (av_r a0), some (av_r a1), some (av_r a2), some (av_r a3), some (av_i a4), some (av_i a5), none, none] [] s (some (av_i q.1), q.2) := by
  unfold fi_L_adds at h
  refine ax_aload_n (i := 1) dL_adds_0 rfl rfl ?_
  refine ax_iconst (v := (3)) dL_adds_1 rfl ?_
  refine ax_iload (i := 4) dL_adds_2 rfl ?_
  refine ax_imul dL_adds_4 ?_
  refine ax_iload (i := 5) dL_adds_5 rfl ?_
  obtain ⟨s22, gs22, h⟩ := Option.bind_eq_some_iff.mp h
  refine ax_iast dL_adds_7 gs22 ?_
  refine ax_aload_n (i := 1) dL_adds_8 rfl rfl ?_
  refine ax_iconst (v := (3)) dL_adds_9 rfl ?_
  refine ax_iload (i := 4) dL_adds_10 rfl ?_
  refine ax_imul dL_adds_12 ?_
  refine ax_iconst (v := (1)) dL_adds_13 rfl ?_
  refine ax_iadd dL_adds_14 ?_
  refine ax_iconst (v := (0)) dL_adds_15 rfl ?_
  obtain ⟨s23, gs23, h⟩ := Option.bind_eq_some_iff.mp h
  refine ax_iast dL_adds_16 gs23 ?_
  refine ax_aload_n (i := 1) dL_adds_17 rfl rfl ?_
  refine ax_iconst (v := (3)) dL_adds_18 rfl ?_
  refine ax_iload (i := 4) dL_adds_19 rfl ?_
  refine ax_imul dL_adds_21 ?_
  refine ax_iconst (v := (2)) dL_adds_22 rfl ?_
  refine ax_iadd dL_adds_23 ?_
  refine ax_bipush (v := (99)) dL_adds_24 rfl ?_
  obtain ⟨s24, gs24, h⟩ := Option.bind_eq_some_iff.mp h
  refine ax_iast dL_adds_26 gs24 ?_
  refine ax_aload_n (i := 0) dL_adds_27 rfl rfl ?_
  refine ax_iload (i := 5) dL_adds_28 rfl ?_
  obtain ⟨w25, gw25, h⟩ := Option.bind_eq_some_iff.mp h
  obtain ⟨q26, gq26, h⟩ := Option.bind_eq_some_iff.mp h
  refine ax_cV (As := [av_i a5]) (t := 6) dL_adds_30 gw25 (th_X9_addNode gq26) rfl (And.intro wd_658 wd_18) wd_655 wd_656 wd_657 cy_X9_addNode (by omega) (by decide) (Nat.le_of_ble_eq_true rfl) rfl ?_
  refine ax_iload (i := 4) dL_adds_33 rfl ?_
  refine ax_icmp_ne (tgt := 88) dL_adds_35 (by decide) (fun c27 => ?_) (fun c27 => ?_)
  · rw [if_neg c27] at h
    exact ax_less (L' := [(some (av_r a0)), none, (some (av_r a2)), (some (av_r a3)), (some (av_i a4)), (some (av_i a5)), none, none]) ⟨rfl, rfl, rfl, rfl, rfl, trivial⟩ (tb_L_adds_88  h)
  · rw [if_pos c27] at h
    refine ax_aload_n (i := 0) dL_adds_38 rfl rfl ?_
    refine ax_iload (i := 4) dL_adds_39 rfl ?_
    refine ax_iconst (v := (0)) dL_adds_41 rfl ?_
    obtain ⟨w28, gw28, h⟩ := Option.bind_eq_some_iff.mp h
    obtain ⟨q29, gq29, h⟩ := Option.bind_eq_some_iff.mp h
    refine ax_cV (As := [av_i a4, av_i (0)]) (t := 6) dL_adds_42 gw28 (th_X9_node gq29) rfl (And.intro wd_619 wd_18) wd_664 wd_617 wd_618 cy_X9_node (by omega) (by decide) (Nat.le_of_ble_eq_true rfl) rfl ?_
    refine ax_iload (i := 5) dL_adds_45 rfl ?_
    refine ax_icmp_ne (tgt := 88) dL_adds_47 (by decide) (fun c30 => ?_) (fun c30 => ?_)
    · rw [if_neg c30] at h
      exact ax_less (L' := [(some (av_r a0)), none, (some (av_r a2)), (some (av_r a3)), (some (av_i a4)), (some (av_i a5)), none, none]) ⟨rfl, rfl, rfl, rfl, rfl, trivial⟩ (tb_L_adds_88  h)
    · rw [if_pos c30] at h
      refine ax_aload_n (i := 0) dL_adds_50 rfl rfl ?_
      refine ax_iload (i := 4) dL_adds_51 rfl ?_
      refine ax_iload (i := 5) dL_adds_53 rfl ?_
      obtain ⟨q31, gq31, h⟩ := Option.bind_eq_some_iff.mp h
      refine ax_cS (As := [av_i a5]) dL_adds_55 (th_L_inputs gq31) (And.intro wd_648 wd_17) wd_646 wd_647 cy_L_inputs (by omega) (by decide) (Nat.le_of_ble_eq_true rfl) rfl ?_
      obtain ⟨w32, gw32, h⟩ := Option.bind_eq_some_iff.mp h
      obtain ⟨q33, gq33, h⟩ := Option.bind_eq_some_iff.mp h
      refine ax_cV (As := [av_i a4, av_i q31.1]) (t := 6) dL_adds_58 gw32 (th_X9_input gq33) rfl (And.intro wd_630 wd_18) wd_665 wd_628 wd_629 cy_X9_input (by omega) (by decide) (Nat.le_of_ble_eq_true rfl) rfl ?_
      refine ax_sipush (v := (-1001)) dL_adds_61 rfl ?_
      refine ax_icmp_ne (tgt := 88) dL_adds_64 (by decide) (fun c34 => ?_) (fun c34 => ?_)
      · rw [if_neg c34] at h
        exact ax_less (L' := [(some (av_r a0)), none, (some (av_r a2)), (some (av_r a3)), (some (av_i a4)), (some (av_i a5)), none, none]) ⟨rfl, rfl, rfl, rfl, rfl, trivial⟩ (tb_L_adds_88  h)
      · rw [if_pos c34] at h
        refine ax_aload_n (i := 0) dL_adds_67 rfl rfl ?_
        refine ax_iload (i := 4) dL_adds_68 rfl ?_
        refine ax_iload (i := 5) dL_adds_70 rfl ?_
        obtain ⟨q35, gq35, h⟩ := Option.bind_eq_some_iff.mp h
        refine ax_cS (As := [av_i a5]) dL_adds_72 (th_L_parameters gq35) (And.intro wd_651 wd_17) wd_649 wd_650 cy_L_parameters (by omega) (by decide) (Nat.le_of_ble_eq_true rfl) rfl ?_
        obtain ⟨w36, gw36, h⟩ := Option.bind_eq_some_iff.mp h
        obtain ⟨q37, gq37, h⟩ := Option.bind_eq_some_iff.mp h
        refine ax_cV (As := [av_i a4, av_i q35.1]) (t := 6) dL_adds_75 gw36 (th_X9_parameter gq37) rfl (And.intro wd_635 wd_18) wd_666 wd_633 wd_634 cy_X9_parameter (by omega) (by decide) (Nat.le_of_ble_eq_true rfl) rfl ?_
        refine ax_sipush (v := (-1001)) dL_adds_78 rfl ?_
        refine ax_icmp_ne (tgt := 88) dL_adds_81 (by decide) (fun c38 => ?_) (fun c38 => ?_)
        · rw [if_neg c38] at h
          exact ax_less (L' := [(some (av_r a0)), none, (some (av_r a2)), (some (av_r a3)), (some (av_i a4)), (some (av_i a5)), none, none]) ⟨rfl, rfl, rfl, rfl, rfl, trivial⟩ (tb_L_adds_88  h)
        · rw [if_pos c38] at h
          refine ax_iconst (v := (1)) dL_adds_84 rfl ?_
          refine ax_goto (tgt := 89) dL_adds_85 (by decide) ?_
          refine ax_istore (i := 6) (L2 := [some (av_r a0), some (av_r a1), some (av_r a2), some (av_r a3), some (av_i a4), some (av_i a5), some (av_i (1)), none]) dL_adds_89 (by decide) rfl rfl ?_
          refine ax_iconst (v := (0)) dL_adds_91 rfl ?_
          refine ax_istore (i := 7) (L2 := [some (av_r a0), some (av_r a1), some (av_r a2), some (av_r a3), some (av_i a4), some (av_i a5), some (av_i (1)), some (av_i (0))]) dL_adds_92 (by decide) rfl rfl ?_
          exact ax_less (L' := [(some (av_r a0)), none, (some (av_r a2)), (some (av_r a3)), (some (av_i a4)), (some (av_i a5)), (some (av_i (1))), (some (av_i (0)))]) ⟨rfl, rfl, rfl, rfl, rfl, rfl, rfl, trivial⟩ (tb_L_adds_94  _ _ _ _ _ _ _ _ _ h)
def fn_L_adds (a0 : Option Nat) (a1 : Option Nat) (a2 : Option Nat) (a3 : Option Nat) (a4 : Int32) (a5 : Int32) (s : ax_S) : Option (Int32 × ax_S) := ax_bz (fi_L_adds a0 a1 a2 a3 a4 a5 s)
set_option maxRecDepth 100000 in
set_option maxHeartbeats 4000000 in
theorem th_L_adds {q : Int32 × ax_S} {a0 : Option Nat} {a1 : Option Nat} {a2 : Option Nat} {a3 : Option Nat} {a4 : Int32} {a5 : Int32} {s : ax_S} (h : fn_L_adds a0 a1 a2 a3 a4 a5 s = some q) : AC mm_L_adds yL_adds 6 0 0 [av_r a0, av_r a1, av_r a2, av_r a3, av_i a4, av_i a5] s (some (av_i q.1), q.2) := by
  obtain ⟨h, hz⟩ := ax_bz_of h
  exact ax_met (L0 := [some (av_r a0), some (av_r a1), some (av_r a2), some (av_r a3), some (av_i a4), some (av_i a5), none, none]) (by decide +kernel) rfl (fun h => absurd h (by decide)) ⟨rfl, rfl, rfl, rfl, rfl, rfl, trivial⟩ (Nat.le_of_ble_eq_true rfl) hz (tw_L_adds h)
/-! L_cell -/
abbrev mm_L_cell : ax_M := (RL, cL_cell, (some .int), 2, false)
def fn_L_cell (a0 : Option Nat) (a1 : Int32) (s : ax_S) : Option (Int32 × ax_S) :=
  (ax_ln s 9 a0).bind fun x1 =>
  if x1 ≤ a1 then
    some (((((15556387) * a1) + (431)) &&& (2147483647)), s)
  else
    (ax_al s 9 a0 a1).bind fun x3 =>
    some ((x3 &&& (2147483647)), s)
set_option maxRecDepth 100000 in
set_option maxHeartbeats 4000000 in
theorem tw_L_cell {q : Int32 × ax_S} {a0 : Option Nat} {a1 : Int32} {s : ax_S} (h : fn_L_cell a0 a1 s = some q) : AW mm_L_cell 0 0 0 0 [some (av_r a0), some (av_i a1)] [] s (some (av_i q.1), q.2) := by
  unfold fn_L_cell at h
  refine ax_iload_n (i := 1) dL_cell_0 rfl rfl ?_
  refine ax_aload_n (i := 0) dL_cell_1 rfl rfl ?_
  obtain ⟨x1, gx1, h⟩ := Option.bind_eq_some_iff.mp h
  refine ax_alen (t := 9) (by decide) dL_cell_2 gx1 ?_
  refine ax_icmp_ge (tgt := 12) dL_cell_3 (by decide) (fun c2 => ?_) (fun c2 => ?_)
  · rw [if_pos c2] at h
    refine ax_ldc (v := (15556387)) dL_cell_12 wd_644 ?_
    refine ax_iload_n (i := 1) dL_cell_14 rfl rfl ?_
    refine ax_imul dL_cell_15 ?_
    refine ax_sipush (v := (431)) dL_cell_16 rfl ?_
    refine ax_iadd dL_cell_19 ?_
    refine ax_ldc (v := (2147483647)) dL_cell_20 wd_645 ?_
    refine ax_iand dL_cell_22 ?_
    exact ax_reti dL_cell_23 h
  · rw [if_neg c2] at h
    refine ax_aload_n (i := 0) dL_cell_6 rfl rfl ?_
    refine ax_iload_n (i := 1) dL_cell_7 rfl rfl ?_
    obtain ⟨x3, gx3, h⟩ := Option.bind_eq_some_iff.mp h
    refine ax_iald dL_cell_8 gx3 ?_
    refine ax_goto (tgt := 20) dL_cell_9 (by decide) ?_
    refine ax_ldc (v := (2147483647)) dL_cell_20 wd_645 ?_
    refine ax_iand dL_cell_22 ?_
    exact ax_reti dL_cell_23 h
set_option maxRecDepth 100000 in
set_option maxHeartbeats 4000000 in
theorem th_L_cell {q : Int32 × ax_S} {a0 : Option Nat} {a1 : Int32} {s : ax_S} (h : fn_L_cell a0 a1 s = some q) : AC mm_L_cell yL_cell 0 0 0 [av_r a0, av_i a1] s (some (av_i q.1), q.2) := by
  exact ax_met (L0 := [some (av_r a0), some (av_i a1)]) (by decide +kernel) rfl (fun h => absurd h (by decide)) ⟨rfl, rfl, trivial⟩ (Nat.le_of_ble_eq_true rfl) trivial (tw_L_cell h)
/-! L_depends -/
abbrev mm_L_depends : ax_M := (RL, cL_depends, (some .boolean), 7, false)
def fb_L_depends_57 (k8 : Option Nat → Int32 → Int32 → Int32 → Int32 → ax_S → Option (Int32 × ax_S)) (k17 : Option Nat → Int32 → Int32 → Int32 → Int32 → Int32 → ax_S → Option (Int32 × ax_S)) (a0 : Option Nat) (a1 : Int32) (a3 : Int32) (a5 : Int32) (a6 : Int32) (b0 : Int32) (b1 : Int32) (s : ax_S) : Option (Int32 × ax_S) :=
  ax_bd ((b0 ||| b1)) fun v1 =>
  k17 a0 a1 a3 v1 a5 (a6 + (1)) s
set_option maxRecDepth 100000 in
set_option maxHeartbeats 4000000 in
theorem tb_L_depends_57 {q : Int32 × ax_S} {k8 : Option Nat → Int32 → Int32 → Int32 → Int32 → ax_S → Option (Int32 × ax_S)} {k17 : Option Nat → Int32 → Int32 → Int32 → Int32 → Int32 → ax_S → Option (Int32 × ax_S)} (hk8 : ∀ (a0 : Option Nat) (a1 : Int32) (a3 : Int32) (a4 : Int32) (a5 : Int32) (s : ax_S), k8 a0 a1 a3 a4 a5 s = some q → AW mm_L_depends 0 0 0 8 [(some (av_r a0)), (some (av_i a1)), none, (some (av_i a3)), (some (av_i a4)), (some (av_i a5)), none] [] s (some (av_i q.1), q.2)) (hk17 : ∀ (a0 : Option Nat) (a1 : Int32) (a3 : Int32) (a4 : Int32) (a5 : Int32) (a6 : Int32) (s : ax_S), k17 a0 a1 a3 a4 a5 a6 s = some q → AW mm_L_depends 0 0 0 17 [(some (av_r a0)), (some (av_i a1)), none, (some (av_i a3)), (some (av_i a4)), (some (av_i a5)), (some (av_i a6))] [] s (some (av_i q.1), q.2)) {a0 : Option Nat} {a1 : Int32} {a3 : Int32} {a5 : Int32} {a6 : Int32} {b0 : Int32} {b1 : Int32} {s : ax_S} (h : fb_L_depends_57 k8 k17 a0 a1 a3 a5 a6 b0 b1 s = some q) : AW mm_L_depends 0 0 0 57 [(some (av_r a0)), (some (av_i a1)), none, (some (av_i a3)), none, (some (av_i a5)), (some (av_i a6))] [av_i b1, av_i b0] s (some (av_i q.1), q.2) := by
  unfold fb_L_depends_57 at h
  refine ax_ior dL_depends_57 ?_
  refine ax_bdI h (fun v1 h => ?_)
  refine ax_istore (i := 4) (L2 := [some (av_r a0), some (av_i a1), none, some (av_i a3), some (av_i v1), some (av_i a5), some (av_i a6)]) dL_depends_58 (by decide) rfl rfl ?_
  refine ax_iinc (i := 6) (v := (a6 + (1))) (L2 := [some (av_r a0), some (av_i a1), none, some (av_i a3), some (av_i v1), some (av_i a5), some (av_i (a6 + (1)))]) dL_depends_60 rfl rfl (by decide) rfl rfl ?_
  refine ax_goto (tgt := 17) dL_depends_63 (by decide) ?_
  exact ax_less (L' := [(some (av_r a0)), (some (av_i a1)), none, (some (av_i a3)), (some (av_i v1)), (some (av_i a5)), (some (av_i (a6 + (1))))]) ⟨rfl, rfl, rfl, rfl, rfl, rfl, trivial⟩ (hk17 _ _ _ _ _ _ _ h)
def fb_L_depends_56 (k8 : Option Nat → Int32 → Int32 → Int32 → Int32 → ax_S → Option (Int32 × ax_S)) (k17 : Option Nat → Int32 → Int32 → Int32 → Int32 → Int32 → ax_S → Option (Int32 × ax_S)) (a0 : Option Nat) (a1 : Int32) (a3 : Int32) (a5 : Int32) (a6 : Int32) (b0 : Int32) (s : ax_S) : Option (Int32 × ax_S) :=
  fb_L_depends_57 k8 k17 a0 a1 a3 a5 a6 b0 (0) s
set_option maxRecDepth 100000 in
set_option maxHeartbeats 4000000 in
theorem tb_L_depends_56 {q : Int32 × ax_S} {k8 : Option Nat → Int32 → Int32 → Int32 → Int32 → ax_S → Option (Int32 × ax_S)} {k17 : Option Nat → Int32 → Int32 → Int32 → Int32 → Int32 → ax_S → Option (Int32 × ax_S)} (hk8 : ∀ (a0 : Option Nat) (a1 : Int32) (a3 : Int32) (a4 : Int32) (a5 : Int32) (s : ax_S), k8 a0 a1 a3 a4 a5 s = some q → AW mm_L_depends 0 0 0 8 [(some (av_r a0)), (some (av_i a1)), none, (some (av_i a3)), (some (av_i a4)), (some (av_i a5)), none] [] s (some (av_i q.1), q.2)) (hk17 : ∀ (a0 : Option Nat) (a1 : Int32) (a3 : Int32) (a4 : Int32) (a5 : Int32) (a6 : Int32) (s : ax_S), k17 a0 a1 a3 a4 a5 a6 s = some q → AW mm_L_depends 0 0 0 17 [(some (av_r a0)), (some (av_i a1)), none, (some (av_i a3)), (some (av_i a4)), (some (av_i a5)), (some (av_i a6))] [] s (some (av_i q.1), q.2)) {a0 : Option Nat} {a1 : Int32} {a3 : Int32} {a5 : Int32} {a6 : Int32} {b0 : Int32} {s : ax_S} (h : fb_L_depends_56 k8 k17 a0 a1 a3 a5 a6 b0 s = some q) : AW mm_L_depends 0 0 0 56 [(some (av_r a0)), (some (av_i a1)), none, (some (av_i a3)), none, (some (av_i a5)), (some (av_i a6))] [av_i b0] s (some (av_i q.1), q.2) := by
  unfold fb_L_depends_56 at h
  refine ax_iconst (v := (0)) dL_depends_56 rfl ?_
  exact ax_less (L' := [(some (av_r a0)), (some (av_i a1)), none, (some (av_i a3)), none, (some (av_i a5)), (some (av_i a6))]) ⟨rfl, rfl, rfl, rfl, rfl, trivial⟩ (tb_L_depends_57 hk8 hk17 h)
def fb_L_depends_17 (k8 : Option Nat → Int32 → Int32 → Int32 → Int32 → ax_S → Option (Int32 × ax_S)) : Nat → Option Nat → Int32 → Int32 → Int32 → Int32 → Int32 → ax_S → Option (Int32 × ax_S)
  | 0, _, _, _, _, _, _, _ => none
  | n + 1, a0, a1, a3, a4, a5, a6, s =>
    if ((3) * a1) ≤ a6 then
      k8 a0 a1 a3 a4 (a5 + (1)) s
    else
      if ((a4 >>> ((a6 / (3)) &&& 31)) &&& (1)) = (1) then
        (ax_al s 9 a0 a6).bind fun x4 =>
        if x4 < 0 then
          fb_L_depends_56 k8 (fb_L_depends_17 k8 n) a0 a1 a3 a5 a6 a4 s
        else
          (ax_al s 9 a0 a6).bind fun x6 =>
          fb_L_depends_57 k8 (fb_L_depends_17 k8 n) a0 a1 a3 a5 a6 a4 ((1) <<< (x6 &&& 31)) s
      else
        fb_L_depends_56 k8 (fb_L_depends_17 k8 n) a0 a1 a3 a5 a6 a4 s
set_option maxRecDepth 100000 in
set_option maxHeartbeats 4000000 in
theorem tb_L_depends_17 {q : Int32 × ax_S} {k8 : Option Nat → Int32 → Int32 → Int32 → Int32 → ax_S → Option (Int32 × ax_S)} (hk8 : ∀ (a0 : Option Nat) (a1 : Int32) (a3 : Int32) (a4 : Int32) (a5 : Int32) (s : ax_S), k8 a0 a1 a3 a4 a5 s = some q → AW mm_L_depends 0 0 0 8 [(some (av_r a0)), (some (av_i a1)), none, (some (av_i a3)), (some (av_i a4)), (some (av_i a5)), none] [] s (some (av_i q.1), q.2)) : ∀ (n : Nat) (a0 : Option Nat) (a1 : Int32) (a3 : Int32) (a4 : Int32) (a5 : Int32) (a6 : Int32) (s : ax_S) (h : fb_L_depends_17 k8 n a0 a1 a3 a4 a5 a6 s = some q), AW mm_L_depends 0 0 0 17 [(some (av_r a0)), (some (av_i a1)), none, (some (av_i a3)), (some (av_i a4)), (some (av_i a5)), (some (av_i a6))] [] s (some (av_i q.1), q.2) := by
  intro n
  induction n with
  | zero =>
    intro a0 a1 a3 a4 a5 a6 s h
    exact ax_no h
  | succ n ih =>
    intro a0 a1 a3 a4 a5 a6 s h
    unfold fb_L_depends_17 at h
    refine ax_iload (i := 6) dL_depends_17 rfl ?_
    refine ax_iconst (v := (3)) dL_depends_19 rfl ?_
    refine ax_iload_n (i := 1) dL_depends_20 rfl rfl ?_
    refine ax_imul dL_depends_21 ?_
    refine ax_icmp_ge (tgt := 66) dL_depends_22 (by decide) (fun c2 => ?_) (fun c2 => ?_)
    · rw [if_pos c2] at h
      refine ax_iinc (i := 5) (v := (a5 + (1))) (L2 := [some (av_r a0), some (av_i a1), none, some (av_i a3), some (av_i a4), some (av_i (a5 + (1))), some (av_i a6)]) dL_depends_66 rfl rfl (by decide) rfl rfl ?_
      refine ax_goto (tgt := 8) dL_depends_69 (by decide) ?_
      exact ax_less (L' := [(some (av_r a0)), (some (av_i a1)), none, (some (av_i a3)), (some (av_i a4)), (some (av_i (a5 + (1)))), none]) ⟨rfl, rfl, rfl, rfl, rfl, trivial⟩ (hk8 _ _ _ _ _ _ h)
    · rw [if_neg c2] at h
      refine ax_iload (i := 4) dL_depends_25 rfl ?_
      refine ax_iload (i := 4) dL_depends_27 rfl ?_
      refine ax_iload (i := 6) dL_depends_29 rfl ?_
      refine ax_iconst (v := (3)) dL_depends_31 rfl ?_
      refine ax_idiv dL_depends_32 (by decide) ?_
      refine ax_ishr dL_depends_33 ?_
      refine ax_iconst (v := (1)) dL_depends_34 rfl ?_
      refine ax_iand dL_depends_35 ?_
      refine ax_iconst (v := (1)) dL_depends_36 rfl ?_
      refine ax_icmp_ne (tgt := 56) dL_depends_37 (by decide) (fun c3 => ?_) (fun c3 => ?_)
      · rw [if_neg c3] at h
        exact ax_less (L' := [(some (av_r a0)), (some (av_i a1)), none, (some (av_i a3)), none, (some (av_i a5)), (some (av_i a6))]) ⟨rfl, rfl, rfl, rfl, rfl, trivial⟩ (tb_L_depends_56 hk8 ih h)
      · rw [if_pos c3] at h
        refine ax_aload_n (i := 0) dL_depends_40 rfl rfl ?_
        refine ax_iload (i := 6) dL_depends_41 rfl ?_
        obtain ⟨x4, gx4, h⟩ := Option.bind_eq_some_iff.mp h
        refine ax_iald dL_depends_43 gx4 ?_
        refine ax_if_lt (tgt := 56) dL_depends_44 (by decide) (fun c5 => ?_) (fun c5 => ?_)
        · rw [if_pos c5] at h
          exact ax_less (L' := [(some (av_r a0)), (some (av_i a1)), none, (some (av_i a3)), none, (some (av_i a5)), (some (av_i a6))]) ⟨rfl, rfl, rfl, rfl, rfl, trivial⟩ (tb_L_depends_56 hk8 ih h)
        · rw [if_neg c5] at h
          refine ax_iconst (v := (1)) dL_depends_47 rfl ?_
          refine ax_aload_n (i := 0) dL_depends_48 rfl rfl ?_
          refine ax_iload (i := 6) dL_depends_49 rfl ?_
          obtain ⟨x6, gx6, h⟩ := Option.bind_eq_some_iff.mp h
          refine ax_iald dL_depends_51 gx6 ?_
          refine ax_ishl dL_depends_52 ?_
          refine ax_goto (tgt := 57) dL_depends_53 (by decide) ?_
          exact ax_less (L' := [(some (av_r a0)), (some (av_i a1)), none, (some (av_i a3)), none, (some (av_i a5)), (some (av_i a6))]) ⟨rfl, rfl, rfl, rfl, rfl, trivial⟩ (tb_L_depends_57 hk8 ih h)
def fb_L_depends_8 : Nat → Option Nat → Int32 → Int32 → Int32 → Int32 → ax_S → Option (Int32 × ax_S)
  | 0, _, _, _, _, _, _ => none
  | n + 1, a0, a1, a3, a4, a5, s =>
    if a1 ≤ a5 then
      if ((a4 >>> (a3 &&& 31)) &&& (1)) = (1) then
        some ((1), s)
      else
        some ((0), s)
    else
      fb_L_depends_17 (fb_L_depends_8 n) 10000 a0 a1 a3 a4 a5 (0) s
set_option maxRecDepth 100000 in
set_option maxHeartbeats 4000000 in
theorem tb_L_depends_8 {q : Int32 × ax_S} : ∀ (n : Nat) (a0 : Option Nat) (a1 : Int32) (a3 : Int32) (a4 : Int32) (a5 : Int32) (s : ax_S) (h : fb_L_depends_8 n a0 a1 a3 a4 a5 s = some q), AW mm_L_depends 0 0 0 8 [(some (av_r a0)), (some (av_i a1)), none, (some (av_i a3)), (some (av_i a4)), (some (av_i a5)), none] [] s (some (av_i q.1), q.2) := by
  intro n
  induction n with
  | zero =>
    intro a0 a1 a3 a4 a5 s h
    exact ax_no h
  | succ n ih =>
    intro a0 a1 a3 a4 a5 s h
    unfold fb_L_depends_8 at h
    refine ax_iload (i := 5) dL_depends_8 rfl ?_
    refine ax_iload_n (i := 1) dL_depends_10 rfl rfl ?_
    refine ax_icmp_ge (tgt := 72) dL_depends_11 (by decide) (fun c7 => ?_) (fun c7 => ?_)
    · rw [if_pos c7] at h
      refine ax_iload (i := 4) dL_depends_72 rfl ?_
      refine ax_iload_n (i := 3) dL_depends_74 rfl rfl ?_
      refine ax_ishr dL_depends_75 ?_
      refine ax_iconst (v := (1)) dL_depends_76 rfl ?_
      refine ax_iand dL_depends_77 ?_
      refine ax_iconst (v := (1)) dL_depends_78 rfl ?_
      refine ax_icmp_ne (tgt := 86) dL_depends_79 (by decide) (fun c8 => ?_) (fun c8 => ?_)
      · rw [if_neg c8] at h
        refine ax_iconst (v := (0)) dL_depends_86 rfl ?_
        exact ax_reti dL_depends_87 h
      · rw [if_pos c8] at h
        refine ax_iconst (v := (1)) dL_depends_82 rfl ?_
        refine ax_goto (tgt := 87) dL_depends_83 (by decide) ?_
        exact ax_reti dL_depends_87 h
    · rw [if_neg c7] at h
      refine ax_iconst (v := (0)) dL_depends_14 rfl ?_
      refine ax_istore (i := 6) (L2 := [some (av_r a0), some (av_i a1), none, some (av_i a3), some (av_i a4), some (av_i a5), some (av_i (0))]) dL_depends_15 (by decide) rfl rfl ?_
      exact ax_less (L' := [(some (av_r a0)), (some (av_i a1)), none, (some (av_i a3)), (some (av_i a4)), (some (av_i a5)), (some (av_i (0)))]) ⟨rfl, rfl, rfl, rfl, rfl, rfl, trivial⟩ (tb_L_depends_17 ih _ _ _ _ _ _ _ _ h)
def fi_L_depends (a0 : Option Nat) (a1 : Int32) (a2 : Int32) (a3 : Int32) (s : ax_S) : Option (Int32 × ax_S) :=
  ax_bd (((1) <<< (a2 &&& 31))) fun v9 =>
  fb_L_depends_8 10000 a0 a1 a3 v9 (0) s
set_option maxRecDepth 100000 in
set_option maxHeartbeats 4000000 in
theorem tw_L_depends {q : Int32 × ax_S} {a0 : Option Nat} {a1 : Int32} {a2 : Int32} {a3 : Int32} {s : ax_S} (h : fi_L_depends a0 a1 a2 a3 s = some q) : AW mm_L_depends 0 0 0 0 [some (av_r a0), some (av_i a1), some (av_i a2), some (av_i a3), none, none, none] [] s (some (av_i q.1), q.2) := by
  unfold fi_L_depends at h
  refine ax_iconst (v := (1)) dL_depends_0 rfl ?_
  refine ax_iload_n (i := 2) dL_depends_1 rfl rfl ?_
  refine ax_ishl dL_depends_2 ?_
  refine ax_bdI h (fun v9 h => ?_)
  refine ax_istore (i := 4) (L2 := [some (av_r a0), some (av_i a1), some (av_i a2), some (av_i a3), some (av_i v9), none, none]) dL_depends_3 (by decide) rfl rfl ?_
  refine ax_iconst (v := (0)) dL_depends_5 rfl ?_
  refine ax_istore (i := 5) (L2 := [some (av_r a0), some (av_i a1), some (av_i a2), some (av_i a3), some (av_i v9), some (av_i (0)), none]) dL_depends_6 (by decide) rfl rfl ?_
  exact ax_less (L' := [(some (av_r a0)), (some (av_i a1)), none, (some (av_i a3)), (some (av_i v9)), (some (av_i (0))), none]) ⟨rfl, rfl, rfl, rfl, rfl, trivial⟩ (tb_L_depends_8  _ _ _ _ _ _ _ h)
def fn_L_depends (a0 : Option Nat) (a1 : Int32) (a2 : Int32) (a3 : Int32) (s : ax_S) : Option (Int32 × ax_S) := ax_bz (fi_L_depends a0 a1 a2 a3 s)
set_option maxRecDepth 100000 in
set_option maxHeartbeats 4000000 in
theorem th_L_depends {q : Int32 × ax_S} {a0 : Option Nat} {a1 : Int32} {a2 : Int32} {a3 : Int32} {s : ax_S} (h : fn_L_depends a0 a1 a2 a3 s = some q) : AC mm_L_depends yL_depends 0 0 0 [av_r a0, av_i a1, av_i a2, av_i a3] s (some (av_i q.1), q.2) := by
  obtain ⟨h, hz⟩ := ax_bz_of h
  exact ax_met (L0 := [some (av_r a0), some (av_i a1), some (av_i a2), some (av_i a3), none, none, none]) (by decide +kernel) rfl (fun h => absurd h (by decide)) ⟨rfl, rfl, rfl, rfl, trivial⟩ (Nat.le_of_ble_eq_true rfl) hz (tw_L_depends h)
/-! L_refuses -/
abbrev mm_L_refuses : ax_M := (RL, cL_refuses, (some .boolean), 5, false)
def fb_L_refuses_331 (a0 : Option Nat) (a2 : Int64) (b0 : Int32) (s : ax_S) : Option (Int32 × ax_S) :=
  if b0 = 0 then
    some ((0), s)
  else
    (ax_sh s 6 a0).bind fun w2 =>
    (fn_X9_checksum a0 s).bind fun q3 =>
    if (lg_cmp q3.1 a2) = 0 then
      some ((1), q3.2)
    else
      some ((0), q3.2)
set_option maxRecDepth 100000 in
set_option maxHeartbeats 4000000 in
theorem tb_L_refuses_331 {q : Int32 × ax_S} {a0 : Option Nat} {a2 : Int64} {b0 : Int32} {s : ax_S} (h : fb_L_refuses_331 a0 a2 b0 s = some q) : AW mm_L_refuses 72 0 0 331 [(some (av_r a0)), none, (some (av_l a2)), none, none] [av_i b0] s (some (av_i q.1), q.2) := by
  unfold fb_L_refuses_331 at h
  refine ax_istore (i := 4) (L2 := [some (av_r a0), none, some (av_l a2), none, some (av_i b0)]) dL_refuses_331 (by decide) rfl rfl ?_
  refine ax_iload (i := 4) dL_refuses_333 rfl ?_
  refine ax_if_eq (tgt := 351) dL_refuses_335 (by decide) (fun c1 => ?_) (fun c1 => ?_)
  · rw [if_pos c1] at h
    refine ax_iconst (v := (0)) dL_refuses_351 rfl ?_
    exact ax_reti dL_refuses_352 h
  · rw [if_neg c1] at h
    refine ax_aload_n (i := 0) dL_refuses_338 rfl rfl ?_
    obtain ⟨w2, gw2, h⟩ := Option.bind_eq_some_iff.mp h
    obtain ⟨q3, gq3, h⟩ := Option.bind_eq_some_iff.mp h
    refine ax_cV (As := []) (t := 6) dL_refuses_339 gw2 (th_X9_checksum gq3) rfl (And.intro wd_605 wd_18) wd_602 wd_603 wd_604 cy_X9_checksum (by omega) (by decide) (Nat.le_of_ble_eq_true rfl) rfl ?_
    refine ax_lload_n (i := 2) dL_refuses_342 rfl rfl ?_
    refine ax_lcmp dL_refuses_343 ?_
    refine ax_if_ne (tgt := 351) dL_refuses_344 (by decide) (fun c4 => ?_) (fun c4 => ?_)
    · rw [if_neg c4] at h
      refine ax_iconst (v := (0)) dL_refuses_351 rfl ?_
      exact ax_reti dL_refuses_352 h
    · rw [if_pos c4] at h
      refine ax_iconst (v := (1)) dL_refuses_347 rfl ?_
      refine ax_goto (tgt := 352) dL_refuses_348 (by decide) ?_
      exact ax_reti dL_refuses_352 h
def fb_L_refuses_330 (a0 : Option Nat) (a2 : Int64) (s : ax_S) : Option (Int32 × ax_S) :=
  fb_L_refuses_331 a0 a2 (0) s
set_option maxRecDepth 100000 in
set_option maxHeartbeats 4000000 in
theorem tb_L_refuses_330 {q : Int32 × ax_S} {a0 : Option Nat} {a2 : Int64} {s : ax_S} (h : fb_L_refuses_330 a0 a2 s = some q) : AW mm_L_refuses 72 0 0 330 [(some (av_r a0)), none, (some (av_l a2)), none, none] [] s (some (av_i q.1), q.2) := by
  unfold fb_L_refuses_330 at h
  refine ax_iconst (v := (0)) dL_refuses_330 rfl ?_
  exact ax_less (L' := [(some (av_r a0)), none, (some (av_l a2)), none, none]) ⟨rfl, rfl, trivial⟩ (tb_L_refuses_331  h)
def fb_L_refuses_150 (a0 : Option Nat) (a1 : Int32) (a2 : Int64) (b0 : Int32) (s : ax_S) : Option (Int32 × ax_S) :=
  if b0 = 0 then
    fb_L_refuses_330 a0 a2 s
  else
    (ax_sh s 6 a0).bind fun w6 =>
    (fn_X9_value a0 (0) (-1) (0) (0) (0) s).bind fun q7 =>
    if q7.1 = (-1001) then
      (ax_sh q7.2 6 a0).bind fun w9 =>
      (fn_X9_value a0 (0) (0) (8) (0) (0) q7.2).bind fun q10 =>
      if q10.1 = (-1001) then
        (ax_sh q10.2 6 a0).bind fun w12 =>
        (fn_X9_value a0 (0) (0) (0) (4) (0) q10.2).bind fun q13 =>
        if q13.1 = (-1001) then
          (ax_sh q13.2 6 a0).bind fun w15 =>
          (fn_X9_value a0 (0) (0) (0) (0) (3) q13.2).bind fun q16 =>
          if q16.1 = (-1001) then
            (ax_sh q16.2 6 a0).bind fun w18 =>
            (fn_X9_scope a0 a1 (0) (0) (0) q16.2).bind fun q19 =>
            if q19.1 = (-1001) then
              (ax_sh q19.2 6 a0).bind fun w21 =>
              (fn_X9_sum a0 (0) (0) (3) (0) q19.2).bind fun q22 =>
              if q22.1 = (-1001) then
                (ax_sh q22.2 6 a0).bind fun w24 =>
                (fn_X9_compare a0 (0) a1 (0) q22.2).bind fun q25 =>
                if q25.1 = (-1001) then
                  (ax_sh q25.2 6 a0).bind fun w27 =>
                  (fn_X9_setRoom a0 (0) q25.2).bind fun q28 =>
                  if q28.1 = (-1002) then
                    (ax_sh q28.2 6 a0).bind fun w30 =>
                    (fn_X9_isCached a0 (-1) (0) q28.2).bind fun q31 =>
                    if q31.1 = (-1001) then
                      (ax_sh q31.2 6 a0).bind fun w33 =>
                      (fn_X9_count a0 (-1) q31.2).bind fun q34 =>
                      if q34.1 = (-1001) then
                        (ax_sh q34.2 6 a0).bind fun w36 =>
                        (fn_X9_append a0 (-1) q34.2).bind fun q37 =>
                        if q37.1 = (-1002) then
                          (ax_sh q37.2 6 a0).bind fun w39 =>
                          (fn_X9_save a0 (2) q37.2).bind fun q40 =>
                          if q40.1 = (-1001) then
                            (ax_sh q40.2 6 a0).bind fun w42 =>
                            (fn_X9_restore a0 (-1) q40.2).bind fun q43 =>
                            if q43.1 = (-1001) then
                              fb_L_refuses_331 a0 a2 (1) q43.2
                            else
                              fb_L_refuses_330 a0 a2 q43.2
                          else
                            fb_L_refuses_330 a0 a2 q40.2
                        else
                          fb_L_refuses_330 a0 a2 q37.2
                      else
                        fb_L_refuses_330 a0 a2 q34.2
                    else
                      fb_L_refuses_330 a0 a2 q31.2
                  else
                    fb_L_refuses_330 a0 a2 q28.2
                else
                  fb_L_refuses_330 a0 a2 q25.2
              else
                fb_L_refuses_330 a0 a2 q22.2
            else
              fb_L_refuses_330 a0 a2 q19.2
          else
            fb_L_refuses_330 a0 a2 q16.2
        else
          fb_L_refuses_330 a0 a2 q13.2
      else
        fb_L_refuses_330 a0 a2 q10.2
    else
      fb_L_refuses_330 a0 a2 q7.2
set_option maxRecDepth 100000 in
set_option maxHeartbeats 4000000 in
theorem tb_L_refuses_150 {q : Int32 × ax_S} {a0 : Option Nat} {a1 : Int32} {a2 : Int64} {b0 : Int32} {s : ax_S} (h : fb_L_refuses_150 a0 a1 a2 b0 s = some q) : AW mm_L_refuses 72 0 0 150 [(some (av_r a0)), (some (av_i a1)), (some (av_l a2)), none, none] [av_i b0] s (some (av_i q.1), q.2) := by
  unfold fb_L_refuses_150 at h
  refine ax_istore (i := 4) (L2 := [some (av_r a0), some (av_i a1), some (av_l a2), none, some (av_i b0)]) dL_refuses_150 (by decide) rfl rfl ?_
  refine ax_iload (i := 4) dL_refuses_152 rfl ?_
  refine ax_if_eq (tgt := 330) dL_refuses_154 (by decide) (fun c5 => ?_) (fun c5 => ?_)
  · rw [if_pos c5] at h
    exact ax_less (L' := [(some (av_r a0)), none, (some (av_l a2)), none, none]) ⟨rfl, rfl, trivial⟩ (tb_L_refuses_330  h)
  · rw [if_neg c5] at h
    refine ax_aload_n (i := 0) dL_refuses_157 rfl rfl ?_
    refine ax_iconst (v := (0)) dL_refuses_158 rfl ?_
    refine ax_iconst (v := (-1)) dL_refuses_159 rfl ?_
    refine ax_iconst (v := (0)) dL_refuses_160 rfl ?_
    refine ax_iconst (v := (0)) dL_refuses_161 rfl ?_
    refine ax_iconst (v := (0)) dL_refuses_162 rfl ?_
    obtain ⟨w6, gw6, h⟩ := Option.bind_eq_some_iff.mp h
    obtain ⟨q7, gq7, h⟩ := Option.bind_eq_some_iff.mp h
    refine ax_cV (As := [av_i (0), av_i (-1), av_i (0), av_i (0), av_i (0)]) (t := 6) dL_refuses_163 gw6 (th_X9_value gq7) rfl (And.intro wd_676 wd_18) wd_673 wd_674 wd_675 cy_X9_value (by omega) (by decide) (Nat.le_of_ble_eq_true rfl) rfl ?_
    refine ax_sipush (v := (-1001)) dL_refuses_166 rfl ?_
    refine ax_icmp_ne (tgt := 330) dL_refuses_169 (by decide) (fun c8 => ?_) (fun c8 => ?_)
    · rw [if_neg c8] at h
      exact ax_less (L' := [(some (av_r a0)), none, (some (av_l a2)), none, none]) ⟨rfl, rfl, trivial⟩ (tb_L_refuses_330  h)
    · rw [if_pos c8] at h
      refine ax_aload_n (i := 0) dL_refuses_172 rfl rfl ?_
      refine ax_iconst (v := (0)) dL_refuses_173 rfl ?_
      refine ax_iconst (v := (0)) dL_refuses_174 rfl ?_
      refine ax_bipush (v := (8)) dL_refuses_175 rfl ?_
      refine ax_iconst (v := (0)) dL_refuses_177 rfl ?_
      refine ax_iconst (v := (0)) dL_refuses_178 rfl ?_
      obtain ⟨w9, gw9, h⟩ := Option.bind_eq_some_iff.mp h
      obtain ⟨q10, gq10, h⟩ := Option.bind_eq_some_iff.mp h
      refine ax_cV (As := [av_i (0), av_i (0), av_i (8), av_i (0), av_i (0)]) (t := 6) dL_refuses_179 gw9 (th_X9_value gq10) rfl (And.intro wd_676 wd_18) wd_673 wd_674 wd_675 cy_X9_value (by omega) (by decide) (Nat.le_of_ble_eq_true rfl) rfl ?_
      refine ax_sipush (v := (-1001)) dL_refuses_182 rfl ?_
      refine ax_icmp_ne (tgt := 330) dL_refuses_185 (by decide) (fun c11 => ?_) (fun c11 => ?_)
      · rw [if_neg c11] at h
        exact ax_less (L' := [(some (av_r a0)), none, (some (av_l a2)), none, none]) ⟨rfl, rfl, trivial⟩ (tb_L_refuses_330  h)
      · rw [if_pos c11] at h
        refine ax_aload_n (i := 0) dL_refuses_188 rfl rfl ?_
        refine ax_iconst (v := (0)) dL_refuses_189 rfl ?_
        refine ax_iconst (v := (0)) dL_refuses_190 rfl ?_
        refine ax_iconst (v := (0)) dL_refuses_191 rfl ?_
        refine ax_iconst (v := (4)) dL_refuses_192 rfl ?_
        refine ax_iconst (v := (0)) dL_refuses_193 rfl ?_
        obtain ⟨w12, gw12, h⟩ := Option.bind_eq_some_iff.mp h
        obtain ⟨q13, gq13, h⟩ := Option.bind_eq_some_iff.mp h
        refine ax_cV (As := [av_i (0), av_i (0), av_i (0), av_i (4), av_i (0)]) (t := 6) dL_refuses_194 gw12 (th_X9_value gq13) rfl (And.intro wd_676 wd_18) wd_673 wd_674 wd_675 cy_X9_value (by omega) (by decide) (Nat.le_of_ble_eq_true rfl) rfl ?_
        refine ax_sipush (v := (-1001)) dL_refuses_197 rfl ?_
        refine ax_icmp_ne (tgt := 330) dL_refuses_200 (by decide) (fun c14 => ?_) (fun c14 => ?_)
        · rw [if_neg c14] at h
          exact ax_less (L' := [(some (av_r a0)), none, (some (av_l a2)), none, none]) ⟨rfl, rfl, trivial⟩ (tb_L_refuses_330  h)
        · rw [if_pos c14] at h
          refine ax_aload_n (i := 0) dL_refuses_203 rfl rfl ?_
          refine ax_iconst (v := (0)) dL_refuses_204 rfl ?_
          refine ax_iconst (v := (0)) dL_refuses_205 rfl ?_
          refine ax_iconst (v := (0)) dL_refuses_206 rfl ?_
          refine ax_iconst (v := (0)) dL_refuses_207 rfl ?_
          refine ax_iconst (v := (3)) dL_refuses_208 rfl ?_
          obtain ⟨w15, gw15, h⟩ := Option.bind_eq_some_iff.mp h
          obtain ⟨q16, gq16, h⟩ := Option.bind_eq_some_iff.mp h
          refine ax_cV (As := [av_i (0), av_i (0), av_i (0), av_i (0), av_i (3)]) (t := 6) dL_refuses_209 gw15 (th_X9_value gq16) rfl (And.intro wd_676 wd_18) wd_673 wd_674 wd_675 cy_X9_value (by omega) (by decide) (Nat.le_of_ble_eq_true rfl) rfl ?_
          refine ax_sipush (v := (-1001)) dL_refuses_212 rfl ?_
          refine ax_icmp_ne (tgt := 330) dL_refuses_215 (by decide) (fun c17 => ?_) (fun c17 => ?_)
          · rw [if_neg c17] at h
            exact ax_less (L' := [(some (av_r a0)), none, (some (av_l a2)), none, none]) ⟨rfl, rfl, trivial⟩ (tb_L_refuses_330  h)
          · rw [if_pos c17] at h
            refine ax_aload_n (i := 0) dL_refuses_218 rfl rfl ?_
            refine ax_iload_n (i := 1) dL_refuses_219 rfl rfl ?_
            refine ax_iconst (v := (0)) dL_refuses_220 rfl ?_
            refine ax_iconst (v := (0)) dL_refuses_221 rfl ?_
            refine ax_iconst (v := (0)) dL_refuses_222 rfl ?_
            obtain ⟨w18, gw18, h⟩ := Option.bind_eq_some_iff.mp h
            obtain ⟨q19, gq19, h⟩ := Option.bind_eq_some_iff.mp h
            refine ax_cV (As := [av_i a1, av_i (0), av_i (0), av_i (0)]) (t := 6) dL_refuses_223 gw18 (th_X9_scope gq19) rfl (And.intro wd_713 wd_18) wd_710 wd_711 wd_712 cy_X9_scope (by omega) (by decide) (Nat.le_of_ble_eq_true rfl) rfl ?_
            refine ax_sipush (v := (-1001)) dL_refuses_226 rfl ?_
            refine ax_icmp_ne (tgt := 330) dL_refuses_229 (by decide) (fun c20 => ?_) (fun c20 => ?_)
            · rw [if_neg c20] at h
              exact ax_less (L' := [(some (av_r a0)), none, (some (av_l a2)), none, none]) ⟨rfl, rfl, trivial⟩ (tb_L_refuses_330  h)
            · rw [if_pos c20] at h
              refine ax_aload_n (i := 0) dL_refuses_232 rfl rfl ?_
              refine ax_iconst (v := (0)) dL_refuses_233 rfl ?_
              refine ax_iconst (v := (0)) dL_refuses_234 rfl ?_
              refine ax_iconst (v := (3)) dL_refuses_235 rfl ?_
              refine ax_iconst (v := (0)) dL_refuses_236 rfl ?_
              obtain ⟨w21, gw21, h⟩ := Option.bind_eq_some_iff.mp h
              obtain ⟨q22, gq22, h⟩ := Option.bind_eq_some_iff.mp h
              refine ax_cV (As := [av_i (0), av_i (0), av_i (3), av_i (0)]) (t := 6) dL_refuses_237 gw21 (th_X9_sum gq22) rfl (And.intro wd_683 wd_18) wd_680 wd_681 wd_682 cy_X9_sum (by omega) (by decide) (Nat.le_of_ble_eq_true rfl) rfl ?_
              refine ax_sipush (v := (-1001)) dL_refuses_240 rfl ?_
              refine ax_icmp_ne (tgt := 330) dL_refuses_243 (by decide) (fun c23 => ?_) (fun c23 => ?_)
              · rw [if_neg c23] at h
                exact ax_less (L' := [(some (av_r a0)), none, (some (av_l a2)), none, none]) ⟨rfl, rfl, trivial⟩ (tb_L_refuses_330  h)
              · rw [if_pos c23] at h
                refine ax_aload_n (i := 0) dL_refuses_246 rfl rfl ?_
                refine ax_iconst (v := (0)) dL_refuses_247 rfl ?_
                refine ax_iload_n (i := 1) dL_refuses_248 rfl rfl ?_
                refine ax_iconst (v := (0)) dL_refuses_249 rfl ?_
                obtain ⟨w24, gw24, h⟩ := Option.bind_eq_some_iff.mp h
                obtain ⟨q25, gq25, h⟩ := Option.bind_eq_some_iff.mp h
                refine ax_cV (As := [av_i (0), av_i a1, av_i (0)]) (t := 6) dL_refuses_250 gw24 (th_X9_compare gq25) rfl (And.intro wd_354 wd_18) wd_351 wd_352 wd_353 cy_X9_compare (by omega) (by decide) (Nat.le_of_ble_eq_true rfl) rfl ?_
                refine ax_sipush (v := (-1001)) dL_refuses_253 rfl ?_
                refine ax_icmp_ne (tgt := 330) dL_refuses_256 (by decide) (fun c26 => ?_) (fun c26 => ?_)
                · rw [if_neg c26] at h
                  exact ax_less (L' := [(some (av_r a0)), none, (some (av_l a2)), none, none]) ⟨rfl, rfl, trivial⟩ (tb_L_refuses_330  h)
                · rw [if_pos c26] at h
                  refine ax_aload_n (i := 0) dL_refuses_259 rfl rfl ?_
                  refine ax_iconst (v := (0)) dL_refuses_260 rfl ?_
                  obtain ⟨w27, gw27, h⟩ := Option.bind_eq_some_iff.mp h
                  obtain ⟨q28, gq28, h⟩ := Option.bind_eq_some_iff.mp h
                  refine ax_cV (As := [av_i (0)]) (t := 6) dL_refuses_261 gw27 (th_X9_setRoom gq28) rfl (And.intro wd_424 wd_18) wd_421 wd_422 wd_423 cy_X9_setRoom (by omega) (by decide) (Nat.le_of_ble_eq_true rfl) rfl ?_
                  refine ax_sipush (v := (-1002)) dL_refuses_264 rfl ?_
                  refine ax_icmp_ne (tgt := 330) dL_refuses_267 (by decide) (fun c29 => ?_) (fun c29 => ?_)
                  · rw [if_neg c29] at h
                    exact ax_less (L' := [(some (av_r a0)), none, (some (av_l a2)), none, none]) ⟨rfl, rfl, trivial⟩ (tb_L_refuses_330  h)
                  · rw [if_pos c29] at h
                    refine ax_aload_n (i := 0) dL_refuses_270 rfl rfl ?_
                    refine ax_iconst (v := (-1)) dL_refuses_271 rfl ?_
                    refine ax_iconst (v := (0)) dL_refuses_272 rfl ?_
                    obtain ⟨w30, gw30, h⟩ := Option.bind_eq_some_iff.mp h
                    obtain ⟨q31, gq31, h⟩ := Option.bind_eq_some_iff.mp h
                    refine ax_cV (As := [av_i (-1), av_i (0)]) (t := 6) dL_refuses_273 gw30 (th_X9_isCached gq31) rfl (And.intro wd_640 wd_18) wd_700 wd_638 wd_639 cy_X9_isCached (by omega) (by decide) (Nat.le_of_ble_eq_true rfl) rfl ?_
                    refine ax_sipush (v := (-1001)) dL_refuses_276 rfl ?_
                    refine ax_icmp_ne (tgt := 330) dL_refuses_279 (by decide) (fun c32 => ?_) (fun c32 => ?_)
                    · rw [if_neg c32] at h
                      exact ax_less (L' := [(some (av_r a0)), none, (some (av_l a2)), none, none]) ⟨rfl, rfl, trivial⟩ (tb_L_refuses_330  h)
                    · rw [if_pos c32] at h
                      refine ax_aload_n (i := 0) dL_refuses_282 rfl rfl ?_
                      refine ax_iconst (v := (-1)) dL_refuses_283 rfl ?_
                      obtain ⟨w33, gw33, h⟩ := Option.bind_eq_some_iff.mp h
                      obtain ⟨q34, gq34, h⟩ := Option.bind_eq_some_iff.mp h
                      refine ax_cV (As := [av_i (-1)]) (t := 6) dL_refuses_284 gw33 (th_X9_count gq34) rfl (And.intro wd_432 wd_18) wd_429 wd_430 wd_431 cy_X9_count (by omega) (by decide) (Nat.le_of_ble_eq_true rfl) rfl ?_
                      refine ax_sipush (v := (-1001)) dL_refuses_287 rfl ?_
                      refine ax_icmp_ne (tgt := 330) dL_refuses_290 (by decide) (fun c35 => ?_) (fun c35 => ?_)
                      · rw [if_neg c35] at h
                        exact ax_less (L' := [(some (av_r a0)), none, (some (av_l a2)), none, none]) ⟨rfl, rfl, trivial⟩ (tb_L_refuses_330  h)
                      · rw [if_pos c35] at h
                        refine ax_aload_n (i := 0) dL_refuses_293 rfl rfl ?_
                        refine ax_iconst (v := (-1)) dL_refuses_294 rfl ?_
                        obtain ⟨w36, gw36, h⟩ := Option.bind_eq_some_iff.mp h
                        obtain ⟨q37, gq37, h⟩ := Option.bind_eq_some_iff.mp h
                        refine ax_cV (As := [av_i (-1)]) (t := 6) dL_refuses_295 gw36 (th_X9_append gq37) rfl (And.intro wd_720 wd_18) wd_717 wd_718 wd_719 cy_X9_append (by omega) (by decide) (Nat.le_of_ble_eq_true rfl) rfl ?_
                        refine ax_sipush (v := (-1002)) dL_refuses_298 rfl ?_
                        refine ax_icmp_ne (tgt := 330) dL_refuses_301 (by decide) (fun c38 => ?_) (fun c38 => ?_)
                        · rw [if_neg c38] at h
                          exact ax_less (L' := [(some (av_r a0)), none, (some (av_l a2)), none, none]) ⟨rfl, rfl, trivial⟩ (tb_L_refuses_330  h)
                        · rw [if_pos c38] at h
                          refine ax_aload_n (i := 0) dL_refuses_304 rfl rfl ?_
                          refine ax_iconst (v := (2)) dL_refuses_305 rfl ?_
                          obtain ⟨w39, gw39, h⟩ := Option.bind_eq_some_iff.mp h
                          obtain ⟨q40, gq40, h⟩ := Option.bind_eq_some_iff.mp h
                          refine ax_cV (As := [av_i (2)]) (t := 6) dL_refuses_306 gw39 (th_X9_save gq40) rfl (And.intro wd_592 wd_18) wd_589 wd_590 wd_591 cy_X9_save (by omega) (by decide) (Nat.le_of_ble_eq_true rfl) rfl ?_
                          refine ax_sipush (v := (-1001)) dL_refuses_309 rfl ?_
                          refine ax_icmp_ne (tgt := 330) dL_refuses_312 (by decide) (fun c41 => ?_) (fun c41 => ?_)
                          · rw [if_neg c41] at h
                            exact ax_less (L' := [(some (av_r a0)), none, (some (av_l a2)), none, none]) ⟨rfl, rfl, trivial⟩ (tb_L_refuses_330  h)
                          · rw [if_pos c41] at h
                            refine ax_aload_n (i := 0) dL_refuses_315 rfl rfl ?_
                            refine ax_iconst (v := (-1)) dL_refuses_316 rfl ?_
                            obtain ⟨w42, gw42, h⟩ := Option.bind_eq_some_iff.mp h
                            obtain ⟨q43, gq43, h⟩ := Option.bind_eq_some_iff.mp h
                            refine ax_cV (As := [av_i (-1)]) (t := 6) dL_refuses_317 gw42 (th_X9_restore gq43) rfl (And.intro wd_601 wd_18) wd_598 wd_599 wd_600 cy_X9_restore (by omega) (by decide) (Nat.le_of_ble_eq_true rfl) rfl ?_
                            refine ax_sipush (v := (-1001)) dL_refuses_320 rfl ?_
                            refine ax_icmp_ne (tgt := 330) dL_refuses_323 (by decide) (fun c44 => ?_) (fun c44 => ?_)
                            · rw [if_neg c44] at h
                              exact ax_less (L' := [(some (av_r a0)), none, (some (av_l a2)), none, none]) ⟨rfl, rfl, trivial⟩ (tb_L_refuses_330  h)
                            · rw [if_pos c44] at h
                              refine ax_iconst (v := (1)) dL_refuses_326 rfl ?_
                              refine ax_goto (tgt := 331) dL_refuses_327 (by decide) ?_
                              exact ax_less (L' := [(some (av_r a0)), none, (some (av_l a2)), none, none]) ⟨rfl, rfl, trivial⟩ (tb_L_refuses_331  h)
def fb_L_refuses_149 (a0 : Option Nat) (a1 : Int32) (a2 : Int64) (s : ax_S) : Option (Int32 × ax_S) :=
  fb_L_refuses_150 a0 a1 a2 (0) s
set_option maxRecDepth 100000 in
set_option maxHeartbeats 4000000 in
theorem tb_L_refuses_149 {q : Int32 × ax_S} {a0 : Option Nat} {a1 : Int32} {a2 : Int64} {s : ax_S} (h : fb_L_refuses_149 a0 a1 a2 s = some q) : AW mm_L_refuses 72 0 0 149 [(some (av_r a0)), (some (av_i a1)), (some (av_l a2)), none, none] [] s (some (av_i q.1), q.2) := by
  unfold fb_L_refuses_149 at h
  refine ax_iconst (v := (0)) dL_refuses_149 rfl ?_
  exact ax_less (L' := [(some (av_r a0)), (some (av_i a1)), (some (av_l a2)), none, none]) ⟨rfl, rfl, rfl, trivial⟩ (tb_L_refuses_150  h)
def fi_L_refuses (a0 : Option Nat) (a1 : Int32) (s : ax_S) : Option (Int32 × ax_S) :=
  (ax_sh s 6 a0).bind fun w45 =>
  (fn_X9_checksum a0 s).bind fun q46 =>
  (ax_sh q46.2 6 a0).bind fun w47 =>
  (fn_X9_addNode a0 (-1) q46.2).bind fun q48 =>
  if q48.1 = (-1002) then
    (ax_sh q48.2 6 a0).bind fun w50 =>
    (fn_X9_connect a0 a1 (0) (0) q48.2).bind fun q51 =>
    if q51.1 = (-1001) then
      (ax_sh q51.2 6 a0).bind fun w53 =>
      (fn_X9_connect a0 (0) (3) (0) q51.2).bind fun q54 =>
      if q54.1 = (-1001) then
        (ax_sh q54.2 6 a0).bind fun w56 =>
        (fn_X9_connect a0 (0) (-1) (-1005) q54.2).bind fun q57 =>
        if q57.1 = (-1001) then
          (ax_sh q57.2 6 a0).bind fun w59 =>
          (fn_X9_set a0 a1 (0) (0) q57.2).bind fun q60 =>
          if q60.1 = (-1001) then
            (ax_sh q60.2 6 a0).bind fun w62 =>
            (fn_X9_set a0 (0) (4) (0) q60.2).bind fun q63 =>
            if q63.1 = (-1001) then
              (ax_sh q63.2 6 a0).bind fun w65 =>
              (fn_X9_setRange a0 (-1) (0) (0) q63.2).bind fun q66 =>
              if q66.1 = (-1001) then
                (ax_sh q66.2 6 a0).bind fun w68 =>
                (fn_X9_setRange a0 (0) (-1) (0) q66.2).bind fun q69 =>
                if q69.1 = (-1002) then
                  (ax_sh q69.2 6 a0).bind fun w71 =>
                  (fn_X9_node a0 (0) (-1) q69.2).bind fun q72 =>
                  if q72.1 = (-1002) then
                    (ax_sh q72.2 6 a0).bind fun w74 =>
                    (fn_X9_input a0 a1 (0) q72.2).bind fun q75 =>
                    if q75.1 = (-1001) then
                      (ax_sh q75.2 6 a0).bind fun w77 =>
                      (fn_X9_parameter a0 (0) (4) q75.2).bind fun q78 =>
                      if q78.1 = (-1001) then
                        fb_L_refuses_150 a0 a1 q46.1 (1) q78.2
                      else
                        fb_L_refuses_149 a0 a1 q46.1 q78.2
                    else
                      fb_L_refuses_149 a0 a1 q46.1 q75.2
                  else
                    fb_L_refuses_149 a0 a1 q46.1 q72.2
                else
                  fb_L_refuses_149 a0 a1 q46.1 q69.2
              else
                fb_L_refuses_149 a0 a1 q46.1 q66.2
            else
              fb_L_refuses_149 a0 a1 q46.1 q63.2
          else
            fb_L_refuses_149 a0 a1 q46.1 q60.2
        else
          fb_L_refuses_149 a0 a1 q46.1 q57.2
      else
        fb_L_refuses_149 a0 a1 q46.1 q54.2
    else
      fb_L_refuses_149 a0 a1 q46.1 q51.2
  else
    fb_L_refuses_149 a0 a1 q46.1 q48.2
set_option maxRecDepth 100000 in
set_option maxHeartbeats 4000000 in
theorem tw_L_refuses {q : Int32 × ax_S} {a0 : Option Nat} {a1 : Int32} {s : ax_S} (h : fi_L_refuses a0 a1 s = some q) : AW mm_L_refuses 72 0 0 0 [some (av_r a0), some (av_i a1), none, none, none] [] s (some (av_i q.1), q.2) := by
  unfold fi_L_refuses at h
  refine ax_aload_n (i := 0) dL_refuses_0 rfl rfl ?_
  obtain ⟨w45, gw45, h⟩ := Option.bind_eq_some_iff.mp h
  obtain ⟨q46, gq46, h⟩ := Option.bind_eq_some_iff.mp h
  refine ax_cV (As := []) (t := 6) dL_refuses_1 gw45 (th_X9_checksum gq46) rfl (And.intro wd_605 wd_18) wd_602 wd_603 wd_604 cy_X9_checksum (by omega) (by decide) (Nat.le_of_ble_eq_true rfl) rfl ?_
  refine ax_lstore_n (i := 2) (L2 := [some (av_r a0), some (av_i a1), some (av_l q46.1), none, none]) dL_refuses_4 rfl (by decide) rfl rfl ?_
  refine ax_aload_n (i := 0) dL_refuses_5 rfl rfl ?_
  refine ax_iconst (v := (-1)) dL_refuses_6 rfl ?_
  obtain ⟨w47, gw47, h⟩ := Option.bind_eq_some_iff.mp h
  obtain ⟨q48, gq48, h⟩ := Option.bind_eq_some_iff.mp h
  refine ax_cV (As := [av_i (-1)]) (t := 6) dL_refuses_7 gw47 (th_X9_addNode gq48) rfl (And.intro wd_658 wd_18) wd_655 wd_656 wd_657 cy_X9_addNode (by omega) (by decide) (Nat.le_of_ble_eq_true rfl) rfl ?_
  refine ax_sipush (v := (-1002)) dL_refuses_10 rfl ?_
  refine ax_icmp_ne (tgt := 149) dL_refuses_13 (by decide) (fun c49 => ?_) (fun c49 => ?_)
  · rw [if_neg c49] at h
    exact ax_less (L' := [(some (av_r a0)), (some (av_i a1)), (some (av_l q46.1)), none, none]) ⟨rfl, rfl, rfl, trivial⟩ (tb_L_refuses_149  h)
  · rw [if_pos c49] at h
    refine ax_aload_n (i := 0) dL_refuses_16 rfl rfl ?_
    refine ax_iload_n (i := 1) dL_refuses_17 rfl rfl ?_
    refine ax_iconst (v := (0)) dL_refuses_18 rfl ?_
    refine ax_iconst (v := (0)) dL_refuses_19 rfl ?_
    obtain ⟨w50, gw50, h⟩ := Option.bind_eq_some_iff.mp h
    obtain ⟨q51, gq51, h⟩ := Option.bind_eq_some_iff.mp h
    refine ax_cV (As := [av_i a1, av_i (0), av_i (0)]) (t := 6) dL_refuses_20 gw50 (th_X9_connect gq51) rfl (And.intro wd_248 wd_18) wd_245 wd_246 wd_247 cy_X9_connect (by omega) (by decide) (Nat.le_of_ble_eq_true rfl) rfl ?_
    refine ax_sipush (v := (-1001)) dL_refuses_23 rfl ?_
    refine ax_icmp_ne (tgt := 149) dL_refuses_26 (by decide) (fun c52 => ?_) (fun c52 => ?_)
    · rw [if_neg c52] at h
      exact ax_less (L' := [(some (av_r a0)), (some (av_i a1)), (some (av_l q46.1)), none, none]) ⟨rfl, rfl, rfl, trivial⟩ (tb_L_refuses_149  h)
    · rw [if_pos c52] at h
      refine ax_aload_n (i := 0) dL_refuses_29 rfl rfl ?_
      refine ax_iconst (v := (0)) dL_refuses_30 rfl ?_
      refine ax_iconst (v := (3)) dL_refuses_31 rfl ?_
      refine ax_iconst (v := (0)) dL_refuses_32 rfl ?_
      obtain ⟨w53, gw53, h⟩ := Option.bind_eq_some_iff.mp h
      obtain ⟨q54, gq54, h⟩ := Option.bind_eq_some_iff.mp h
      refine ax_cV (As := [av_i (0), av_i (3), av_i (0)]) (t := 6) dL_refuses_33 gw53 (th_X9_connect gq54) rfl (And.intro wd_248 wd_18) wd_245 wd_246 wd_247 cy_X9_connect (by omega) (by decide) (Nat.le_of_ble_eq_true rfl) rfl ?_
      refine ax_sipush (v := (-1001)) dL_refuses_36 rfl ?_
      refine ax_icmp_ne (tgt := 149) dL_refuses_39 (by decide) (fun c55 => ?_) (fun c55 => ?_)
      · rw [if_neg c55] at h
        exact ax_less (L' := [(some (av_r a0)), (some (av_i a1)), (some (av_l q46.1)), none, none]) ⟨rfl, rfl, rfl, trivial⟩ (tb_L_refuses_149  h)
      · rw [if_pos c55] at h
        refine ax_aload_n (i := 0) dL_refuses_42 rfl rfl ?_
        refine ax_iconst (v := (0)) dL_refuses_43 rfl ?_
        refine ax_iconst (v := (-1)) dL_refuses_44 rfl ?_
        refine ax_sipush (v := (-1005)) dL_refuses_45 rfl ?_
        obtain ⟨w56, gw56, h⟩ := Option.bind_eq_some_iff.mp h
        obtain ⟨q57, gq57, h⟩ := Option.bind_eq_some_iff.mp h
        refine ax_cV (As := [av_i (0), av_i (-1), av_i (-1005)]) (t := 6) dL_refuses_48 gw56 (th_X9_connect gq57) rfl (And.intro wd_248 wd_18) wd_245 wd_246 wd_247 cy_X9_connect (by omega) (by decide) (Nat.le_of_ble_eq_true rfl) rfl ?_
        refine ax_sipush (v := (-1001)) dL_refuses_51 rfl ?_
        refine ax_icmp_ne (tgt := 149) dL_refuses_54 (by decide) (fun c58 => ?_) (fun c58 => ?_)
        · rw [if_neg c58] at h
          exact ax_less (L' := [(some (av_r a0)), (some (av_i a1)), (some (av_l q46.1)), none, none]) ⟨rfl, rfl, rfl, trivial⟩ (tb_L_refuses_149  h)
        · rw [if_pos c58] at h
          refine ax_aload_n (i := 0) dL_refuses_57 rfl rfl ?_
          refine ax_iload_n (i := 1) dL_refuses_58 rfl rfl ?_
          refine ax_iconst (v := (0)) dL_refuses_59 rfl ?_
          refine ax_iconst (v := (0)) dL_refuses_60 rfl ?_
          obtain ⟨w59, gw59, h⟩ := Option.bind_eq_some_iff.mp h
          obtain ⟨q60, gq60, h⟩ := Option.bind_eq_some_iff.mp h
          refine ax_cV (As := [av_i a1, av_i (0), av_i (0)]) (t := 6) dL_refuses_61 gw59 (th_X9_set gq60) rfl (And.intro wd_319 wd_18) wd_316 wd_317 wd_318 cy_X9_set (by omega) (by decide) (Nat.le_of_ble_eq_true rfl) rfl ?_
          refine ax_sipush (v := (-1001)) dL_refuses_64 rfl ?_
          refine ax_icmp_ne (tgt := 149) dL_refuses_67 (by decide) (fun c61 => ?_) (fun c61 => ?_)
          · rw [if_neg c61] at h
            exact ax_less (L' := [(some (av_r a0)), (some (av_i a1)), (some (av_l q46.1)), none, none]) ⟨rfl, rfl, rfl, trivial⟩ (tb_L_refuses_149  h)
          · rw [if_pos c61] at h
            refine ax_aload_n (i := 0) dL_refuses_70 rfl rfl ?_
            refine ax_iconst (v := (0)) dL_refuses_71 rfl ?_
            refine ax_iconst (v := (4)) dL_refuses_72 rfl ?_
            refine ax_iconst (v := (0)) dL_refuses_73 rfl ?_
            obtain ⟨w62, gw62, h⟩ := Option.bind_eq_some_iff.mp h
            obtain ⟨q63, gq63, h⟩ := Option.bind_eq_some_iff.mp h
            refine ax_cV (As := [av_i (0), av_i (4), av_i (0)]) (t := 6) dL_refuses_74 gw62 (th_X9_set gq63) rfl (And.intro wd_319 wd_18) wd_316 wd_317 wd_318 cy_X9_set (by omega) (by decide) (Nat.le_of_ble_eq_true rfl) rfl ?_
            refine ax_sipush (v := (-1001)) dL_refuses_77 rfl ?_
            refine ax_icmp_ne (tgt := 149) dL_refuses_80 (by decide) (fun c64 => ?_) (fun c64 => ?_)
            · rw [if_neg c64] at h
              exact ax_less (L' := [(some (av_r a0)), (some (av_i a1)), (some (av_l q46.1)), none, none]) ⟨rfl, rfl, rfl, trivial⟩ (tb_L_refuses_149  h)
            · rw [if_pos c64] at h
              refine ax_aload_n (i := 0) dL_refuses_83 rfl rfl ?_
              refine ax_iconst (v := (-1)) dL_refuses_84 rfl ?_
              refine ax_iconst (v := (0)) dL_refuses_85 rfl ?_
              refine ax_iconst (v := (0)) dL_refuses_86 rfl ?_
              obtain ⟨w65, gw65, h⟩ := Option.bind_eq_some_iff.mp h
              obtain ⟨q66, gq66, h⟩ := Option.bind_eq_some_iff.mp h
              refine ax_cV (As := [av_i (-1), av_i (0), av_i (0)]) (t := 6) dL_refuses_87 gw65 (th_X9_setRange gq66) rfl (And.intro wd_342 wd_18) wd_339 wd_340 wd_341 cy_X9_setRange (by omega) (by decide) (Nat.le_of_ble_eq_true rfl) rfl ?_
              refine ax_sipush (v := (-1001)) dL_refuses_90 rfl ?_
              refine ax_icmp_ne (tgt := 149) dL_refuses_93 (by decide) (fun c67 => ?_) (fun c67 => ?_)
              · rw [if_neg c67] at h
                exact ax_less (L' := [(some (av_r a0)), (some (av_i a1)), (some (av_l q46.1)), none, none]) ⟨rfl, rfl, rfl, trivial⟩ (tb_L_refuses_149  h)
              · rw [if_pos c67] at h
                refine ax_aload_n (i := 0) dL_refuses_96 rfl rfl ?_
                refine ax_iconst (v := (0)) dL_refuses_97 rfl ?_
                refine ax_iconst (v := (-1)) dL_refuses_98 rfl ?_
                refine ax_iconst (v := (0)) dL_refuses_99 rfl ?_
                obtain ⟨w68, gw68, h⟩ := Option.bind_eq_some_iff.mp h
                obtain ⟨q69, gq69, h⟩ := Option.bind_eq_some_iff.mp h
                refine ax_cV (As := [av_i (0), av_i (-1), av_i (0)]) (t := 6) dL_refuses_100 gw68 (th_X9_setRange gq69) rfl (And.intro wd_342 wd_18) wd_339 wd_340 wd_341 cy_X9_setRange (by omega) (by decide) (Nat.le_of_ble_eq_true rfl) rfl ?_
                refine ax_sipush (v := (-1002)) dL_refuses_103 rfl ?_
                refine ax_icmp_ne (tgt := 149) dL_refuses_106 (by decide) (fun c70 => ?_) (fun c70 => ?_)
                · rw [if_neg c70] at h
                  exact ax_less (L' := [(some (av_r a0)), (some (av_i a1)), (some (av_l q46.1)), none, none]) ⟨rfl, rfl, rfl, trivial⟩ (tb_L_refuses_149  h)
                · rw [if_pos c70] at h
                  refine ax_aload_n (i := 0) dL_refuses_109 rfl rfl ?_
                  refine ax_iconst (v := (0)) dL_refuses_110 rfl ?_
                  refine ax_iconst (v := (-1)) dL_refuses_111 rfl ?_
                  obtain ⟨w71, gw71, h⟩ := Option.bind_eq_some_iff.mp h
                  obtain ⟨q72, gq72, h⟩ := Option.bind_eq_some_iff.mp h
                  refine ax_cV (As := [av_i (0), av_i (-1)]) (t := 6) dL_refuses_112 gw71 (th_X9_node gq72) rfl (And.intro wd_619 wd_18) wd_664 wd_617 wd_618 cy_X9_node (by omega) (by decide) (Nat.le_of_ble_eq_true rfl) rfl ?_
                  refine ax_sipush (v := (-1002)) dL_refuses_115 rfl ?_
                  refine ax_icmp_ne (tgt := 149) dL_refuses_118 (by decide) (fun c73 => ?_) (fun c73 => ?_)
                  · rw [if_neg c73] at h
                    exact ax_less (L' := [(some (av_r a0)), (some (av_i a1)), (some (av_l q46.1)), none, none]) ⟨rfl, rfl, rfl, trivial⟩ (tb_L_refuses_149  h)
                  · rw [if_pos c73] at h
                    refine ax_aload_n (i := 0) dL_refuses_121 rfl rfl ?_
                    refine ax_iload_n (i := 1) dL_refuses_122 rfl rfl ?_
                    refine ax_iconst (v := (0)) dL_refuses_123 rfl ?_
                    obtain ⟨w74, gw74, h⟩ := Option.bind_eq_some_iff.mp h
                    obtain ⟨q75, gq75, h⟩ := Option.bind_eq_some_iff.mp h
                    refine ax_cV (As := [av_i a1, av_i (0)]) (t := 6) dL_refuses_124 gw74 (th_X9_input gq75) rfl (And.intro wd_630 wd_18) wd_665 wd_628 wd_629 cy_X9_input (by omega) (by decide) (Nat.le_of_ble_eq_true rfl) rfl ?_
                    refine ax_sipush (v := (-1001)) dL_refuses_127 rfl ?_
                    refine ax_icmp_ne (tgt := 149) dL_refuses_130 (by decide) (fun c76 => ?_) (fun c76 => ?_)
                    · rw [if_neg c76] at h
                      exact ax_less (L' := [(some (av_r a0)), (some (av_i a1)), (some (av_l q46.1)), none, none]) ⟨rfl, rfl, rfl, trivial⟩ (tb_L_refuses_149  h)
                    · rw [if_pos c76] at h
                      refine ax_aload_n (i := 0) dL_refuses_133 rfl rfl ?_
                      refine ax_iconst (v := (0)) dL_refuses_134 rfl ?_
                      refine ax_iconst (v := (4)) dL_refuses_135 rfl ?_
                      obtain ⟨w77, gw77, h⟩ := Option.bind_eq_some_iff.mp h
                      obtain ⟨q78, gq78, h⟩ := Option.bind_eq_some_iff.mp h
                      refine ax_cV (As := [av_i (0), av_i (4)]) (t := 6) dL_refuses_136 gw77 (th_X9_parameter gq78) rfl (And.intro wd_635 wd_18) wd_666 wd_633 wd_634 cy_X9_parameter (by omega) (by decide) (Nat.le_of_ble_eq_true rfl) rfl ?_
                      refine ax_sipush (v := (-1001)) dL_refuses_139 rfl ?_
                      refine ax_icmp_ne (tgt := 149) dL_refuses_142 (by decide) (fun c79 => ?_) (fun c79 => ?_)
                      · rw [if_neg c79] at h
                        exact ax_less (L' := [(some (av_r a0)), (some (av_i a1)), (some (av_l q46.1)), none, none]) ⟨rfl, rfl, rfl, trivial⟩ (tb_L_refuses_149  h)
                      · rw [if_pos c79] at h
                        refine ax_iconst (v := (1)) dL_refuses_145 rfl ?_
                        refine ax_goto (tgt := 150) dL_refuses_146 (by decide) ?_
                        exact ax_less (L' := [(some (av_r a0)), (some (av_i a1)), (some (av_l q46.1)), none, none]) ⟨rfl, rfl, rfl, trivial⟩ (tb_L_refuses_150  h)
def fn_L_refuses (a0 : Option Nat) (a1 : Int32) (s : ax_S) : Option (Int32 × ax_S) := ax_bz (fi_L_refuses a0 a1 s)
set_option maxRecDepth 100000 in
set_option maxHeartbeats 4000000 in
theorem th_L_refuses {q : Int32 × ax_S} {a0 : Option Nat} {a1 : Int32} {s : ax_S} (h : fn_L_refuses a0 a1 s = some q) : AC mm_L_refuses yL_refuses 72 0 0 [av_r a0, av_i a1] s (some (av_i q.1), q.2) := by
  obtain ⟨h, hz⟩ := ax_bz_of h
  exact ax_met (L0 := [some (av_r a0), some (av_i a1), none, none, none]) (by decide +kernel) rfl (fun h => absurd h (by decide)) ⟨rfl, rfl, trivial⟩ (Nat.le_of_ble_eq_true rfl) hz (tw_L_refuses h)
/-! L_same -/
abbrev mm_L_same : ax_M := (RL, cL_same, (some .boolean), 12, false)
def fb_L_same_229 (k6 : Option Nat → Int32 → Int32 → Int32 → Int32 → Int32 → ax_S → Option (Int32 × ax_S)) (a0 : Option Nat) (a1 : Int32) (a2 : Int32) (a3 : Int32) (a5 : Int32) (s : ax_S) : Option (Int32 × ax_S) :=
  k6 a0 a1 a2 a3 (0) (a5 + (1)) s
set_option maxRecDepth 100000 in
set_option maxHeartbeats 4000000 in
theorem tb_L_same_229 {q : Int32 × ax_S} {k6 : Option Nat → Int32 → Int32 → Int32 → Int32 → Int32 → ax_S → Option (Int32 × ax_S)} (hk6 : ∀ (a0 : Option Nat) (a1 : Int32) (a2 : Int32) (a3 : Int32) (a4 : Int32) (a5 : Int32) (s : ax_S), k6 a0 a1 a2 a3 a4 a5 s = some q → AW mm_L_same 72 0 0 6 [(some (av_r a0)), (some (av_i a1)), (some (av_i a2)), (some (av_i a3)), (some (av_i a4)), (some (av_i a5)), none, none, none, none, none, none] [] s (some (av_i q.1), q.2)) {a0 : Option Nat} {a1 : Int32} {a2 : Int32} {a3 : Int32} {a5 : Int32} {s : ax_S} (h : fb_L_same_229 k6 a0 a1 a2 a3 a5 s = some q) : AW mm_L_same 72 0 0 229 [(some (av_r a0)), (some (av_i a1)), (some (av_i a2)), (some (av_i a3)), none, (some (av_i a5)), none, none, none, none, none, none] [] s (some (av_i q.1), q.2) := by
  unfold fb_L_same_229 at h
  refine ax_iconst (v := (0)) dL_same_229 rfl ?_
  refine ax_istore (i := 4) (L2 := [some (av_r a0), some (av_i a1), some (av_i a2), some (av_i a3), some (av_i (0)), some (av_i a5), none, none, none, none, none, none]) dL_same_230 (by decide) rfl rfl ?_
  refine ax_iinc (i := 5) (v := (a5 + (1))) (L2 := [some (av_r a0), some (av_i a1), some (av_i a2), some (av_i a3), some (av_i (0)), some (av_i (a5 + (1))), none, none, none, none, none, none]) dL_same_232 rfl rfl (by decide) rfl rfl ?_
  refine ax_goto (tgt := 6) dL_same_235 (by decide) ?_
  exact ax_less (L' := [(some (av_r a0)), (some (av_i a1)), (some (av_i a2)), (some (av_i a3)), (some (av_i (0))), (some (av_i (a5 + (1)))), none, none, none, none, none, none]) ⟨rfl, rfl, rfl, rfl, rfl, rfl, trivial⟩ (hk6 _ _ _ _ _ _ _ h)
def fb_L_same_137 (k6 : Option Nat → Int32 → Int32 → Int32 → Int32 → Int32 → ax_S → Option (Int32 × ax_S)) (a0 : Option Nat) (a1 : Int32) (a2 : Int32) (a3 : Int32) (a5 : Int32) (a6 : Int32) (a7 : Int32) (a8 : Int32) (a9 : Int32) (a10 : Int32) (b0 : Int32) (s : ax_S) : Option (Int32 × ax_S) :=
  if b0 = 0 then
    fb_L_same_229 k6 a0 a1 a2 a3 a5 s
  else
    (ax_sh s 6 a0).bind fun w2 =>
    (fn_X9_save a0 (1) s).bind fun q3 =>
    if q3.1 = a1 then
      (ax_sh q3.2 6 a0).bind fun w5 =>
      (fn_X9_restore a0 (1) q3.2).bind fun q6 =>
      if q6.1 = a1 then
        (ax_sh q6.2 6 a0).bind fun w8 =>
        (fn_X9_count a0 (0) q6.2).bind fun q9 =>
        if q9.1 = 0 then
          (ax_sh q9.2 6 a0).bind fun w11 =>
          (fn_X9_isCached a0 a5 a2 q9.2).bind fun q12 =>
          if q12.1 = 0 then
            (ax_sh q12.2 6 a0).bind fun w14 =>
            (fn_X9_value a0 a5 a2 a6 a7 a8 q12.2).bind fun q15 =>
            if q15.1 = a9 then
              (ax_sh q15.2 6 a0).bind fun w17 =>
              (fn_X9_sum a0 a5 a2 a8 (2) q15.2).bind fun q18 =>
              if q18.1 = a10 then
                (ax_sh q18.2 6 a0).bind fun w20 =>
                (fn_X9_compare a0 a5 a5 a2 q18.2).bind fun q21 =>
                if q21.1 = 0 then
                  k6 a0 a1 a2 a3 (1) (a5 + (1)) q21.2
                else
                  fb_L_same_229 k6 a0 a1 a2 a3 a5 q21.2
              else
                fb_L_same_229 k6 a0 a1 a2 a3 a5 q18.2
            else
              fb_L_same_229 k6 a0 a1 a2 a3 a5 q15.2
          else
            fb_L_same_229 k6 a0 a1 a2 a3 a5 q12.2
        else
          fb_L_same_229 k6 a0 a1 a2 a3 a5 q9.2
      else
        fb_L_same_229 k6 a0 a1 a2 a3 a5 q6.2
    else
      fb_L_same_229 k6 a0 a1 a2 a3 a5 q3.2
set_option maxRecDepth 100000 in
set_option maxHeartbeats 4000000 in
theorem tb_L_same_137 {q : Int32 × ax_S} {k6 : Option Nat → Int32 → Int32 → Int32 → Int32 → Int32 → ax_S → Option (Int32 × ax_S)} (hk6 : ∀ (a0 : Option Nat) (a1 : Int32) (a2 : Int32) (a3 : Int32) (a4 : Int32) (a5 : Int32) (s : ax_S), k6 a0 a1 a2 a3 a4 a5 s = some q → AW mm_L_same 72 0 0 6 [(some (av_r a0)), (some (av_i a1)), (some (av_i a2)), (some (av_i a3)), (some (av_i a4)), (some (av_i a5)), none, none, none, none, none, none] [] s (some (av_i q.1), q.2)) {a0 : Option Nat} {a1 : Int32} {a2 : Int32} {a3 : Int32} {a5 : Int32} {a6 : Int32} {a7 : Int32} {a8 : Int32} {a9 : Int32} {a10 : Int32} {b0 : Int32} {s : ax_S} (h : fb_L_same_137 k6 a0 a1 a2 a3 a5 a6 a7 a8 a9 a10 b0 s = some q) : AW mm_L_same 72 0 0 137 [(some (av_r a0)), (some (av_i a1)), (some (av_i a2)), (some (av_i a3)), none, (some (av_i a5)), (some (av_i a6)), (some (av_i a7)), (some (av_i a8)), (some (av_i a9)), (some (av_i a10)), none] [av_i b0] s (some (av_i q.1), q.2) := by
  unfold fb_L_same_137 at h
  refine ax_istore (i := 4) (L2 := [some (av_r a0), some (av_i a1), some (av_i a2), some (av_i a3), some (av_i b0), some (av_i a5), some (av_i a6), some (av_i a7), some (av_i a8), some (av_i a9), some (av_i a10), none]) dL_same_137 (by decide) rfl rfl ?_
  refine ax_iload (i := 4) dL_same_139 rfl ?_
  refine ax_if_eq (tgt := 229) dL_same_141 (by decide) (fun c1 => ?_) (fun c1 => ?_)
  · rw [if_pos c1] at h
    exact ax_less (L' := [(some (av_r a0)), (some (av_i a1)), (some (av_i a2)), (some (av_i a3)), none, (some (av_i a5)), none, none, none, none, none, none]) ⟨rfl, rfl, rfl, rfl, rfl, trivial⟩ (tb_L_same_229 hk6 h)
  · rw [if_neg c1] at h
    refine ax_aload_n (i := 0) dL_same_144 rfl rfl ?_
    refine ax_iconst (v := (1)) dL_same_145 rfl ?_
    obtain ⟨w2, gw2, h⟩ := Option.bind_eq_some_iff.mp h
    obtain ⟨q3, gq3, h⟩ := Option.bind_eq_some_iff.mp h
    refine ax_cV (As := [av_i (1)]) (t := 6) dL_same_146 gw2 (th_X9_save gq3) rfl (And.intro wd_592 wd_18) wd_589 wd_590 wd_591 cy_X9_save (by omega) (by decide) (Nat.le_of_ble_eq_true rfl) rfl ?_
    refine ax_iload_n (i := 1) dL_same_149 rfl rfl ?_
    refine ax_icmp_ne (tgt := 229) dL_same_150 (by decide) (fun c4 => ?_) (fun c4 => ?_)
    · rw [if_neg c4] at h
      exact ax_less (L' := [(some (av_r a0)), (some (av_i a1)), (some (av_i a2)), (some (av_i a3)), none, (some (av_i a5)), none, none, none, none, none, none]) ⟨rfl, rfl, rfl, rfl, rfl, trivial⟩ (tb_L_same_229 hk6 h)
    · rw [if_pos c4] at h
      refine ax_aload_n (i := 0) dL_same_153 rfl rfl ?_
      refine ax_iconst (v := (1)) dL_same_154 rfl ?_
      obtain ⟨w5, gw5, h⟩ := Option.bind_eq_some_iff.mp h
      obtain ⟨q6, gq6, h⟩ := Option.bind_eq_some_iff.mp h
      refine ax_cV (As := [av_i (1)]) (t := 6) dL_same_155 gw5 (th_X9_restore gq6) rfl (And.intro wd_601 wd_18) wd_598 wd_599 wd_600 cy_X9_restore (by omega) (by decide) (Nat.le_of_ble_eq_true rfl) rfl ?_
      refine ax_iload_n (i := 1) dL_same_158 rfl rfl ?_
      refine ax_icmp_ne (tgt := 229) dL_same_159 (by decide) (fun c7 => ?_) (fun c7 => ?_)
      · rw [if_neg c7] at h
        exact ax_less (L' := [(some (av_r a0)), (some (av_i a1)), (some (av_i a2)), (some (av_i a3)), none, (some (av_i a5)), none, none, none, none, none, none]) ⟨rfl, rfl, rfl, rfl, rfl, trivial⟩ (tb_L_same_229 hk6 h)
      · rw [if_pos c7] at h
        refine ax_aload_n (i := 0) dL_same_162 rfl rfl ?_
        refine ax_iconst (v := (0)) dL_same_163 rfl ?_
        obtain ⟨w8, gw8, h⟩ := Option.bind_eq_some_iff.mp h
        obtain ⟨q9, gq9, h⟩ := Option.bind_eq_some_iff.mp h
        refine ax_cV (As := [av_i (0)]) (t := 6) dL_same_164 gw8 (th_X9_count gq9) rfl (And.intro wd_432 wd_18) wd_429 wd_430 wd_431 cy_X9_count (by omega) (by decide) (Nat.le_of_ble_eq_true rfl) rfl ?_
        refine ax_if_ne (tgt := 229) dL_same_167 (by decide) (fun c10 => ?_) (fun c10 => ?_)
        · rw [if_neg c10] at h
          exact ax_less (L' := [(some (av_r a0)), (some (av_i a1)), (some (av_i a2)), (some (av_i a3)), none, (some (av_i a5)), none, none, none, none, none, none]) ⟨rfl, rfl, rfl, rfl, rfl, trivial⟩ (tb_L_same_229 hk6 h)
        · rw [if_pos c10] at h
          refine ax_aload_n (i := 0) dL_same_170 rfl rfl ?_
          refine ax_iload (i := 5) dL_same_171 rfl ?_
          refine ax_iload_n (i := 2) dL_same_173 rfl rfl ?_
          obtain ⟨w11, gw11, h⟩ := Option.bind_eq_some_iff.mp h
          obtain ⟨q12, gq12, h⟩ := Option.bind_eq_some_iff.mp h
          refine ax_cV (As := [av_i a5, av_i a2]) (t := 6) dL_same_174 gw11 (th_X9_isCached gq12) rfl (And.intro wd_640 wd_18) wd_700 wd_638 wd_639 cy_X9_isCached (by omega) (by decide) (Nat.le_of_ble_eq_true rfl) rfl ?_
          refine ax_if_ne (tgt := 229) dL_same_177 (by decide) (fun c13 => ?_) (fun c13 => ?_)
          · rw [if_neg c13] at h
            exact ax_less (L' := [(some (av_r a0)), (some (av_i a1)), (some (av_i a2)), (some (av_i a3)), none, (some (av_i a5)), none, none, none, none, none, none]) ⟨rfl, rfl, rfl, rfl, rfl, trivial⟩ (tb_L_same_229 hk6 h)
          · rw [if_pos c13] at h
            refine ax_aload_n (i := 0) dL_same_180 rfl rfl ?_
            refine ax_iload (i := 5) dL_same_181 rfl ?_
            refine ax_iload_n (i := 2) dL_same_183 rfl rfl ?_
            refine ax_iload (i := 6) dL_same_184 rfl ?_
            refine ax_iload (i := 7) dL_same_186 rfl ?_
            refine ax_iload (i := 8) dL_same_188 rfl ?_
            obtain ⟨w14, gw14, h⟩ := Option.bind_eq_some_iff.mp h
            obtain ⟨q15, gq15, h⟩ := Option.bind_eq_some_iff.mp h
            refine ax_cV (As := [av_i a5, av_i a2, av_i a6, av_i a7, av_i a8]) (t := 6) dL_same_190 gw14 (th_X9_value gq15) rfl (And.intro wd_676 wd_18) wd_673 wd_674 wd_675 cy_X9_value (by omega) (by decide) (Nat.le_of_ble_eq_true rfl) rfl ?_
            refine ax_iload (i := 9) dL_same_193 rfl ?_
            refine ax_icmp_ne (tgt := 229) dL_same_195 (by decide) (fun c16 => ?_) (fun c16 => ?_)
            · rw [if_neg c16] at h
              exact ax_less (L' := [(some (av_r a0)), (some (av_i a1)), (some (av_i a2)), (some (av_i a3)), none, (some (av_i a5)), none, none, none, none, none, none]) ⟨rfl, rfl, rfl, rfl, rfl, trivial⟩ (tb_L_same_229 hk6 h)
            · rw [if_pos c16] at h
              refine ax_aload_n (i := 0) dL_same_198 rfl rfl ?_
              refine ax_iload (i := 5) dL_same_199 rfl ?_
              refine ax_iload_n (i := 2) dL_same_201 rfl rfl ?_
              refine ax_iload (i := 8) dL_same_202 rfl ?_
              refine ax_iconst (v := (2)) dL_same_204 rfl ?_
              obtain ⟨w17, gw17, h⟩ := Option.bind_eq_some_iff.mp h
              obtain ⟨q18, gq18, h⟩ := Option.bind_eq_some_iff.mp h
              refine ax_cV (As := [av_i a5, av_i a2, av_i a8, av_i (2)]) (t := 6) dL_same_205 gw17 (th_X9_sum gq18) rfl (And.intro wd_683 wd_18) wd_680 wd_681 wd_682 cy_X9_sum (by omega) (by decide) (Nat.le_of_ble_eq_true rfl) rfl ?_
              refine ax_iload (i := 10) dL_same_208 rfl ?_
              refine ax_icmp_ne (tgt := 229) dL_same_210 (by decide) (fun c19 => ?_) (fun c19 => ?_)
              · rw [if_neg c19] at h
                exact ax_less (L' := [(some (av_r a0)), (some (av_i a1)), (some (av_i a2)), (some (av_i a3)), none, (some (av_i a5)), none, none, none, none, none, none]) ⟨rfl, rfl, rfl, rfl, rfl, trivial⟩ (tb_L_same_229 hk6 h)
              · rw [if_pos c19] at h
                refine ax_aload_n (i := 0) dL_same_213 rfl rfl ?_
                refine ax_iload (i := 5) dL_same_214 rfl ?_
                refine ax_iload (i := 5) dL_same_216 rfl ?_
                refine ax_iload_n (i := 2) dL_same_218 rfl rfl ?_
                obtain ⟨w20, gw20, h⟩ := Option.bind_eq_some_iff.mp h
                obtain ⟨q21, gq21, h⟩ := Option.bind_eq_some_iff.mp h
                refine ax_cV (As := [av_i a5, av_i a5, av_i a2]) (t := 6) dL_same_219 gw20 (th_X9_compare gq21) rfl (And.intro wd_354 wd_18) wd_351 wd_352 wd_353 cy_X9_compare (by omega) (by decide) (Nat.le_of_ble_eq_true rfl) rfl ?_
                refine ax_if_ne (tgt := 229) dL_same_222 (by decide) (fun c22 => ?_) (fun c22 => ?_)
                · rw [if_neg c22] at h
                  exact ax_less (L' := [(some (av_r a0)), (some (av_i a1)), (some (av_i a2)), (some (av_i a3)), none, (some (av_i a5)), none, none, none, none, none, none]) ⟨rfl, rfl, rfl, rfl, rfl, trivial⟩ (tb_L_same_229 hk6 h)
                · rw [if_pos c22] at h
                  refine ax_iconst (v := (1)) dL_same_225 rfl ?_
                  refine ax_goto (tgt := 230) dL_same_226 (by decide) ?_
                  refine ax_istore (i := 4) (L2 := [some (av_r a0), some (av_i a1), some (av_i a2), some (av_i a3), some (av_i (1)), some (av_i a5), some (av_i a6), some (av_i a7), some (av_i a8), some (av_i a9), some (av_i a10), none]) dL_same_230 (by decide) rfl rfl ?_
                  refine ax_iinc (i := 5) (v := (a5 + (1))) (L2 := [some (av_r a0), some (av_i a1), some (av_i a2), some (av_i a3), some (av_i (1)), some (av_i (a5 + (1))), some (av_i a6), some (av_i a7), some (av_i a8), some (av_i a9), some (av_i a10), none]) dL_same_232 rfl rfl (by decide) rfl rfl ?_
                  refine ax_goto (tgt := 6) dL_same_235 (by decide) ?_
                  exact ax_less (L' := [(some (av_r a0)), (some (av_i a1)), (some (av_i a2)), (some (av_i a3)), (some (av_i (1))), (some (av_i (a5 + (1)))), none, none, none, none, none, none]) ⟨rfl, rfl, rfl, rfl, rfl, rfl, trivial⟩ (hk6 _ _ _ _ _ _ _ h)
def fb_L_same_136 (k6 : Option Nat → Int32 → Int32 → Int32 → Int32 → Int32 → ax_S → Option (Int32 × ax_S)) (a0 : Option Nat) (a1 : Int32) (a2 : Int32) (a3 : Int32) (a5 : Int32) (a6 : Int32) (a7 : Int32) (a8 : Int32) (a9 : Int32) (a10 : Int32) (s : ax_S) : Option (Int32 × ax_S) :=
  fb_L_same_137 k6 a0 a1 a2 a3 a5 a6 a7 a8 a9 a10 (0) s
set_option maxRecDepth 100000 in
set_option maxHeartbeats 4000000 in
theorem tb_L_same_136 {q : Int32 × ax_S} {k6 : Option Nat → Int32 → Int32 → Int32 → Int32 → Int32 → ax_S → Option (Int32 × ax_S)} (hk6 : ∀ (a0 : Option Nat) (a1 : Int32) (a2 : Int32) (a3 : Int32) (a4 : Int32) (a5 : Int32) (s : ax_S), k6 a0 a1 a2 a3 a4 a5 s = some q → AW mm_L_same 72 0 0 6 [(some (av_r a0)), (some (av_i a1)), (some (av_i a2)), (some (av_i a3)), (some (av_i a4)), (some (av_i a5)), none, none, none, none, none, none] [] s (some (av_i q.1), q.2)) {a0 : Option Nat} {a1 : Int32} {a2 : Int32} {a3 : Int32} {a5 : Int32} {a6 : Int32} {a7 : Int32} {a8 : Int32} {a9 : Int32} {a10 : Int32} {s : ax_S} (h : fb_L_same_136 k6 a0 a1 a2 a3 a5 a6 a7 a8 a9 a10 s = some q) : AW mm_L_same 72 0 0 136 [(some (av_r a0)), (some (av_i a1)), (some (av_i a2)), (some (av_i a3)), none, (some (av_i a5)), (some (av_i a6)), (some (av_i a7)), (some (av_i a8)), (some (av_i a9)), (some (av_i a10)), none] [] s (some (av_i q.1), q.2) := by
  unfold fb_L_same_136 at h
  refine ax_iconst (v := (0)) dL_same_136 rfl ?_
  exact ax_less (L' := [(some (av_r a0)), (some (av_i a1)), (some (av_i a2)), (some (av_i a3)), none, (some (av_i a5)), (some (av_i a6)), (some (av_i a7)), (some (av_i a8)), (some (av_i a9)), (some (av_i a10)), none]) ⟨rfl, rfl, rfl, rfl, rfl, rfl, rfl, rfl, rfl, rfl, trivial⟩ (tb_L_same_137 hk6 h)
def fb_L_same_6 : Nat → Option Nat → Int32 → Int32 → Int32 → Int32 → Int32 → ax_S → Option (Int32 × ax_S)
  | 0, _, _, _, _, _, _, _ => none
  | n + 1, a0, a1, a2, a3, a4, a5, s =>
    if a1 ≤ a5 then
      some (a4, s)
    else
      if a4 = 0 then
        some (a4, s)
      else
        ax_bd (((a3 >>> (a5 &&& 31)) - (a3 >>> (a5 &&& 31)) / (8) * (8))) fun v25 =>
        ax_bd (((a3 >>> ((a5 + (3)) &&& 31)) - (a3 >>> ((a5 + (3)) &&& 31)) / (4) * (4))) fun v26 =>
        ax_bd (((a3 >>> ((a5 + (5)) &&& 31)) - (a3 >>> ((a5 + (5)) &&& 31)) / (3) * (3))) fun v27 =>
        (ax_sh s 6 a0).bind fun w28 =>
        (fn_X9_value a0 a5 a2 v25 v26 v27 s).bind fun q29 =>
        (ax_sh q29.2 6 a0).bind fun w30 =>
        (fn_X9_sum a0 a5 a2 v27 (2) q29.2).bind fun q31 =>
        (ax_sh q31.2 6 a0).bind fun w32 =>
        (fn_X9_count a0 (2) q31.2).bind fun q33 =>
        if q29.1 < 0 then
          fb_L_same_136 (fb_L_same_6 n) a0 a1 a2 a3 a5 v25 v26 v27 q29.1 q31.1 q33.2
        else
          if (256) ≤ q29.1 then
            fb_L_same_136 (fb_L_same_6 n) a0 a1 a2 a3 a5 v25 v26 v27 q29.1 q31.1 q33.2
          else
            (ax_sh q33.2 6 a0).bind fun w36 =>
            (fn_X9_value a0 a5 a2 v25 v26 v27 q33.2).bind fun q37 =>
            if q37.1 = q29.1 then
              (ax_sh q37.2 6 a0).bind fun w39 =>
              (fn_X9_count a0 (2) q37.2).bind fun q40 =>
              if q40.1 = q33.1 then
                (ax_sh q40.2 6 a0).bind fun w42 =>
                (fn_X9_isCached a0 a5 a2 q40.2).bind fun q43 =>
                if q43.1 = (1) then
                  fb_L_same_137 (fb_L_same_6 n) a0 a1 a2 a3 a5 v25 v26 v27 q29.1 q31.1 (1) q43.2
                else
                  fb_L_same_136 (fb_L_same_6 n) a0 a1 a2 a3 a5 v25 v26 v27 q29.1 q31.1 q43.2
              else
                fb_L_same_136 (fb_L_same_6 n) a0 a1 a2 a3 a5 v25 v26 v27 q29.1 q31.1 q40.2
            else
              fb_L_same_136 (fb_L_same_6 n) a0 a1 a2 a3 a5 v25 v26 v27 q29.1 q31.1 q37.2
set_option maxRecDepth 100000 in
set_option maxHeartbeats 4000000 in
theorem tb_L_same_6 {q : Int32 × ax_S} : ∀ (n : Nat) (a0 : Option Nat) (a1 : Int32) (a2 : Int32) (a3 : Int32) (a4 : Int32) (a5 : Int32) (s : ax_S) (h : fb_L_same_6 n a0 a1 a2 a3 a4 a5 s = some q), AW mm_L_same 72 0 0 6 [(some (av_r a0)), (some (av_i a1)), (some (av_i a2)), (some (av_i a3)), (some (av_i a4)), (some (av_i a5)), none, none, none, none, none, none] [] s (some (av_i q.1), q.2) := by
  intro n
  induction n with
  | zero =>
    intro a0 a1 a2 a3 a4 a5 s h
    exact ax_no h
  | succ n ih =>
    intro a0 a1 a2 a3 a4 a5 s h
    unfold fb_L_same_6 at h
    refine ax_iload (i := 5) dL_same_6 rfl ?_
    refine ax_iload_n (i := 1) dL_same_8 rfl rfl ?_
    refine ax_icmp_ge (tgt := 238) dL_same_9 (by decide) (fun c23 => ?_) (fun c23 => ?_)
    · rw [if_pos c23] at h
      refine ax_iload (i := 4) dL_same_238 rfl ?_
      exact ax_reti dL_same_240 h
    · rw [if_neg c23] at h
      refine ax_iload (i := 4) dL_same_12 rfl ?_
      refine ax_if_eq (tgt := 238) dL_same_14 (by decide) (fun c24 => ?_) (fun c24 => ?_)
      · rw [if_pos c24] at h
        refine ax_iload (i := 4) dL_same_238 rfl ?_
        exact ax_reti dL_same_240 h
      · rw [if_neg c24] at h
        refine ax_iload_n (i := 3) dL_same_17 rfl rfl ?_
        refine ax_iload (i := 5) dL_same_18 rfl ?_
        refine ax_ishr dL_same_20 ?_
        refine ax_bipush (v := (8)) dL_same_21 rfl ?_
        refine ax_irem dL_same_23 (by decide) ?_
        refine ax_bdI h (fun v25 h => ?_)
        refine ax_istore (i := 6) (L2 := [some (av_r a0), some (av_i a1), some (av_i a2), some (av_i a3), some (av_i a4), some (av_i a5), some (av_i v25), none, none, none, none, none]) dL_same_24 (by decide) rfl rfl ?_
        refine ax_iload_n (i := 3) dL_same_26 rfl rfl ?_
        refine ax_iload (i := 5) dL_same_27 rfl ?_
        refine ax_iconst (v := (3)) dL_same_29 rfl ?_
        refine ax_iadd dL_same_30 ?_
        refine ax_ishr dL_same_31 ?_
        refine ax_iconst (v := (4)) dL_same_32 rfl ?_
        refine ax_irem dL_same_33 (by decide) ?_
        refine ax_bdI h (fun v26 h => ?_)
        refine ax_istore (i := 7) (L2 := [some (av_r a0), some (av_i a1), some (av_i a2), some (av_i a3), some (av_i a4), some (av_i a5), some (av_i v25), some (av_i v26), none, none, none, none]) dL_same_34 (by decide) rfl rfl ?_
        refine ax_iload_n (i := 3) dL_same_36 rfl rfl ?_
        refine ax_iload (i := 5) dL_same_37 rfl ?_
        refine ax_iconst (v := (5)) dL_same_39 rfl ?_
        refine ax_iadd dL_same_40 ?_
        refine ax_ishr dL_same_41 ?_
        refine ax_iconst (v := (3)) dL_same_42 rfl ?_
        refine ax_irem dL_same_43 (by decide) ?_
        refine ax_bdI h (fun v27 h => ?_)
        refine ax_istore (i := 8) (L2 := [some (av_r a0), some (av_i a1), some (av_i a2), some (av_i a3), some (av_i a4), some (av_i a5), some (av_i v25), some (av_i v26), some (av_i v27), none, none, none]) dL_same_44 (by decide) rfl rfl ?_
        refine ax_aload_n (i := 0) dL_same_46 rfl rfl ?_
        refine ax_iload (i := 5) dL_same_47 rfl ?_
        refine ax_iload_n (i := 2) dL_same_49 rfl rfl ?_
        refine ax_iload (i := 6) dL_same_50 rfl ?_
        refine ax_iload (i := 7) dL_same_52 rfl ?_
        refine ax_iload (i := 8) dL_same_54 rfl ?_
        obtain ⟨w28, gw28, h⟩ := Option.bind_eq_some_iff.mp h
        obtain ⟨q29, gq29, h⟩ := Option.bind_eq_some_iff.mp h
        refine ax_cV (As := [av_i a5, av_i a2, av_i v25, av_i v26, av_i v27]) (t := 6) dL_same_56 gw28 (th_X9_value gq29) rfl (And.intro wd_676 wd_18) wd_673 wd_674 wd_675 cy_X9_value (by omega) (by decide) (Nat.le_of_ble_eq_true rfl) rfl ?_
        refine ax_istore (i := 9) (L2 := [some (av_r a0), some (av_i a1), some (av_i a2), some (av_i a3), some (av_i a4), some (av_i a5), some (av_i v25), some (av_i v26), some (av_i v27), some (av_i q29.1), none, none]) dL_same_59 (by decide) rfl rfl ?_
        refine ax_aload_n (i := 0) dL_same_61 rfl rfl ?_
        refine ax_iload (i := 5) dL_same_62 rfl ?_
        refine ax_iload_n (i := 2) dL_same_64 rfl rfl ?_
        refine ax_iload (i := 8) dL_same_65 rfl ?_
        refine ax_iconst (v := (2)) dL_same_67 rfl ?_
        obtain ⟨w30, gw30, h⟩ := Option.bind_eq_some_iff.mp h
        obtain ⟨q31, gq31, h⟩ := Option.bind_eq_some_iff.mp h
        refine ax_cV (As := [av_i a5, av_i a2, av_i v27, av_i (2)]) (t := 6) dL_same_68 gw30 (th_X9_sum gq31) rfl (And.intro wd_683 wd_18) wd_680 wd_681 wd_682 cy_X9_sum (by omega) (by decide) (Nat.le_of_ble_eq_true rfl) rfl ?_
        refine ax_istore (i := 10) (L2 := [some (av_r a0), some (av_i a1), some (av_i a2), some (av_i a3), some (av_i a4), some (av_i a5), some (av_i v25), some (av_i v26), some (av_i v27), some (av_i q29.1), some (av_i q31.1), none]) dL_same_71 (by decide) rfl rfl ?_
        refine ax_aload_n (i := 0) dL_same_73 rfl rfl ?_
        refine ax_iconst (v := (2)) dL_same_74 rfl ?_
        obtain ⟨w32, gw32, h⟩ := Option.bind_eq_some_iff.mp h
        obtain ⟨q33, gq33, h⟩ := Option.bind_eq_some_iff.mp h
        refine ax_cV (As := [av_i (2)]) (t := 6) dL_same_75 gw32 (th_X9_count gq33) rfl (And.intro wd_432 wd_18) wd_429 wd_430 wd_431 cy_X9_count (by omega) (by decide) (Nat.le_of_ble_eq_true rfl) rfl ?_
        refine ax_istore (i := 11) (L2 := [some (av_r a0), some (av_i a1), some (av_i a2), some (av_i a3), some (av_i a4), some (av_i a5), some (av_i v25), some (av_i v26), some (av_i v27), some (av_i q29.1), some (av_i q31.1), some (av_i q33.1)]) dL_same_78 (by decide) rfl rfl ?_
        refine ax_iload (i := 9) dL_same_80 rfl ?_
        refine ax_if_lt (tgt := 136) dL_same_82 (by decide) (fun c34 => ?_) (fun c34 => ?_)
        · rw [if_pos c34] at h
          exact ax_less (L' := [(some (av_r a0)), (some (av_i a1)), (some (av_i a2)), (some (av_i a3)), none, (some (av_i a5)), (some (av_i v25)), (some (av_i v26)), (some (av_i v27)), (some (av_i q29.1)), (some (av_i q31.1)), none]) ⟨rfl, rfl, rfl, rfl, rfl, rfl, rfl, rfl, rfl, rfl, trivial⟩ (tb_L_same_136 ih h)
        · rw [if_neg c34] at h
          refine ax_iload (i := 9) dL_same_85 rfl ?_
          refine ax_sipush (v := (256)) dL_same_87 rfl ?_
          refine ax_icmp_ge (tgt := 136) dL_same_90 (by decide) (fun c35 => ?_) (fun c35 => ?_)
          · rw [if_pos c35] at h
            exact ax_less (L' := [(some (av_r a0)), (some (av_i a1)), (some (av_i a2)), (some (av_i a3)), none, (some (av_i a5)), (some (av_i v25)), (some (av_i v26)), (some (av_i v27)), (some (av_i q29.1)), (some (av_i q31.1)), none]) ⟨rfl, rfl, rfl, rfl, rfl, rfl, rfl, rfl, rfl, rfl, trivial⟩ (tb_L_same_136 ih h)
          · rw [if_neg c35] at h
            refine ax_aload_n (i := 0) dL_same_93 rfl rfl ?_
            refine ax_iload (i := 5) dL_same_94 rfl ?_
            refine ax_iload_n (i := 2) dL_same_96 rfl rfl ?_
            refine ax_iload (i := 6) dL_same_97 rfl ?_
            refine ax_iload (i := 7) dL_same_99 rfl ?_
            refine ax_iload (i := 8) dL_same_101 rfl ?_
            obtain ⟨w36, gw36, h⟩ := Option.bind_eq_some_iff.mp h
            obtain ⟨q37, gq37, h⟩ := Option.bind_eq_some_iff.mp h
            refine ax_cV (As := [av_i a5, av_i a2, av_i v25, av_i v26, av_i v27]) (t := 6) dL_same_103 gw36 (th_X9_value gq37) rfl (And.intro wd_676 wd_18) wd_673 wd_674 wd_675 cy_X9_value (by omega) (by decide) (Nat.le_of_ble_eq_true rfl) rfl ?_
            refine ax_iload (i := 9) dL_same_106 rfl ?_
            refine ax_icmp_ne (tgt := 136) dL_same_108 (by decide) (fun c38 => ?_) (fun c38 => ?_)
            · rw [if_neg c38] at h
              exact ax_less (L' := [(some (av_r a0)), (some (av_i a1)), (some (av_i a2)), (some (av_i a3)), none, (some (av_i a5)), (some (av_i v25)), (some (av_i v26)), (some (av_i v27)), (some (av_i q29.1)), (some (av_i q31.1)), none]) ⟨rfl, rfl, rfl, rfl, rfl, rfl, rfl, rfl, rfl, rfl, trivial⟩ (tb_L_same_136 ih h)
            · rw [if_pos c38] at h
              refine ax_aload_n (i := 0) dL_same_111 rfl rfl ?_
              refine ax_iconst (v := (2)) dL_same_112 rfl ?_
              obtain ⟨w39, gw39, h⟩ := Option.bind_eq_some_iff.mp h
              obtain ⟨q40, gq40, h⟩ := Option.bind_eq_some_iff.mp h
              refine ax_cV (As := [av_i (2)]) (t := 6) dL_same_113 gw39 (th_X9_count gq40) rfl (And.intro wd_432 wd_18) wd_429 wd_430 wd_431 cy_X9_count (by omega) (by decide) (Nat.le_of_ble_eq_true rfl) rfl ?_
              refine ax_iload (i := 11) dL_same_116 rfl ?_
              refine ax_icmp_ne (tgt := 136) dL_same_118 (by decide) (fun c41 => ?_) (fun c41 => ?_)
              · rw [if_neg c41] at h
                exact ax_less (L' := [(some (av_r a0)), (some (av_i a1)), (some (av_i a2)), (some (av_i a3)), none, (some (av_i a5)), (some (av_i v25)), (some (av_i v26)), (some (av_i v27)), (some (av_i q29.1)), (some (av_i q31.1)), none]) ⟨rfl, rfl, rfl, rfl, rfl, rfl, rfl, rfl, rfl, rfl, trivial⟩ (tb_L_same_136 ih h)
              · rw [if_pos c41] at h
                refine ax_aload_n (i := 0) dL_same_121 rfl rfl ?_
                refine ax_iload (i := 5) dL_same_122 rfl ?_
                refine ax_iload_n (i := 2) dL_same_124 rfl rfl ?_
                obtain ⟨w42, gw42, h⟩ := Option.bind_eq_some_iff.mp h
                obtain ⟨q43, gq43, h⟩ := Option.bind_eq_some_iff.mp h
                refine ax_cV (As := [av_i a5, av_i a2]) (t := 6) dL_same_125 gw42 (th_X9_isCached gq43) rfl (And.intro wd_640 wd_18) wd_700 wd_638 wd_639 cy_X9_isCached (by omega) (by decide) (Nat.le_of_ble_eq_true rfl) rfl ?_
                refine ax_iconst (v := (1)) dL_same_128 rfl ?_
                refine ax_icmp_ne (tgt := 136) dL_same_129 (by decide) (fun c44 => ?_) (fun c44 => ?_)
                · rw [if_neg c44] at h
                  exact ax_less (L' := [(some (av_r a0)), (some (av_i a1)), (some (av_i a2)), (some (av_i a3)), none, (some (av_i a5)), (some (av_i v25)), (some (av_i v26)), (some (av_i v27)), (some (av_i q29.1)), (some (av_i q31.1)), none]) ⟨rfl, rfl, rfl, rfl, rfl, rfl, rfl, rfl, rfl, rfl, trivial⟩ (tb_L_same_136 ih h)
                · rw [if_pos c44] at h
                  refine ax_iconst (v := (1)) dL_same_132 rfl ?_
                  refine ax_goto (tgt := 137) dL_same_133 (by decide) ?_
                  exact ax_less (L' := [(some (av_r a0)), (some (av_i a1)), (some (av_i a2)), (some (av_i a3)), none, (some (av_i a5)), (some (av_i v25)), (some (av_i v26)), (some (av_i v27)), (some (av_i q29.1)), (some (av_i q31.1)), none]) ⟨rfl, rfl, rfl, rfl, rfl, rfl, rfl, rfl, rfl, rfl, trivial⟩ (tb_L_same_137 ih h)
def fi_L_same (a0 : Option Nat) (a1 : Int32) (a2 : Int32) (a3 : Int32) (s : ax_S) : Option (Int32 × ax_S) :=
  fb_L_same_6 10000 a0 a1 a2 a3 (1) (0) s
set_option maxRecDepth 100000 in
set_option maxHeartbeats 4000000 in
theorem tw_L_same {q : Int32 × ax_S} {a0 : Option Nat} {a1 : Int32} {a2 : Int32} {a3 : Int32} {s : ax_S} (h : fi_L_same a0 a1 a2 a3 s = some q) : AW mm_L_same 72 0 0 0 [some (av_r a0), some (av_i a1), some (av_i a2), some (av_i a3), none, none, none, none, none, none, none, none] [] s (some (av_i q.1), q.2) := by
  unfold fi_L_same at h
  refine ax_iconst (v := (1)) dL_same_0 rfl ?_
  refine ax_istore (i := 4) (L2 := [some (av_r a0), some (av_i a1), some (av_i a2), some (av_i a3), some (av_i (1)), none, none, none, none, none, none, none]) dL_same_1 (by decide) rfl rfl ?_
  refine ax_iconst (v := (0)) dL_same_3 rfl ?_
  refine ax_istore (i := 5) (L2 := [some (av_r a0), some (av_i a1), some (av_i a2), some (av_i a3), some (av_i (1)), some (av_i (0)), none, none, none, none, none, none]) dL_same_4 (by decide) rfl rfl ?_
  exact ax_less (L' := [(some (av_r a0)), (some (av_i a1)), (some (av_i a2)), (some (av_i a3)), (some (av_i (1))), (some (av_i (0))), none, none, none, none, none, none]) ⟨rfl, rfl, rfl, rfl, rfl, rfl, trivial⟩ (tb_L_same_6  _ _ _ _ _ _ _ _ h)
def fn_L_same (a0 : Option Nat) (a1 : Int32) (a2 : Int32) (a3 : Int32) (s : ax_S) : Option (Int32 × ax_S) := ax_bz (fi_L_same a0 a1 a2 a3 s)
set_option maxRecDepth 100000 in
set_option maxHeartbeats 4000000 in
theorem th_L_same {q : Int32 × ax_S} {a0 : Option Nat} {a1 : Int32} {a2 : Int32} {a3 : Int32} {s : ax_S} (h : fn_L_same a0 a1 a2 a3 s = some q) : AC mm_L_same yL_same 72 0 0 [av_r a0, av_i a1, av_i a2, av_i a3] s (some (av_i q.1), q.2) := by
  obtain ⟨h, hz⟩ := ax_bz_of h
  exact ax_met (L0 := [some (av_r a0), some (av_i a1), some (av_i a2), some (av_i a3), none, none, none, none, none, none, none, none]) (by decide +kernel) rfl (fun h => absurd h (by decide)) ⟨rfl, rfl, rfl, rfl, trivial⟩ (Nat.le_of_ble_eq_true rfl) hz (tw_L_same h)
/-! L_high -/
abbrev mm_L_high : ax_M := (RL, cL_high, (some .int), 2, false)
def fn_L_high (a0 : Int32) (a1 : Int32) (s : ax_S) : Option (Int32 × ax_S) :=
  if a0 = 0 then
    some ((999), s)
  else
    if a0 = (1) then
      some ((64), s)
    else
      if a0 = (2) then
        some ((255), s)
      else
        if a0 = (4) then
          some ((3), s)
        else
          if a1 = 0 then
            some ((2), s)
          else
            if a1 = (3) then
              some ((99), s)
            else
              some ((255), s)
set_option maxRecDepth 100000 in
set_option maxHeartbeats 4000000 in
theorem tw_L_high {q : Int32 × ax_S} {a0 : Int32} {a1 : Int32} {s : ax_S} (h : fn_L_high a0 a1 s = some q) : AW mm_L_high 0 0 0 0 [some (av_i a0), some (av_i a1)] [] s (some (av_i q.1), q.2) := by
  unfold fn_L_high at h
  refine ax_iload_n (i := 0) dL_high_0 rfl rfl ?_
  refine ax_if_ne (tgt := 10) dL_high_1 (by decide) (fun c1 => ?_) (fun c1 => ?_)
  · rw [if_neg c1] at h
    refine ax_iload_n (i := 0) dL_high_10 rfl rfl ?_
    refine ax_iconst (v := (1)) dL_high_11 rfl ?_
    refine ax_icmp_ne (tgt := 20) dL_high_12 (by decide) (fun c2 => ?_) (fun c2 => ?_)
    · rw [if_neg c2] at h
      refine ax_iload_n (i := 0) dL_high_20 rfl rfl ?_
      refine ax_iconst (v := (2)) dL_high_21 rfl ?_
      refine ax_icmp_ne (tgt := 31) dL_high_22 (by decide) (fun c3 => ?_) (fun c3 => ?_)
      · rw [if_neg c3] at h
        refine ax_iload_n (i := 0) dL_high_31 rfl rfl ?_
        refine ax_iconst (v := (4)) dL_high_32 rfl ?_
        refine ax_icmp_ne (tgt := 40) dL_high_33 (by decide) (fun c4 => ?_) (fun c4 => ?_)
        · rw [if_neg c4] at h
          refine ax_iload_n (i := 1) dL_high_40 rfl rfl ?_
          refine ax_if_ne (tgt := 48) dL_high_41 (by decide) (fun c5 => ?_) (fun c5 => ?_)
          · rw [if_neg c5] at h
            refine ax_iload_n (i := 1) dL_high_48 rfl rfl ?_
            refine ax_iconst (v := (3)) dL_high_49 rfl ?_
            refine ax_icmp_ne (tgt := 58) dL_high_50 (by decide) (fun c6 => ?_) (fun c6 => ?_)
            · rw [if_neg c6] at h
              refine ax_sipush (v := (255)) dL_high_58 rfl ?_
              exact ax_reti dL_high_61 h
            · rw [if_pos c6] at h
              refine ax_bipush (v := (99)) dL_high_53 rfl ?_
              refine ax_goto (tgt := 61) dL_high_55 (by decide) ?_
              exact ax_reti dL_high_61 h
          · rw [if_pos c5] at h
            refine ax_iconst (v := (2)) dL_high_44 rfl ?_
            refine ax_goto (tgt := 61) dL_high_45 (by decide) ?_
            exact ax_reti dL_high_61 h
        · rw [if_pos c4] at h
          refine ax_iconst (v := (3)) dL_high_36 rfl ?_
          refine ax_goto (tgt := 61) dL_high_37 (by decide) ?_
          exact ax_reti dL_high_61 h
      · rw [if_pos c3] at h
        refine ax_sipush (v := (255)) dL_high_25 rfl ?_
        refine ax_goto (tgt := 61) dL_high_28 (by decide) ?_
        exact ax_reti dL_high_61 h
    · rw [if_pos c2] at h
      refine ax_bipush (v := (64)) dL_high_15 rfl ?_
      refine ax_goto (tgt := 61) dL_high_17 (by decide) ?_
      exact ax_reti dL_high_61 h
  · rw [if_pos c1] at h
    refine ax_sipush (v := (999)) dL_high_4 rfl ?_
    refine ax_goto (tgt := 61) dL_high_7 (by decide) ?_
    exact ax_reti dL_high_61 h
set_option maxRecDepth 100000 in
set_option maxHeartbeats 4000000 in
theorem th_L_high {q : Int32 × ax_S} {a0 : Int32} {a1 : Int32} {s : ax_S} (h : fn_L_high a0 a1 s = some q) : AC mm_L_high yL_high 0 0 0 [av_i a0, av_i a1] s (some (av_i q.1), q.2) := by
  exact ax_met (L0 := [some (av_i a0), some (av_i a1)]) (by decide +kernel) rfl (fun h => absurd h (by decide)) ⟨rfl, rfl, trivial⟩ (Nat.le_of_ble_eq_true rfl) trivial (tw_L_high h)
/-! L_sound -/
abbrev mm_L_sound : ax_M := (RL, cL_sound, (some .boolean), 9, false)
def fb_L_sound_338 (a0 : Option Nat) (a1 : Int32) (a2 : Int32) (a3 : Int32) (a4 : Int32) (s : ax_S) : Option (Int32 × ax_S) :=
  if a4 = 0 then
    some ((0), s)
  else
    if a2 = (((1) <<< (a1 &&& 31)) - (1)) then
      (ax_sh s 6 a0).bind fun w3 =>
      (fn_X9_count a0 (0) s).bind fun q4 =>
      if a3 = q4.1 then
        some ((1), q4.2)
      else
        some ((0), q4.2)
    else
      some ((0), s)
set_option maxRecDepth 100000 in
set_option maxHeartbeats 4000000 in
theorem tb_L_sound_338 {q : Int32 × ax_S} {a0 : Option Nat} {a1 : Int32} {a2 : Int32} {a3 : Int32} {a4 : Int32} {s : ax_S} (h : fb_L_sound_338 a0 a1 a2 a3 a4 s = some q) : AW mm_L_sound 4 0 0 338 [(some (av_r a0)), (some (av_i a1)), (some (av_i a2)), (some (av_i a3)), (some (av_i a4)), none, none, none, none] [] s (some (av_i q.1), q.2) := by
  unfold fb_L_sound_338 at h
  refine ax_iload (i := 4) dL_sound_338 rfl ?_
  refine ax_if_eq (tgt := 365) dL_sound_340 (by decide) (fun c1 => ?_) (fun c1 => ?_)
  · rw [if_pos c1] at h
    refine ax_iconst (v := (0)) dL_sound_365 rfl ?_
    exact ax_reti dL_sound_366 h
  · rw [if_neg c1] at h
    refine ax_iload_n (i := 2) dL_sound_343 rfl rfl ?_
    refine ax_iconst (v := (1)) dL_sound_344 rfl ?_
    refine ax_iload_n (i := 1) dL_sound_345 rfl rfl ?_
    refine ax_ishl dL_sound_346 ?_
    refine ax_iconst (v := (1)) dL_sound_347 rfl ?_
    refine ax_isub dL_sound_348 ?_
    refine ax_icmp_ne (tgt := 365) dL_sound_349 (by decide) (fun c2 => ?_) (fun c2 => ?_)
    · rw [if_neg c2] at h
      refine ax_iconst (v := (0)) dL_sound_365 rfl ?_
      exact ax_reti dL_sound_366 h
    · rw [if_pos c2] at h
      refine ax_iload_n (i := 3) dL_sound_352 rfl rfl ?_
      refine ax_aload_n (i := 0) dL_sound_353 rfl rfl ?_
      refine ax_iconst (v := (0)) dL_sound_354 rfl ?_
      obtain ⟨w3, gw3, h⟩ := Option.bind_eq_some_iff.mp h
      obtain ⟨q4, gq4, h⟩ := Option.bind_eq_some_iff.mp h
      refine ax_cV (As := [av_i (0)]) (t := 6) dL_sound_355 gw3 (th_X9_count gq4) rfl (And.intro wd_432 wd_18) wd_429 wd_430 wd_431 cy_X9_count (by omega) (by decide) (Nat.le_of_ble_eq_true rfl) rfl ?_
      refine ax_icmp_ne (tgt := 365) dL_sound_358 (by decide) (fun c5 => ?_) (fun c5 => ?_)
      · rw [if_neg c5] at h
        refine ax_iconst (v := (0)) dL_sound_365 rfl ?_
        exact ax_reti dL_sound_366 h
      · rw [if_pos c5] at h
        refine ax_iconst (v := (1)) dL_sound_361 rfl ?_
        refine ax_goto (tgt := 366) dL_sound_362 (by decide) ?_
        exact ax_reti dL_sound_366 h
def fb_L_sound_308 (k64 : Option Nat → Int32 → Int32 → Int32 → Int32 → Int32 → ax_S → Option (Int32 × ax_S)) : Nat → Option Nat → Int32 → Int32 → Int32 → Int32 → Int32 → Int32 → ax_S → Option (Int32 × ax_S)
  | 0, _, _, _, _, _, _, _, _ => none
  | n + 1, a0, a1, a2, a3, a4, a5, a7, s =>
    if (100) ≤ a7 then
      k64 a0 a1 a2 a3 a4 (a5 + (1)) s
    else
      (ax_sh s 6 a0).bind fun w7 =>
      (fn_X9_isCached a0 a5 a7 s).bind fun q8 =>
      ax_bd ((a3 + q8.1)) fun v9 =>
      (fb_L_sound_308 k64 n) a0 a1 a2 v9 a4 a5 (a7 + (1)) q8.2
set_option maxRecDepth 100000 in
set_option maxHeartbeats 4000000 in
theorem tb_L_sound_308 {q : Int32 × ax_S} {k64 : Option Nat → Int32 → Int32 → Int32 → Int32 → Int32 → ax_S → Option (Int32 × ax_S)} (hk64 : ∀ (a0 : Option Nat) (a1 : Int32) (a2 : Int32) (a3 : Int32) (a4 : Int32) (a5 : Int32) (s : ax_S), k64 a0 a1 a2 a3 a4 a5 s = some q → AW mm_L_sound 4 0 0 64 [(some (av_r a0)), (some (av_i a1)), (some (av_i a2)), (some (av_i a3)), (some (av_i a4)), (some (av_i a5)), none, none, none] [] s (some (av_i q.1), q.2)) : ∀ (n : Nat) (a0 : Option Nat) (a1 : Int32) (a2 : Int32) (a3 : Int32) (a4 : Int32) (a5 : Int32) (a7 : Int32) (s : ax_S) (h : fb_L_sound_308 k64 n a0 a1 a2 a3 a4 a5 a7 s = some q), AW mm_L_sound 4 0 0 308 [(some (av_r a0)), (some (av_i a1)), (some (av_i a2)), (some (av_i a3)), (some (av_i a4)), (some (av_i a5)), none, (some (av_i a7)), none] [] s (some (av_i q.1), q.2) := by
  intro n
  induction n with
  | zero =>
    intro a0 a1 a2 a3 a4 a5 a7 s h
    exact ax_no h
  | succ n ih =>
    intro a0 a1 a2 a3 a4 a5 a7 s h
    unfold fb_L_sound_308 at h
    refine ax_iload (i := 7) dL_sound_308 rfl ?_
    refine ax_bipush (v := (100)) dL_sound_310 rfl ?_
    refine ax_icmp_ge (tgt := 332) dL_sound_312 (by decide) (fun c6 => ?_) (fun c6 => ?_)
    · rw [if_pos c6] at h
      refine ax_iinc (i := 5) (v := (a5 + (1))) (L2 := [some (av_r a0), some (av_i a1), some (av_i a2), some (av_i a3), some (av_i a4), some (av_i (a5 + (1))), none, some (av_i a7), none]) dL_sound_332 rfl rfl (by decide) rfl rfl ?_
      refine ax_goto (tgt := 64) dL_sound_335 (by decide) ?_
      exact ax_less (L' := [(some (av_r a0)), (some (av_i a1)), (some (av_i a2)), (some (av_i a3)), (some (av_i a4)), (some (av_i (a5 + (1)))), none, none, none]) ⟨rfl, rfl, rfl, rfl, rfl, rfl, trivial⟩ (hk64 _ _ _ _ _ _ _ h)
    · rw [if_neg c6] at h
      refine ax_iload_n (i := 3) dL_sound_315 rfl rfl ?_
      refine ax_aload_n (i := 0) dL_sound_316 rfl rfl ?_
      refine ax_iload (i := 5) dL_sound_317 rfl ?_
      refine ax_iload (i := 7) dL_sound_319 rfl ?_
      obtain ⟨w7, gw7, h⟩ := Option.bind_eq_some_iff.mp h
      obtain ⟨q8, gq8, h⟩ := Option.bind_eq_some_iff.mp h
      refine ax_cV (As := [av_i a5, av_i a7]) (t := 6) dL_sound_321 gw7 (th_X9_isCached gq8) rfl (And.intro wd_640 wd_18) wd_700 wd_638 wd_639 cy_X9_isCached (by omega) (by decide) (Nat.le_of_ble_eq_true rfl) rfl ?_
      refine ax_iadd dL_sound_324 ?_
      refine ax_bdI h (fun v9 h => ?_)
      refine ax_istore_n (i := 3) (L2 := [some (av_r a0), some (av_i a1), some (av_i a2), some (av_i v9), some (av_i a4), some (av_i a5), none, some (av_i a7), none]) dL_sound_325 rfl (by decide) rfl rfl ?_
      refine ax_iinc (i := 7) (v := (a7 + (1))) (L2 := [some (av_r a0), some (av_i a1), some (av_i a2), some (av_i v9), some (av_i a4), some (av_i a5), none, some (av_i (a7 + (1))), none]) dL_sound_326 rfl rfl (by decide) rfl rfl ?_
      refine ax_goto (tgt := 308) dL_sound_329 (by decide) ?_
      exact ax_less (L' := [(some (av_r a0)), (some (av_i a1)), (some (av_i a2)), (some (av_i v9)), (some (av_i a4)), (some (av_i a5)), none, (some (av_i (a7 + (1)))), none]) ⟨rfl, rfl, rfl, rfl, rfl, rfl, rfl, trivial⟩ (ih _ _ _ _ _ _ _ _ h)
def fb_L_sound_296 (k64 : Option Nat → Int32 → Int32 → Int32 → Int32 → Int32 → ax_S → Option (Int32 × ax_S)) (k245 : Option Nat → Int32 → Int32 → Int32 → Int32 → Int32 → Int32 → Int32 → ax_S → Option (Int32 × ax_S)) (a0 : Option Nat) (a1 : Int32) (a2 : Int32) (a3 : Int32) (a5 : Int32) (a6 : Int32) (a7 : Int32) (s : ax_S) : Option (Int32 × ax_S) :=
  k245 a0 a1 a2 a3 (0) a5 a6 (a7 + (1)) s
set_option maxRecDepth 100000 in
set_option maxHeartbeats 4000000 in
theorem tb_L_sound_296 {q : Int32 × ax_S} {k64 : Option Nat → Int32 → Int32 → Int32 → Int32 → Int32 → ax_S → Option (Int32 × ax_S)} {k245 : Option Nat → Int32 → Int32 → Int32 → Int32 → Int32 → Int32 → Int32 → ax_S → Option (Int32 × ax_S)} (hk64 : ∀ (a0 : Option Nat) (a1 : Int32) (a2 : Int32) (a3 : Int32) (a4 : Int32) (a5 : Int32) (s : ax_S), k64 a0 a1 a2 a3 a4 a5 s = some q → AW mm_L_sound 4 0 0 64 [(some (av_r a0)), (some (av_i a1)), (some (av_i a2)), (some (av_i a3)), (some (av_i a4)), (some (av_i a5)), none, none, none] [] s (some (av_i q.1), q.2)) (hk245 : ∀ (a0 : Option Nat) (a1 : Int32) (a2 : Int32) (a3 : Int32) (a4 : Int32) (a5 : Int32) (a6 : Int32) (a7 : Int32) (s : ax_S), k245 a0 a1 a2 a3 a4 a5 a6 a7 s = some q → AW mm_L_sound 4 0 0 245 [(some (av_r a0)), (some (av_i a1)), (some (av_i a2)), (some (av_i a3)), (some (av_i a4)), (some (av_i a5)), (some (av_i a6)), (some (av_i a7)), none] [] s (some (av_i q.1), q.2)) {a0 : Option Nat} {a1 : Int32} {a2 : Int32} {a3 : Int32} {a5 : Int32} {a6 : Int32} {a7 : Int32} {s : ax_S} (h : fb_L_sound_296 k64 k245 a0 a1 a2 a3 a5 a6 a7 s = some q) : AW mm_L_sound 4 0 0 296 [(some (av_r a0)), (some (av_i a1)), (some (av_i a2)), (some (av_i a3)), none, (some (av_i a5)), (some (av_i a6)), (some (av_i a7)), none] [] s (some (av_i q.1), q.2) := by
  unfold fb_L_sound_296 at h
  refine ax_iconst (v := (0)) dL_sound_296 rfl ?_
  refine ax_istore (i := 4) (L2 := [some (av_r a0), some (av_i a1), some (av_i a2), some (av_i a3), some (av_i (0)), some (av_i a5), some (av_i a6), some (av_i a7), none]) dL_sound_297 (by decide) rfl rfl ?_
  refine ax_iinc (i := 7) (v := (a7 + (1))) (L2 := [some (av_r a0), some (av_i a1), some (av_i a2), some (av_i a3), some (av_i (0)), some (av_i a5), some (av_i a6), some (av_i (a7 + (1))), none]) dL_sound_299 rfl rfl (by decide) rfl rfl ?_
  refine ax_goto (tgt := 245) dL_sound_302 (by decide) ?_
  exact ax_less (L' := [(some (av_r a0)), (some (av_i a1)), (some (av_i a2)), (some (av_i a3)), (some (av_i (0))), (some (av_i a5)), (some (av_i a6)), (some (av_i (a7 + (1)))), none]) ⟨rfl, rfl, rfl, rfl, rfl, rfl, rfl, rfl, trivial⟩ (hk245 _ _ _ _ _ _ _ _ _ h)
def fb_L_sound_245 (k64 : Option Nat → Int32 → Int32 → Int32 → Int32 → Int32 → ax_S → Option (Int32 × ax_S)) : Nat → Option Nat → Int32 → Int32 → Int32 → Int32 → Int32 → Int32 → Int32 → ax_S → Option (Int32 × ax_S)
  | 0, _, _, _, _, _, _, _, _, _ => none
  | n + 1, a0, a1, a2, a3, a4, a5, a6, a7, s =>
    (fn_L_parameters a6 s).bind fun q10 =>
    if q10.1 ≤ a7 then
      fb_L_sound_308 k64 10000 a0 a1 a2 a3 a4 a5 (0) q10.2
    else
      if a4 = 0 then
        fb_L_sound_308 k64 10000 a0 a1 a2 a3 a4 a5 (0) q10.2
      else
        (ax_sh q10.2 6 a0).bind fun w13 =>
        (fn_X9_parameter a0 a5 a7 q10.2).bind fun q14 =>
        (fn_L_high a6 a7 q14.2).bind fun q15 =>
        if q15.1 < q14.1 then
          fb_L_sound_296 k64 (fb_L_sound_245 k64 n) a0 a1 a2 a3 a5 a6 a7 q15.2
        else
          (ax_sh q15.2 6 a0).bind fun w17 =>
          (fn_X9_parameter a0 a5 a7 q15.2).bind fun q18 =>
          if q18.1 < (-255) then
            fb_L_sound_296 k64 (fb_L_sound_245 k64 n) a0 a1 a2 a3 a5 a6 a7 q18.2
          else
            (fb_L_sound_245 k64 n) a0 a1 a2 a3 (1) a5 a6 (a7 + (1)) q18.2
set_option maxRecDepth 100000 in
set_option maxHeartbeats 4000000 in
theorem tb_L_sound_245 {q : Int32 × ax_S} {k64 : Option Nat → Int32 → Int32 → Int32 → Int32 → Int32 → ax_S → Option (Int32 × ax_S)} (hk64 : ∀ (a0 : Option Nat) (a1 : Int32) (a2 : Int32) (a3 : Int32) (a4 : Int32) (a5 : Int32) (s : ax_S), k64 a0 a1 a2 a3 a4 a5 s = some q → AW mm_L_sound 4 0 0 64 [(some (av_r a0)), (some (av_i a1)), (some (av_i a2)), (some (av_i a3)), (some (av_i a4)), (some (av_i a5)), none, none, none] [] s (some (av_i q.1), q.2)) : ∀ (n : Nat) (a0 : Option Nat) (a1 : Int32) (a2 : Int32) (a3 : Int32) (a4 : Int32) (a5 : Int32) (a6 : Int32) (a7 : Int32) (s : ax_S) (h : fb_L_sound_245 k64 n a0 a1 a2 a3 a4 a5 a6 a7 s = some q), AW mm_L_sound 4 0 0 245 [(some (av_r a0)), (some (av_i a1)), (some (av_i a2)), (some (av_i a3)), (some (av_i a4)), (some (av_i a5)), (some (av_i a6)), (some (av_i a7)), none] [] s (some (av_i q.1), q.2) := by
  intro n
  induction n with
  | zero =>
    intro a0 a1 a2 a3 a4 a5 a6 a7 s h
    exact ax_no h
  | succ n ih =>
    intro a0 a1 a2 a3 a4 a5 a6 a7 s h
    unfold fb_L_sound_245 at h
    refine ax_iload (i := 7) dL_sound_245 rfl ?_
    refine ax_iload (i := 6) dL_sound_247 rfl ?_
    obtain ⟨q10, gq10, h⟩ := Option.bind_eq_some_iff.mp h
    refine ax_cS (As := [av_i a6]) dL_sound_249 (th_L_parameters gq10) (And.intro wd_651 wd_17) wd_649 wd_650 cy_L_parameters (by omega) (by decide) (Nat.le_of_ble_eq_true rfl) rfl ?_
    refine ax_icmp_ge (tgt := 305) dL_sound_252 (by decide) (fun c11 => ?_) (fun c11 => ?_)
    · rw [if_pos c11] at h
      refine ax_iconst (v := (0)) dL_sound_305 rfl ?_
      refine ax_istore (i := 7) (L2 := [some (av_r a0), some (av_i a1), some (av_i a2), some (av_i a3), some (av_i a4), some (av_i a5), some (av_i a6), some (av_i (0)), none]) dL_sound_306 (by decide) rfl rfl ?_
      exact ax_less (L' := [(some (av_r a0)), (some (av_i a1)), (some (av_i a2)), (some (av_i a3)), (some (av_i a4)), (some (av_i a5)), none, (some (av_i (0))), none]) ⟨rfl, rfl, rfl, rfl, rfl, rfl, rfl, trivial⟩ (tb_L_sound_308 hk64 _ _ _ _ _ _ _ _ _ h)
    · rw [if_neg c11] at h
      refine ax_iload (i := 4) dL_sound_255 rfl ?_
      refine ax_if_eq (tgt := 305) dL_sound_257 (by decide) (fun c12 => ?_) (fun c12 => ?_)
      · rw [if_pos c12] at h
        refine ax_iconst (v := (0)) dL_sound_305 rfl ?_
        refine ax_istore (i := 7) (L2 := [some (av_r a0), some (av_i a1), some (av_i a2), some (av_i a3), some (av_i a4), some (av_i a5), some (av_i a6), some (av_i (0)), none]) dL_sound_306 (by decide) rfl rfl ?_
        exact ax_less (L' := [(some (av_r a0)), (some (av_i a1)), (some (av_i a2)), (some (av_i a3)), (some (av_i a4)), (some (av_i a5)), none, (some (av_i (0))), none]) ⟨rfl, rfl, rfl, rfl, rfl, rfl, rfl, trivial⟩ (tb_L_sound_308 hk64 _ _ _ _ _ _ _ _ _ h)
      · rw [if_neg c12] at h
        refine ax_aload_n (i := 0) dL_sound_260 rfl rfl ?_
        refine ax_iload (i := 5) dL_sound_261 rfl ?_
        refine ax_iload (i := 7) dL_sound_263 rfl ?_
        obtain ⟨w13, gw13, h⟩ := Option.bind_eq_some_iff.mp h
        obtain ⟨q14, gq14, h⟩ := Option.bind_eq_some_iff.mp h
        refine ax_cV (As := [av_i a5, av_i a7]) (t := 6) dL_sound_265 gw13 (th_X9_parameter gq14) rfl (And.intro wd_635 wd_18) wd_666 wd_633 wd_634 cy_X9_parameter (by omega) (by decide) (Nat.le_of_ble_eq_true rfl) rfl ?_
        refine ax_iload (i := 6) dL_sound_268 rfl ?_
        refine ax_iload (i := 7) dL_sound_270 rfl ?_
        obtain ⟨q15, gq15, h⟩ := Option.bind_eq_some_iff.mp h
        refine ax_cS (As := [av_i a6, av_i a7]) dL_sound_272 (th_L_high gq15) (And.intro wd_706 wd_17) wd_704 wd_705 cy_L_high (by omega) (by decide) (Nat.le_of_ble_eq_true rfl) rfl ?_
        refine ax_icmp_gt (tgt := 296) dL_sound_275 (by decide) (fun c16 => ?_) (fun c16 => ?_)
        · rw [if_pos c16] at h
          exact ax_less (L' := [(some (av_r a0)), (some (av_i a1)), (some (av_i a2)), (some (av_i a3)), none, (some (av_i a5)), (some (av_i a6)), (some (av_i a7)), none]) ⟨rfl, rfl, rfl, rfl, rfl, rfl, rfl, trivial⟩ (tb_L_sound_296 hk64 ih h)
        · rw [if_neg c16] at h
          refine ax_aload_n (i := 0) dL_sound_278 rfl rfl ?_
          refine ax_iload (i := 5) dL_sound_279 rfl ?_
          refine ax_iload (i := 7) dL_sound_281 rfl ?_
          obtain ⟨w17, gw17, h⟩ := Option.bind_eq_some_iff.mp h
          obtain ⟨q18, gq18, h⟩ := Option.bind_eq_some_iff.mp h
          refine ax_cV (As := [av_i a5, av_i a7]) (t := 6) dL_sound_283 gw17 (th_X9_parameter gq18) rfl (And.intro wd_635 wd_18) wd_666 wd_633 wd_634 cy_X9_parameter (by omega) (by decide) (Nat.le_of_ble_eq_true rfl) rfl ?_
          refine ax_sipush (v := (-255)) dL_sound_286 rfl ?_
          refine ax_icmp_lt (tgt := 296) dL_sound_289 (by decide) (fun c19 => ?_) (fun c19 => ?_)
          · rw [if_pos c19] at h
            exact ax_less (L' := [(some (av_r a0)), (some (av_i a1)), (some (av_i a2)), (some (av_i a3)), none, (some (av_i a5)), (some (av_i a6)), (some (av_i a7)), none]) ⟨rfl, rfl, rfl, rfl, rfl, rfl, rfl, trivial⟩ (tb_L_sound_296 hk64 ih h)
          · rw [if_neg c19] at h
            refine ax_iconst (v := (1)) dL_sound_292 rfl ?_
            refine ax_goto (tgt := 297) dL_sound_293 (by decide) ?_
            refine ax_istore (i := 4) (L2 := [some (av_r a0), some (av_i a1), some (av_i a2), some (av_i a3), some (av_i (1)), some (av_i a5), some (av_i a6), some (av_i a7), none]) dL_sound_297 (by decide) rfl rfl ?_
            refine ax_iinc (i := 7) (v := (a7 + (1))) (L2 := [some (av_r a0), some (av_i a1), some (av_i a2), some (av_i a3), some (av_i (1)), some (av_i a5), some (av_i a6), some (av_i (a7 + (1))), none]) dL_sound_299 rfl rfl (by decide) rfl rfl ?_
            refine ax_goto (tgt := 245) dL_sound_302 (by decide) ?_
            exact ax_less (L' := [(some (av_r a0)), (some (av_i a1)), (some (av_i a2)), (some (av_i a3)), (some (av_i (1))), (some (av_i a5)), (some (av_i a6)), (some (av_i (a7 + (1)))), none]) ⟨rfl, rfl, rfl, rfl, rfl, rfl, rfl, rfl, trivial⟩ (ih _ _ _ _ _ _ _ _ _ h)
def fb_L_sound_229 (k64 : Option Nat → Int32 → Int32 → Int32 → Int32 → Int32 → ax_S → Option (Int32 × ax_S)) (k145 : Option Nat → Int32 → Int32 → Int32 → Int32 → Int32 → Int32 → Int32 → ax_S → Option (Int32 × ax_S)) (a0 : Option Nat) (a1 : Int32) (a2 : Int32) (a3 : Int32) (a5 : Int32) (a6 : Int32) (a7 : Int32) (s : ax_S) : Option (Int32 × ax_S) :=
  k145 a0 a1 a2 a3 (1) a5 a6 (a7 + (1)) s
set_option maxRecDepth 100000 in
set_option maxHeartbeats 4000000 in
theorem tb_L_sound_229 {q : Int32 × ax_S} {k64 : Option Nat → Int32 → Int32 → Int32 → Int32 → Int32 → ax_S → Option (Int32 × ax_S)} {k145 : Option Nat → Int32 → Int32 → Int32 → Int32 → Int32 → Int32 → Int32 → ax_S → Option (Int32 × ax_S)} (hk64 : ∀ (a0 : Option Nat) (a1 : Int32) (a2 : Int32) (a3 : Int32) (a4 : Int32) (a5 : Int32) (s : ax_S), k64 a0 a1 a2 a3 a4 a5 s = some q → AW mm_L_sound 4 0 0 64 [(some (av_r a0)), (some (av_i a1)), (some (av_i a2)), (some (av_i a3)), (some (av_i a4)), (some (av_i a5)), none, none, none] [] s (some (av_i q.1), q.2)) (hk145 : ∀ (a0 : Option Nat) (a1 : Int32) (a2 : Int32) (a3 : Int32) (a4 : Int32) (a5 : Int32) (a6 : Int32) (a7 : Int32) (s : ax_S), k145 a0 a1 a2 a3 a4 a5 a6 a7 s = some q → AW mm_L_sound 4 0 0 145 [(some (av_r a0)), (some (av_i a1)), (some (av_i a2)), (some (av_i a3)), (some (av_i a4)), (some (av_i a5)), (some (av_i a6)), (some (av_i a7)), none] [] s (some (av_i q.1), q.2)) {a0 : Option Nat} {a1 : Int32} {a2 : Int32} {a3 : Int32} {a5 : Int32} {a6 : Int32} {a7 : Int32} {s : ax_S} (h : fb_L_sound_229 k64 k145 a0 a1 a2 a3 a5 a6 a7 s = some q) : AW mm_L_sound 4 0 0 229 [(some (av_r a0)), (some (av_i a1)), (some (av_i a2)), (some (av_i a3)), none, (some (av_i a5)), (some (av_i a6)), (some (av_i a7)), none] [] s (some (av_i q.1), q.2) := by
  unfold fb_L_sound_229 at h
  refine ax_iconst (v := (1)) dL_sound_229 rfl ?_
  refine ax_goto (tgt := 234) dL_sound_230 (by decide) ?_
  refine ax_istore (i := 4) (L2 := [some (av_r a0), some (av_i a1), some (av_i a2), some (av_i a3), some (av_i (1)), some (av_i a5), some (av_i a6), some (av_i a7), none]) dL_sound_234 (by decide) rfl rfl ?_
  refine ax_iinc (i := 7) (v := (a7 + (1))) (L2 := [some (av_r a0), some (av_i a1), some (av_i a2), some (av_i a3), some (av_i (1)), some (av_i a5), some (av_i a6), some (av_i (a7 + (1))), none]) dL_sound_236 rfl rfl (by decide) rfl rfl ?_
  refine ax_goto (tgt := 145) dL_sound_239 (by decide) ?_
  exact ax_less (L' := [(some (av_r a0)), (some (av_i a1)), (some (av_i a2)), (some (av_i a3)), (some (av_i (1))), (some (av_i a5)), (some (av_i a6)), (some (av_i (a7 + (1)))), none]) ⟨rfl, rfl, rfl, rfl, rfl, rfl, rfl, rfl, trivial⟩ (hk145 _ _ _ _ _ _ _ _ _ h)
def fb_L_sound_233 (k64 : Option Nat → Int32 → Int32 → Int32 → Int32 → Int32 → ax_S → Option (Int32 × ax_S)) (k145 : Option Nat → Int32 → Int32 → Int32 → Int32 → Int32 → Int32 → Int32 → ax_S → Option (Int32 × ax_S)) (a0 : Option Nat) (a1 : Int32) (a2 : Int32) (a3 : Int32) (a5 : Int32) (a6 : Int32) (a7 : Int32) (s : ax_S) : Option (Int32 × ax_S) :=
  k145 a0 a1 a2 a3 (0) a5 a6 (a7 + (1)) s
set_option maxRecDepth 100000 in
set_option maxHeartbeats 4000000 in
theorem tb_L_sound_233 {q : Int32 × ax_S} {k64 : Option Nat → Int32 → Int32 → Int32 → Int32 → Int32 → ax_S → Option (Int32 × ax_S)} {k145 : Option Nat → Int32 → Int32 → Int32 → Int32 → Int32 → Int32 → Int32 → ax_S → Option (Int32 × ax_S)} (hk64 : ∀ (a0 : Option Nat) (a1 : Int32) (a2 : Int32) (a3 : Int32) (a4 : Int32) (a5 : Int32) (s : ax_S), k64 a0 a1 a2 a3 a4 a5 s = some q → AW mm_L_sound 4 0 0 64 [(some (av_r a0)), (some (av_i a1)), (some (av_i a2)), (some (av_i a3)), (some (av_i a4)), (some (av_i a5)), none, none, none] [] s (some (av_i q.1), q.2)) (hk145 : ∀ (a0 : Option Nat) (a1 : Int32) (a2 : Int32) (a3 : Int32) (a4 : Int32) (a5 : Int32) (a6 : Int32) (a7 : Int32) (s : ax_S), k145 a0 a1 a2 a3 a4 a5 a6 a7 s = some q → AW mm_L_sound 4 0 0 145 [(some (av_r a0)), (some (av_i a1)), (some (av_i a2)), (some (av_i a3)), (some (av_i a4)), (some (av_i a5)), (some (av_i a6)), (some (av_i a7)), none] [] s (some (av_i q.1), q.2)) {a0 : Option Nat} {a1 : Int32} {a2 : Int32} {a3 : Int32} {a5 : Int32} {a6 : Int32} {a7 : Int32} {s : ax_S} (h : fb_L_sound_233 k64 k145 a0 a1 a2 a3 a5 a6 a7 s = some q) : AW mm_L_sound 4 0 0 233 [(some (av_r a0)), (some (av_i a1)), (some (av_i a2)), (some (av_i a3)), none, (some (av_i a5)), (some (av_i a6)), (some (av_i a7)), none] [] s (some (av_i q.1), q.2) := by
  unfold fb_L_sound_233 at h
  refine ax_iconst (v := (0)) dL_sound_233 rfl ?_
  refine ax_istore (i := 4) (L2 := [some (av_r a0), some (av_i a1), some (av_i a2), some (av_i a3), some (av_i (0)), some (av_i a5), some (av_i a6), some (av_i a7), none]) dL_sound_234 (by decide) rfl rfl ?_
  refine ax_iinc (i := 7) (v := (a7 + (1))) (L2 := [some (av_r a0), some (av_i a1), some (av_i a2), some (av_i a3), some (av_i (0)), some (av_i a5), some (av_i a6), some (av_i (a7 + (1))), none]) dL_sound_236 rfl rfl (by decide) rfl rfl ?_
  refine ax_goto (tgt := 145) dL_sound_239 (by decide) ?_
  exact ax_less (L' := [(some (av_r a0)), (some (av_i a1)), (some (av_i a2)), (some (av_i a3)), (some (av_i (0))), (some (av_i a5)), (some (av_i a6)), (some (av_i (a7 + (1)))), none]) ⟨rfl, rfl, rfl, rfl, rfl, rfl, rfl, rfl, trivial⟩ (hk145 _ _ _ _ _ _ _ _ _ h)
def fb_L_sound_145 (k64 : Option Nat → Int32 → Int32 → Int32 → Int32 → Int32 → ax_S → Option (Int32 × ax_S)) : Nat → Option Nat → Int32 → Int32 → Int32 → Int32 → Int32 → Int32 → Int32 → ax_S → Option (Int32 × ax_S)
  | 0, _, _, _, _, _, _, _, _, _ => none
  | n + 1, a0, a1, a2, a3, a4, a5, a6, a7, s =>
    (fn_L_inputs a6 s).bind fun q20 =>
    if q20.1 ≤ a7 then
      fb_L_sound_245 k64 10000 a0 a1 a2 a3 a4 a5 a6 (0) q20.2
    else
      if a4 = 0 then
        fb_L_sound_245 k64 10000 a0 a1 a2 a3 a4 a5 a6 (0) q20.2
      else
        (ax_sh q20.2 6 a0).bind fun w23 =>
        (fn_X9_input a0 a5 a7 q20.2).bind fun q24 =>
        if q24.1 = (-1005) then
          fb_L_sound_229 k64 (fb_L_sound_145 k64 n) a0 a1 a2 a3 a5 a6 a7 q24.2
        else
          (ax_sh q24.2 6 a0).bind fun w26 =>
          (fn_X9_node a0 q24.1 (4) q24.2).bind fun q27 =>
          (ax_sh q27.2 6 a0).bind fun w28 =>
          (fn_X9_node a0 a5 (4) q27.2).bind fun q29 =>
          if q29.1 ≤ q27.1 then
            fb_L_sound_233 k64 (fb_L_sound_145 k64 n) a0 a1 a2 a3 a5 a6 a7 q29.2
          else
            (ax_sh q29.2 6 a0).bind fun w31 =>
            (fn_X9_node a0 q24.1 (5) q29.2).bind fun q32 =>
            (ax_sh q32.2 6 a0).bind fun w33 =>
            (fn_X9_node a0 a5 (5) q32.2).bind fun q34 =>
            if q34.1 ≤ q32.1 then
              fb_L_sound_233 k64 (fb_L_sound_145 k64 n) a0 a1 a2 a3 a5 a6 a7 q34.2
            else
              (ax_sh q34.2 6 a0).bind fun w36 =>
              (fn_X9_node a0 q24.1 (3) q34.2).bind fun q37 =>
              (ax_sh q37.2 6 a0).bind fun w38 =>
              (fn_X9_node a0 a5 (3) q37.2).bind fun q39 =>
              if q37.1 ≤ q39.1 then
                fb_L_sound_233 k64 (fb_L_sound_145 k64 n) a0 a1 a2 a3 a5 a6 a7 q39.2
              else
                fb_L_sound_229 k64 (fb_L_sound_145 k64 n) a0 a1 a2 a3 a5 a6 a7 q39.2
set_option maxRecDepth 100000 in
set_option maxHeartbeats 4000000 in
theorem tb_L_sound_145 {q : Int32 × ax_S} {k64 : Option Nat → Int32 → Int32 → Int32 → Int32 → Int32 → ax_S → Option (Int32 × ax_S)} (hk64 : ∀ (a0 : Option Nat) (a1 : Int32) (a2 : Int32) (a3 : Int32) (a4 : Int32) (a5 : Int32) (s : ax_S), k64 a0 a1 a2 a3 a4 a5 s = some q → AW mm_L_sound 4 0 0 64 [(some (av_r a0)), (some (av_i a1)), (some (av_i a2)), (some (av_i a3)), (some (av_i a4)), (some (av_i a5)), none, none, none] [] s (some (av_i q.1), q.2)) : ∀ (n : Nat) (a0 : Option Nat) (a1 : Int32) (a2 : Int32) (a3 : Int32) (a4 : Int32) (a5 : Int32) (a6 : Int32) (a7 : Int32) (s : ax_S) (h : fb_L_sound_145 k64 n a0 a1 a2 a3 a4 a5 a6 a7 s = some q), AW mm_L_sound 4 0 0 145 [(some (av_r a0)), (some (av_i a1)), (some (av_i a2)), (some (av_i a3)), (some (av_i a4)), (some (av_i a5)), (some (av_i a6)), (some (av_i a7)), none] [] s (some (av_i q.1), q.2) := by
  intro n
  induction n with
  | zero =>
    intro a0 a1 a2 a3 a4 a5 a6 a7 s h
    exact ax_no h
  | succ n ih =>
    intro a0 a1 a2 a3 a4 a5 a6 a7 s h
    unfold fb_L_sound_145 at h
    refine ax_iload (i := 7) dL_sound_145 rfl ?_
    refine ax_iload (i := 6) dL_sound_147 rfl ?_
    obtain ⟨q20, gq20, h⟩ := Option.bind_eq_some_iff.mp h
    refine ax_cS (As := [av_i a6]) dL_sound_149 (th_L_inputs gq20) (And.intro wd_648 wd_17) wd_646 wd_647 cy_L_inputs (by omega) (by decide) (Nat.le_of_ble_eq_true rfl) rfl ?_
    refine ax_icmp_ge (tgt := 242) dL_sound_152 (by decide) (fun c21 => ?_) (fun c21 => ?_)
    · rw [if_pos c21] at h
      refine ax_iconst (v := (0)) dL_sound_242 rfl ?_
      refine ax_istore (i := 7) (L2 := [some (av_r a0), some (av_i a1), some (av_i a2), some (av_i a3), some (av_i a4), some (av_i a5), some (av_i a6), some (av_i (0)), none]) dL_sound_243 (by decide) rfl rfl ?_
      exact ax_less (L' := [(some (av_r a0)), (some (av_i a1)), (some (av_i a2)), (some (av_i a3)), (some (av_i a4)), (some (av_i a5)), (some (av_i a6)), (some (av_i (0))), none]) ⟨rfl, rfl, rfl, rfl, rfl, rfl, rfl, rfl, trivial⟩ (tb_L_sound_245 hk64 _ _ _ _ _ _ _ _ _ _ h)
    · rw [if_neg c21] at h
      refine ax_iload (i := 4) dL_sound_155 rfl ?_
      refine ax_if_eq (tgt := 242) dL_sound_157 (by decide) (fun c22 => ?_) (fun c22 => ?_)
      · rw [if_pos c22] at h
        refine ax_iconst (v := (0)) dL_sound_242 rfl ?_
        refine ax_istore (i := 7) (L2 := [some (av_r a0), some (av_i a1), some (av_i a2), some (av_i a3), some (av_i a4), some (av_i a5), some (av_i a6), some (av_i (0)), none]) dL_sound_243 (by decide) rfl rfl ?_
        exact ax_less (L' := [(some (av_r a0)), (some (av_i a1)), (some (av_i a2)), (some (av_i a3)), (some (av_i a4)), (some (av_i a5)), (some (av_i a6)), (some (av_i (0))), none]) ⟨rfl, rfl, rfl, rfl, rfl, rfl, rfl, rfl, trivial⟩ (tb_L_sound_245 hk64 _ _ _ _ _ _ _ _ _ _ h)
      · rw [if_neg c22] at h
        refine ax_aload_n (i := 0) dL_sound_160 rfl rfl ?_
        refine ax_iload (i := 5) dL_sound_161 rfl ?_
        refine ax_iload (i := 7) dL_sound_163 rfl ?_
        obtain ⟨w23, gw23, h⟩ := Option.bind_eq_some_iff.mp h
        obtain ⟨q24, gq24, h⟩ := Option.bind_eq_some_iff.mp h
        refine ax_cV (As := [av_i a5, av_i a7]) (t := 6) dL_sound_165 gw23 (th_X9_input gq24) rfl (And.intro wd_630 wd_18) wd_665 wd_628 wd_629 cy_X9_input (by omega) (by decide) (Nat.le_of_ble_eq_true rfl) rfl ?_
        refine ax_istore (i := 8) (L2 := [some (av_r a0), some (av_i a1), some (av_i a2), some (av_i a3), some (av_i a4), some (av_i a5), some (av_i a6), some (av_i a7), some (av_i q24.1)]) dL_sound_168 (by decide) rfl rfl ?_
        refine ax_iload (i := 8) dL_sound_170 rfl ?_
        refine ax_sipush (v := (-1005)) dL_sound_172 rfl ?_
        refine ax_icmp_eq (tgt := 229) dL_sound_175 (by decide) (fun c25 => ?_) (fun c25 => ?_)
        · rw [if_pos c25] at h
          exact ax_less (L' := [(some (av_r a0)), (some (av_i a1)), (some (av_i a2)), (some (av_i a3)), none, (some (av_i a5)), (some (av_i a6)), (some (av_i a7)), none]) ⟨rfl, rfl, rfl, rfl, rfl, rfl, rfl, trivial⟩ (tb_L_sound_229 hk64 ih h)
        · rw [if_neg c25] at h
          refine ax_aload_n (i := 0) dL_sound_178 rfl rfl ?_
          refine ax_iload (i := 8) dL_sound_179 rfl ?_
          refine ax_iconst (v := (4)) dL_sound_181 rfl ?_
          obtain ⟨w26, gw26, h⟩ := Option.bind_eq_some_iff.mp h
          obtain ⟨q27, gq27, h⟩ := Option.bind_eq_some_iff.mp h
          refine ax_cV (As := [av_i q24.1, av_i (4)]) (t := 6) dL_sound_182 gw26 (th_X9_node gq27) rfl (And.intro wd_619 wd_18) wd_664 wd_617 wd_618 cy_X9_node (by omega) (by decide) (Nat.le_of_ble_eq_true rfl) rfl ?_
          refine ax_aload_n (i := 0) dL_sound_185 rfl rfl ?_
          refine ax_iload (i := 5) dL_sound_186 rfl ?_
          refine ax_iconst (v := (4)) dL_sound_188 rfl ?_
          obtain ⟨w28, gw28, h⟩ := Option.bind_eq_some_iff.mp h
          obtain ⟨q29, gq29, h⟩ := Option.bind_eq_some_iff.mp h
          refine ax_cV (As := [av_i a5, av_i (4)]) (t := 6) dL_sound_189 gw28 (th_X9_node gq29) rfl (And.intro wd_619 wd_18) wd_664 wd_617 wd_618 cy_X9_node (by omega) (by decide) (Nat.le_of_ble_eq_true rfl) rfl ?_
          refine ax_icmp_ge (tgt := 233) dL_sound_192 (by decide) (fun c30 => ?_) (fun c30 => ?_)
          · rw [if_pos c30] at h
            exact ax_less (L' := [(some (av_r a0)), (some (av_i a1)), (some (av_i a2)), (some (av_i a3)), none, (some (av_i a5)), (some (av_i a6)), (some (av_i a7)), none]) ⟨rfl, rfl, rfl, rfl, rfl, rfl, rfl, trivial⟩ (tb_L_sound_233 hk64 ih h)
          · rw [if_neg c30] at h
            refine ax_aload_n (i := 0) dL_sound_195 rfl rfl ?_
            refine ax_iload (i := 8) dL_sound_196 rfl ?_
            refine ax_iconst (v := (5)) dL_sound_198 rfl ?_
            obtain ⟨w31, gw31, h⟩ := Option.bind_eq_some_iff.mp h
            obtain ⟨q32, gq32, h⟩ := Option.bind_eq_some_iff.mp h
            refine ax_cV (As := [av_i q24.1, av_i (5)]) (t := 6) dL_sound_199 gw31 (th_X9_node gq32) rfl (And.intro wd_619 wd_18) wd_664 wd_617 wd_618 cy_X9_node (by omega) (by decide) (Nat.le_of_ble_eq_true rfl) rfl ?_
            refine ax_aload_n (i := 0) dL_sound_202 rfl rfl ?_
            refine ax_iload (i := 5) dL_sound_203 rfl ?_
            refine ax_iconst (v := (5)) dL_sound_205 rfl ?_
            obtain ⟨w33, gw33, h⟩ := Option.bind_eq_some_iff.mp h
            obtain ⟨q34, gq34, h⟩ := Option.bind_eq_some_iff.mp h
            refine ax_cV (As := [av_i a5, av_i (5)]) (t := 6) dL_sound_206 gw33 (th_X9_node gq34) rfl (And.intro wd_619 wd_18) wd_664 wd_617 wd_618 cy_X9_node (by omega) (by decide) (Nat.le_of_ble_eq_true rfl) rfl ?_
            refine ax_icmp_ge (tgt := 233) dL_sound_209 (by decide) (fun c35 => ?_) (fun c35 => ?_)
            · rw [if_pos c35] at h
              exact ax_less (L' := [(some (av_r a0)), (some (av_i a1)), (some (av_i a2)), (some (av_i a3)), none, (some (av_i a5)), (some (av_i a6)), (some (av_i a7)), none]) ⟨rfl, rfl, rfl, rfl, rfl, rfl, rfl, trivial⟩ (tb_L_sound_233 hk64 ih h)
            · rw [if_neg c35] at h
              refine ax_aload_n (i := 0) dL_sound_212 rfl rfl ?_
              refine ax_iload (i := 8) dL_sound_213 rfl ?_
              refine ax_iconst (v := (3)) dL_sound_215 rfl ?_
              obtain ⟨w36, gw36, h⟩ := Option.bind_eq_some_iff.mp h
              obtain ⟨q37, gq37, h⟩ := Option.bind_eq_some_iff.mp h
              refine ax_cV (As := [av_i q24.1, av_i (3)]) (t := 6) dL_sound_216 gw36 (th_X9_node gq37) rfl (And.intro wd_619 wd_18) wd_664 wd_617 wd_618 cy_X9_node (by omega) (by decide) (Nat.le_of_ble_eq_true rfl) rfl ?_
              refine ax_aload_n (i := 0) dL_sound_219 rfl rfl ?_
              refine ax_iload (i := 5) dL_sound_220 rfl ?_
              refine ax_iconst (v := (3)) dL_sound_222 rfl ?_
              obtain ⟨w38, gw38, h⟩ := Option.bind_eq_some_iff.mp h
              obtain ⟨q39, gq39, h⟩ := Option.bind_eq_some_iff.mp h
              refine ax_cV (As := [av_i a5, av_i (3)]) (t := 6) dL_sound_223 gw38 (th_X9_node gq39) rfl (And.intro wd_619 wd_18) wd_664 wd_617 wd_618 cy_X9_node (by omega) (by decide) (Nat.le_of_ble_eq_true rfl) rfl ?_
              refine ax_icmp_le (tgt := 233) dL_sound_226 (by decide) (fun c40 => ?_) (fun c40 => ?_)
              · rw [if_pos c40] at h
                exact ax_less (L' := [(some (av_r a0)), (some (av_i a1)), (some (av_i a2)), (some (av_i a3)), none, (some (av_i a5)), (some (av_i a6)), (some (av_i a7)), none]) ⟨rfl, rfl, rfl, rfl, rfl, rfl, rfl, trivial⟩ (tb_L_sound_233 hk64 ih h)
              · rw [if_neg c40] at h
                exact ax_less (L' := [(some (av_r a0)), (some (av_i a1)), (some (av_i a2)), (some (av_i a3)), none, (some (av_i a5)), (some (av_i a6)), (some (av_i a7)), none]) ⟨rfl, rfl, rfl, rfl, rfl, rfl, rfl, trivial⟩ (tb_L_sound_229 hk64 ih h)
def fb_L_sound_139 (k64 : Option Nat → Int32 → Int32 → Int32 → Int32 → Int32 → ax_S → Option (Int32 × ax_S)) (a0 : Option Nat) (a1 : Int32) (a2 : Int32) (a3 : Int32) (a5 : Int32) (a6 : Int32) (s : ax_S) : Option (Int32 × ax_S) :=
  fb_L_sound_145 k64 10000 a0 a1 a2 a3 (0) a5 a6 (0) s
set_option maxRecDepth 100000 in
set_option maxHeartbeats 4000000 in
theorem tb_L_sound_139 {q : Int32 × ax_S} {k64 : Option Nat → Int32 → Int32 → Int32 → Int32 → Int32 → ax_S → Option (Int32 × ax_S)} (hk64 : ∀ (a0 : Option Nat) (a1 : Int32) (a2 : Int32) (a3 : Int32) (a4 : Int32) (a5 : Int32) (s : ax_S), k64 a0 a1 a2 a3 a4 a5 s = some q → AW mm_L_sound 4 0 0 64 [(some (av_r a0)), (some (av_i a1)), (some (av_i a2)), (some (av_i a3)), (some (av_i a4)), (some (av_i a5)), none, none, none] [] s (some (av_i q.1), q.2)) {a0 : Option Nat} {a1 : Int32} {a2 : Int32} {a3 : Int32} {a5 : Int32} {a6 : Int32} {s : ax_S} (h : fb_L_sound_139 k64 a0 a1 a2 a3 a5 a6 s = some q) : AW mm_L_sound 4 0 0 139 [(some (av_r a0)), (some (av_i a1)), (some (av_i a2)), (some (av_i a3)), none, (some (av_i a5)), (some (av_i a6)), none, none] [] s (some (av_i q.1), q.2) := by
  unfold fb_L_sound_139 at h
  refine ax_iconst (v := (0)) dL_sound_139 rfl ?_
  refine ax_istore (i := 4) (L2 := [some (av_r a0), some (av_i a1), some (av_i a2), some (av_i a3), some (av_i (0)), some (av_i a5), some (av_i a6), none, none]) dL_sound_140 (by decide) rfl rfl ?_
  refine ax_iconst (v := (0)) dL_sound_142 rfl ?_
  refine ax_istore (i := 7) (L2 := [some (av_r a0), some (av_i a1), some (av_i a2), some (av_i a3), some (av_i (0)), some (av_i a5), some (av_i a6), some (av_i (0)), none]) dL_sound_143 (by decide) rfl rfl ?_
  exact ax_less (L' := [(some (av_r a0)), (some (av_i a1)), (some (av_i a2)), (some (av_i a3)), (some (av_i (0))), (some (av_i a5)), (some (av_i a6)), (some (av_i (0))), none]) ⟨rfl, rfl, rfl, rfl, rfl, rfl, rfl, rfl, trivial⟩ (tb_L_sound_145 hk64 _ _ _ _ _ _ _ _ _ _ h)
def fb_L_sound_64 : Nat → Option Nat → Int32 → Int32 → Int32 → Int32 → Int32 → ax_S → Option (Int32 × ax_S)
  | 0, _, _, _, _, _, _, _ => none
  | n + 1, a0, a1, a2, a3, a4, a5, s =>
    if a1 ≤ a5 then
      fb_L_sound_338 a0 a1 a2 a3 a4 s
    else
      if a4 = 0 then
        fb_L_sound_338 a0 a1 a2 a3 a4 s
      else
        (ax_sh s 6 a0).bind fun w43 =>
        (fn_X9_node a0 a5 (0) s).bind fun q44 =>
        (ax_sh q44.2 6 a0).bind fun w45 =>
        (fn_X9_node a0 a5 (4) q44.2).bind fun q46 =>
        ax_bd ((a2 ||| ((1) <<< (q46.1 &&& 31)))) fun v47 =>
        (ax_sh q46.2 6 a0).bind fun w48 =>
        (fn_X9_node a0 a5 (3) q46.2).bind fun q49 =>
        if q49.1 < (1) then
          fb_L_sound_139 (fb_L_sound_64 n) a0 a1 v47 a3 a5 q44.1 q49.2
        else
          (ax_sh q49.2 6 a0).bind fun w51 =>
          (fn_X9_node a0 a5 (3) q49.2).bind fun q52 =>
          if a1 < q52.1 then
            fb_L_sound_139 (fb_L_sound_64 n) a0 a1 v47 a3 a5 q44.1 q52.2
          else
            (ax_sh q52.2 6 a0).bind fun w54 =>
            (fn_X9_node a0 a5 (1) q52.2).bind fun q55 =>
            (ax_sh q55.2 6 a0).bind fun w56 =>
            (fn_X9_node a0 a5 (2) q55.2).bind fun q57 =>
            if q57.1 < q55.1 then
              fb_L_sound_139 (fb_L_sound_64 n) a0 a1 v47 a3 a5 q44.1 q57.2
            else
              fb_L_sound_145 (fb_L_sound_64 n) 10000 a0 a1 v47 a3 (1) a5 q44.1 (0) q57.2
set_option maxRecDepth 100000 in
set_option maxHeartbeats 4000000 in
theorem tb_L_sound_64 {q : Int32 × ax_S} : ∀ (n : Nat) (a0 : Option Nat) (a1 : Int32) (a2 : Int32) (a3 : Int32) (a4 : Int32) (a5 : Int32) (s : ax_S) (h : fb_L_sound_64 n a0 a1 a2 a3 a4 a5 s = some q), AW mm_L_sound 4 0 0 64 [(some (av_r a0)), (some (av_i a1)), (some (av_i a2)), (some (av_i a3)), (some (av_i a4)), (some (av_i a5)), none, none, none] [] s (some (av_i q.1), q.2) := by
  intro n
  induction n with
  | zero =>
    intro a0 a1 a2 a3 a4 a5 s h
    exact ax_no h
  | succ n ih =>
    intro a0 a1 a2 a3 a4 a5 s h
    unfold fb_L_sound_64 at h
    refine ax_iload (i := 5) dL_sound_64 rfl ?_
    refine ax_iload_n (i := 1) dL_sound_66 rfl rfl ?_
    refine ax_icmp_ge (tgt := 338) dL_sound_67 (by decide) (fun c41 => ?_) (fun c41 => ?_)
    · rw [if_pos c41] at h
      exact ax_less (L' := [(some (av_r a0)), (some (av_i a1)), (some (av_i a2)), (some (av_i a3)), (some (av_i a4)), none, none, none, none]) ⟨rfl, rfl, rfl, rfl, rfl, trivial⟩ (tb_L_sound_338  h)
    · rw [if_neg c41] at h
      refine ax_iload (i := 4) dL_sound_70 rfl ?_
      refine ax_if_eq (tgt := 338) dL_sound_72 (by decide) (fun c42 => ?_) (fun c42 => ?_)
      · rw [if_pos c42] at h
        exact ax_less (L' := [(some (av_r a0)), (some (av_i a1)), (some (av_i a2)), (some (av_i a3)), (some (av_i a4)), none, none, none, none]) ⟨rfl, rfl, rfl, rfl, rfl, trivial⟩ (tb_L_sound_338  h)
      · rw [if_neg c42] at h
        refine ax_aload_n (i := 0) dL_sound_75 rfl rfl ?_
        refine ax_iload (i := 5) dL_sound_76 rfl ?_
        refine ax_iconst (v := (0)) dL_sound_78 rfl ?_
        obtain ⟨w43, gw43, h⟩ := Option.bind_eq_some_iff.mp h
        obtain ⟨q44, gq44, h⟩ := Option.bind_eq_some_iff.mp h
        refine ax_cV (As := [av_i a5, av_i (0)]) (t := 6) dL_sound_79 gw43 (th_X9_node gq44) rfl (And.intro wd_619 wd_18) wd_664 wd_617 wd_618 cy_X9_node (by omega) (by decide) (Nat.le_of_ble_eq_true rfl) rfl ?_
        refine ax_istore (i := 6) (L2 := [some (av_r a0), some (av_i a1), some (av_i a2), some (av_i a3), some (av_i a4), some (av_i a5), some (av_i q44.1), none, none]) dL_sound_82 (by decide) rfl rfl ?_
        refine ax_iload_n (i := 2) dL_sound_84 rfl rfl ?_
        refine ax_iconst (v := (1)) dL_sound_85 rfl ?_
        refine ax_aload_n (i := 0) dL_sound_86 rfl rfl ?_
        refine ax_iload (i := 5) dL_sound_87 rfl ?_
        refine ax_iconst (v := (4)) dL_sound_89 rfl ?_
        obtain ⟨w45, gw45, h⟩ := Option.bind_eq_some_iff.mp h
        obtain ⟨q46, gq46, h⟩ := Option.bind_eq_some_iff.mp h
        refine ax_cV (As := [av_i a5, av_i (4)]) (t := 6) dL_sound_90 gw45 (th_X9_node gq46) rfl (And.intro wd_619 wd_18) wd_664 wd_617 wd_618 cy_X9_node (by omega) (by decide) (Nat.le_of_ble_eq_true rfl) rfl ?_
        refine ax_ishl dL_sound_93 ?_
        refine ax_ior dL_sound_94 ?_
        refine ax_bdI h (fun v47 h => ?_)
        refine ax_istore_n (i := 2) (L2 := [some (av_r a0), some (av_i a1), some (av_i v47), some (av_i a3), some (av_i a4), some (av_i a5), some (av_i q44.1), none, none]) dL_sound_95 rfl (by decide) rfl rfl ?_
        refine ax_aload_n (i := 0) dL_sound_96 rfl rfl ?_
        refine ax_iload (i := 5) dL_sound_97 rfl ?_
        refine ax_iconst (v := (3)) dL_sound_99 rfl ?_
        obtain ⟨w48, gw48, h⟩ := Option.bind_eq_some_iff.mp h
        obtain ⟨q49, gq49, h⟩ := Option.bind_eq_some_iff.mp h
        refine ax_cV (As := [av_i a5, av_i (3)]) (t := 6) dL_sound_100 gw48 (th_X9_node gq49) rfl (And.intro wd_619 wd_18) wd_664 wd_617 wd_618 cy_X9_node (by omega) (by decide) (Nat.le_of_ble_eq_true rfl) rfl ?_
        refine ax_iconst (v := (1)) dL_sound_103 rfl ?_
        refine ax_icmp_lt (tgt := 139) dL_sound_104 (by decide) (fun c50 => ?_) (fun c50 => ?_)
        · rw [if_pos c50] at h
          exact ax_less (L' := [(some (av_r a0)), (some (av_i a1)), (some (av_i v47)), (some (av_i a3)), none, (some (av_i a5)), (some (av_i q44.1)), none, none]) ⟨rfl, rfl, rfl, rfl, rfl, rfl, trivial⟩ (tb_L_sound_139 ih h)
        · rw [if_neg c50] at h
          refine ax_aload_n (i := 0) dL_sound_107 rfl rfl ?_
          refine ax_iload (i := 5) dL_sound_108 rfl ?_
          refine ax_iconst (v := (3)) dL_sound_110 rfl ?_
          obtain ⟨w51, gw51, h⟩ := Option.bind_eq_some_iff.mp h
          obtain ⟨q52, gq52, h⟩ := Option.bind_eq_some_iff.mp h
          refine ax_cV (As := [av_i a5, av_i (3)]) (t := 6) dL_sound_111 gw51 (th_X9_node gq52) rfl (And.intro wd_619 wd_18) wd_664 wd_617 wd_618 cy_X9_node (by omega) (by decide) (Nat.le_of_ble_eq_true rfl) rfl ?_
          refine ax_iload_n (i := 1) dL_sound_114 rfl rfl ?_
          refine ax_icmp_gt (tgt := 139) dL_sound_115 (by decide) (fun c53 => ?_) (fun c53 => ?_)
          · rw [if_pos c53] at h
            exact ax_less (L' := [(some (av_r a0)), (some (av_i a1)), (some (av_i v47)), (some (av_i a3)), none, (some (av_i a5)), (some (av_i q44.1)), none, none]) ⟨rfl, rfl, rfl, rfl, rfl, rfl, trivial⟩ (tb_L_sound_139 ih h)
          · rw [if_neg c53] at h
            refine ax_aload_n (i := 0) dL_sound_118 rfl rfl ?_
            refine ax_iload (i := 5) dL_sound_119 rfl ?_
            refine ax_iconst (v := (1)) dL_sound_121 rfl ?_
            obtain ⟨w54, gw54, h⟩ := Option.bind_eq_some_iff.mp h
            obtain ⟨q55, gq55, h⟩ := Option.bind_eq_some_iff.mp h
            refine ax_cV (As := [av_i a5, av_i (1)]) (t := 6) dL_sound_122 gw54 (th_X9_node gq55) rfl (And.intro wd_619 wd_18) wd_664 wd_617 wd_618 cy_X9_node (by omega) (by decide) (Nat.le_of_ble_eq_true rfl) rfl ?_
            refine ax_aload_n (i := 0) dL_sound_125 rfl rfl ?_
            refine ax_iload (i := 5) dL_sound_126 rfl ?_
            refine ax_iconst (v := (2)) dL_sound_128 rfl ?_
            obtain ⟨w56, gw56, h⟩ := Option.bind_eq_some_iff.mp h
            obtain ⟨q57, gq57, h⟩ := Option.bind_eq_some_iff.mp h
            refine ax_cV (As := [av_i a5, av_i (2)]) (t := 6) dL_sound_129 gw56 (th_X9_node gq57) rfl (And.intro wd_619 wd_18) wd_664 wd_617 wd_618 cy_X9_node (by omega) (by decide) (Nat.le_of_ble_eq_true rfl) rfl ?_
            refine ax_icmp_gt (tgt := 139) dL_sound_132 (by decide) (fun c58 => ?_) (fun c58 => ?_)
            · rw [if_pos c58] at h
              exact ax_less (L' := [(some (av_r a0)), (some (av_i a1)), (some (av_i v47)), (some (av_i a3)), none, (some (av_i a5)), (some (av_i q44.1)), none, none]) ⟨rfl, rfl, rfl, rfl, rfl, rfl, trivial⟩ (tb_L_sound_139 ih h)
            · rw [if_neg c58] at h
              refine ax_iconst (v := (1)) dL_sound_135 rfl ?_
              refine ax_goto (tgt := 140) dL_sound_136 (by decide) ?_
              refine ax_istore (i := 4) (L2 := [some (av_r a0), some (av_i a1), some (av_i v47), some (av_i a3), some (av_i (1)), some (av_i a5), some (av_i q44.1), none, none]) dL_sound_140 (by decide) rfl rfl ?_
              refine ax_iconst (v := (0)) dL_sound_142 rfl ?_
              refine ax_istore (i := 7) (L2 := [some (av_r a0), some (av_i a1), some (av_i v47), some (av_i a3), some (av_i (1)), some (av_i a5), some (av_i q44.1), some (av_i (0)), none]) dL_sound_143 (by decide) rfl rfl ?_
              exact ax_less (L' := [(some (av_r a0)), (some (av_i a1)), (some (av_i v47)), (some (av_i a3)), (some (av_i (1))), (some (av_i a5)), (some (av_i q44.1)), (some (av_i (0))), none]) ⟨rfl, rfl, rfl, rfl, rfl, rfl, rfl, rfl, trivial⟩ (tb_L_sound_145 ih _ _ _ _ _ _ _ _ _ _ h)
def fb_L_sound_58 (a0 : Option Nat) (a1 : Int32) (a2 : Int32) (a3 : Int32) (s : ax_S) : Option (Int32 × ax_S) :=
  fb_L_sound_64 10000 a0 a1 a2 a3 (0) (0) s
set_option maxRecDepth 100000 in
set_option maxHeartbeats 4000000 in
theorem tb_L_sound_58 {q : Int32 × ax_S} {a0 : Option Nat} {a1 : Int32} {a2 : Int32} {a3 : Int32} {s : ax_S} (h : fb_L_sound_58 a0 a1 a2 a3 s = some q) : AW mm_L_sound 4 0 0 58 [(some (av_r a0)), (some (av_i a1)), (some (av_i a2)), (some (av_i a3)), none, none, none, none, none] [] s (some (av_i q.1), q.2) := by
  unfold fb_L_sound_58 at h
  refine ax_iconst (v := (0)) dL_sound_58 rfl ?_
  refine ax_istore (i := 4) (L2 := [some (av_r a0), some (av_i a1), some (av_i a2), some (av_i a3), some (av_i (0)), none, none, none, none]) dL_sound_59 (by decide) rfl rfl ?_
  refine ax_iconst (v := (0)) dL_sound_61 rfl ?_
  refine ax_istore (i := 5) (L2 := [some (av_r a0), some (av_i a1), some (av_i a2), some (av_i a3), some (av_i (0)), some (av_i (0)), none, none, none]) dL_sound_62 (by decide) rfl rfl ?_
  exact ax_less (L' := [(some (av_r a0)), (some (av_i a1)), (some (av_i a2)), (some (av_i a3)), (some (av_i (0))), (some (av_i (0))), none, none, none]) ⟨rfl, rfl, rfl, rfl, rfl, rfl, trivial⟩ (tb_L_sound_64  _ _ _ _ _ _ _ _ h)
def fi_L_sound (a0 : Option Nat) (a1 : Int32) (s : ax_S) : Option (Int32 × ax_S) :=
  (ax_sh s 6 a0).bind fun w59 =>
  (fn_X9_nodes a0 s).bind fun q60 =>
  if q60.1 = a1 then
    (ax_sh q60.2 6 a0).bind fun w62 =>
    (fn_X9_count a0 (0) q60.2).bind fun q63 =>
    if (48) < q63.1 then
      fb_L_sound_58 a0 a1 (0) (0) q63.2
    else
      (ax_sh q63.2 6 a0).bind fun w65 =>
      (fn_X9_count a0 (0) q63.2).bind fun q66 =>
      (ax_sh q66.2 6 a0).bind fun w67 =>
      (fn_X9_count a0 (2) q66.2).bind fun q68 =>
      if q68.1 < q66.1 then
        fb_L_sound_58 a0 a1 (0) (0) q68.2
      else
        (ax_sh q68.2 6 a0).bind fun w70 =>
        (fn_X9_count a0 (3) q68.2).bind fun q71 =>
        (ax_sh q71.2 6 a0).bind fun w72 =>
        (fn_X9_count a0 (4) q71.2).bind fun q73 =>
        (ax_sh q73.2 6 a0).bind fun w74 =>
        (fn_X9_count a0 (2) q73.2).bind fun q75 =>
        if q75.1 < (q71.1 + q73.1) then
          fb_L_sound_58 a0 a1 (0) (0) q75.2
        else
          fb_L_sound_64 10000 a0 a1 (0) (0) (1) (0) q75.2
  else
    fb_L_sound_58 a0 a1 (0) (0) q60.2
set_option maxRecDepth 100000 in
set_option maxHeartbeats 4000000 in
theorem tw_L_sound {q : Int32 × ax_S} {a0 : Option Nat} {a1 : Int32} {s : ax_S} (h : fi_L_sound a0 a1 s = some q) : AW mm_L_sound 4 0 0 0 [some (av_r a0), some (av_i a1), none, none, none, none, none, none, none] [] s (some (av_i q.1), q.2) := by
  unfold fi_L_sound at h
  refine ax_iconst (v := (0)) dL_sound_0 rfl ?_
  refine ax_istore_n (i := 2) (L2 := [some (av_r a0), some (av_i a1), some (av_i (0)), none, none, none, none, none, none]) dL_sound_1 rfl (by decide) rfl rfl ?_
  refine ax_iconst (v := (0)) dL_sound_2 rfl ?_
  refine ax_istore_n (i := 3) (L2 := [some (av_r a0), some (av_i a1), some (av_i (0)), some (av_i (0)), none, none, none, none, none]) dL_sound_3 rfl (by decide) rfl rfl ?_
  refine ax_aload_n (i := 0) dL_sound_4 rfl rfl ?_
  obtain ⟨w59, gw59, h⟩ := Option.bind_eq_some_iff.mp h
  obtain ⟨q60, gq60, h⟩ := Option.bind_eq_some_iff.mp h
  refine ax_cV (As := []) (t := 6) dL_sound_5 gw59 (th_X9_nodes gq60) rfl (And.intro wd_350 wd_18) wd_347 wd_348 wd_349 cy_X9_nodes (by omega) (by decide) (Nat.le_of_ble_eq_true rfl) rfl ?_
  refine ax_iload_n (i := 1) dL_sound_8 rfl rfl ?_
  refine ax_icmp_ne (tgt := 58) dL_sound_9 (by decide) (fun c61 => ?_) (fun c61 => ?_)
  · rw [if_neg c61] at h
    exact ax_less (L' := [(some (av_r a0)), (some (av_i a1)), (some (av_i (0))), (some (av_i (0))), none, none, none, none, none]) ⟨rfl, rfl, rfl, rfl, trivial⟩ (tb_L_sound_58  h)
  · rw [if_pos c61] at h
    refine ax_aload_n (i := 0) dL_sound_12 rfl rfl ?_
    refine ax_iconst (v := (0)) dL_sound_13 rfl ?_
    obtain ⟨w62, gw62, h⟩ := Option.bind_eq_some_iff.mp h
    obtain ⟨q63, gq63, h⟩ := Option.bind_eq_some_iff.mp h
    refine ax_cV (As := [av_i (0)]) (t := 6) dL_sound_14 gw62 (th_X9_count gq63) rfl (And.intro wd_432 wd_18) wd_429 wd_430 wd_431 cy_X9_count (by omega) (by decide) (Nat.le_of_ble_eq_true rfl) rfl ?_
    refine ax_bipush (v := (48)) dL_sound_17 rfl ?_
    refine ax_icmp_gt (tgt := 58) dL_sound_19 (by decide) (fun c64 => ?_) (fun c64 => ?_)
    · rw [if_pos c64] at h
      exact ax_less (L' := [(some (av_r a0)), (some (av_i a1)), (some (av_i (0))), (some (av_i (0))), none, none, none, none, none]) ⟨rfl, rfl, rfl, rfl, trivial⟩ (tb_L_sound_58  h)
    · rw [if_neg c64] at h
      refine ax_aload_n (i := 0) dL_sound_22 rfl rfl ?_
      refine ax_iconst (v := (0)) dL_sound_23 rfl ?_
      obtain ⟨w65, gw65, h⟩ := Option.bind_eq_some_iff.mp h
      obtain ⟨q66, gq66, h⟩ := Option.bind_eq_some_iff.mp h
      refine ax_cV (As := [av_i (0)]) (t := 6) dL_sound_24 gw65 (th_X9_count gq66) rfl (And.intro wd_432 wd_18) wd_429 wd_430 wd_431 cy_X9_count (by omega) (by decide) (Nat.le_of_ble_eq_true rfl) rfl ?_
      refine ax_aload_n (i := 0) dL_sound_27 rfl rfl ?_
      refine ax_iconst (v := (2)) dL_sound_28 rfl ?_
      obtain ⟨w67, gw67, h⟩ := Option.bind_eq_some_iff.mp h
      obtain ⟨q68, gq68, h⟩ := Option.bind_eq_some_iff.mp h
      refine ax_cV (As := [av_i (2)]) (t := 6) dL_sound_29 gw67 (th_X9_count gq68) rfl (And.intro wd_432 wd_18) wd_429 wd_430 wd_431 cy_X9_count (by omega) (by decide) (Nat.le_of_ble_eq_true rfl) rfl ?_
      refine ax_icmp_gt (tgt := 58) dL_sound_32 (by decide) (fun c69 => ?_) (fun c69 => ?_)
      · rw [if_pos c69] at h
        exact ax_less (L' := [(some (av_r a0)), (some (av_i a1)), (some (av_i (0))), (some (av_i (0))), none, none, none, none, none]) ⟨rfl, rfl, rfl, rfl, trivial⟩ (tb_L_sound_58  h)
      · rw [if_neg c69] at h
        refine ax_aload_n (i := 0) dL_sound_35 rfl rfl ?_
        refine ax_iconst (v := (3)) dL_sound_36 rfl ?_
        obtain ⟨w70, gw70, h⟩ := Option.bind_eq_some_iff.mp h
        obtain ⟨q71, gq71, h⟩ := Option.bind_eq_some_iff.mp h
        refine ax_cV (As := [av_i (3)]) (t := 6) dL_sound_37 gw70 (th_X9_count gq71) rfl (And.intro wd_432 wd_18) wd_429 wd_430 wd_431 cy_X9_count (by omega) (by decide) (Nat.le_of_ble_eq_true rfl) rfl ?_
        refine ax_aload_n (i := 0) dL_sound_40 rfl rfl ?_
        refine ax_iconst (v := (4)) dL_sound_41 rfl ?_
        obtain ⟨w72, gw72, h⟩ := Option.bind_eq_some_iff.mp h
        obtain ⟨q73, gq73, h⟩ := Option.bind_eq_some_iff.mp h
        refine ax_cV (As := [av_i (4)]) (t := 6) dL_sound_42 gw72 (th_X9_count gq73) rfl (And.intro wd_432 wd_18) wd_429 wd_430 wd_431 cy_X9_count (by omega) (by decide) (Nat.le_of_ble_eq_true rfl) rfl ?_
        refine ax_iadd dL_sound_45 ?_
        refine ax_aload_n (i := 0) dL_sound_46 rfl rfl ?_
        refine ax_iconst (v := (2)) dL_sound_47 rfl ?_
        obtain ⟨w74, gw74, h⟩ := Option.bind_eq_some_iff.mp h
        obtain ⟨q75, gq75, h⟩ := Option.bind_eq_some_iff.mp h
        refine ax_cV (As := [av_i (2)]) (t := 6) dL_sound_48 gw74 (th_X9_count gq75) rfl (And.intro wd_432 wd_18) wd_429 wd_430 wd_431 cy_X9_count (by omega) (by decide) (Nat.le_of_ble_eq_true rfl) rfl ?_
        refine ax_icmp_gt (tgt := 58) dL_sound_51 (by decide) (fun c76 => ?_) (fun c76 => ?_)
        · rw [if_pos c76] at h
          exact ax_less (L' := [(some (av_r a0)), (some (av_i a1)), (some (av_i (0))), (some (av_i (0))), none, none, none, none, none]) ⟨rfl, rfl, rfl, rfl, trivial⟩ (tb_L_sound_58  h)
        · rw [if_neg c76] at h
          refine ax_iconst (v := (1)) dL_sound_54 rfl ?_
          refine ax_goto (tgt := 59) dL_sound_55 (by decide) ?_
          refine ax_istore (i := 4) (L2 := [some (av_r a0), some (av_i a1), some (av_i (0)), some (av_i (0)), some (av_i (1)), none, none, none, none]) dL_sound_59 (by decide) rfl rfl ?_
          refine ax_iconst (v := (0)) dL_sound_61 rfl ?_
          refine ax_istore (i := 5) (L2 := [some (av_r a0), some (av_i a1), some (av_i (0)), some (av_i (0)), some (av_i (1)), some (av_i (0)), none, none, none]) dL_sound_62 (by decide) rfl rfl ?_
          exact ax_less (L' := [(some (av_r a0)), (some (av_i a1)), (some (av_i (0))), (some (av_i (0))), (some (av_i (1))), (some (av_i (0))), none, none, none]) ⟨rfl, rfl, rfl, rfl, rfl, rfl, trivial⟩ (tb_L_sound_64  _ _ _ _ _ _ _ _ h)
def fn_L_sound (a0 : Option Nat) (a1 : Int32) (s : ax_S) : Option (Int32 × ax_S) := ax_bz (fi_L_sound a0 a1 s)
set_option maxRecDepth 100000 in
set_option maxHeartbeats 4000000 in
theorem th_L_sound {q : Int32 × ax_S} {a0 : Option Nat} {a1 : Int32} {s : ax_S} (h : fn_L_sound a0 a1 s = some q) : AC mm_L_sound yL_sound 4 0 0 [av_r a0, av_i a1] s (some (av_i q.1), q.2) := by
  obtain ⟨h, hz⟩ := ax_bz_of h
  exact ax_met (L0 := [some (av_r a0), some (av_i a1), none, none, none, none, none, none, none]) (by decide +kernel) rfl (fun h => absurd h (by decide)) ⟨rfl, rfl, trivial⟩ (Nat.le_of_ble_eq_true rfl) hz (tw_L_sound h)
