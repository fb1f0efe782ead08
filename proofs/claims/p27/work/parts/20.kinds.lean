/-! X9_isIn -/
abbrev mm_X9_isIn : ax_M := (RX9, cX9_isIn, (some .boolean), 3, false)
def fi_X9_isIn (a0 : Int32) (a1 : Int32) (a2 : Int32) (s : ax_S) : Option (Int32 × ax_S) :=
  if a0 < a1 then
    some ((0), s)
  else
    if a2 < a0 then
      some ((0), s)
    else
      some ((1), s)
set_option maxRecDepth 100000 in
set_option maxHeartbeats 4000000 in
theorem tw_X9_isIn {q : Int32 × ax_S} {a0 : Int32} {a1 : Int32} {a2 : Int32} {s : ax_S} (h : fi_X9_isIn a0 a1 a2 s = some q) : AW mm_X9_isIn 0 0 0 0 [some (av_i a0), some (av_i a1), some (av_i a2)] [] s (some (av_i q.1), q.2) := by
  unfold fi_X9_isIn at h
  refine ax_iload_n (i := 1) dX9_isIn_0 rfl rfl ?_
  refine ax_iload_n (i := 0) dX9_isIn_1 rfl rfl ?_
  refine ax_icmp_gt (tgt := 14) dX9_isIn_2 (by decide) (fun c1 => ?_) (fun c1 => ?_)
  · rw [if_pos c1] at h
    refine ax_iconst (v := (0)) dX9_isIn_14 rfl ?_
    exact ax_reti dX9_isIn_15 h
  · rw [if_neg c1] at h
    refine ax_iload_n (i := 0) dX9_isIn_5 rfl rfl ?_
    refine ax_iload_n (i := 2) dX9_isIn_6 rfl rfl ?_
    refine ax_icmp_gt (tgt := 14) dX9_isIn_7 (by decide) (fun c2 => ?_) (fun c2 => ?_)
    · rw [if_pos c2] at h
      refine ax_iconst (v := (0)) dX9_isIn_14 rfl ?_
      exact ax_reti dX9_isIn_15 h
    · rw [if_neg c2] at h
      refine ax_iconst (v := (1)) dX9_isIn_10 rfl ?_
      refine ax_goto (tgt := 15) dX9_isIn_11 (by decide) ?_
      exact ax_reti dX9_isIn_15 h
def fn_X9_isIn (a0 : Int32) (a1 : Int32) (a2 : Int32) (s : ax_S) : Option (Int32 × ax_S) := ax_bz (fi_X9_isIn a0 a1 a2 s)
set_option maxRecDepth 100000 in
set_option maxHeartbeats 4000000 in
theorem th_X9_isIn {q : Int32 × ax_S} {a0 : Int32} {a1 : Int32} {a2 : Int32} {s : ax_S} (h : fn_X9_isIn a0 a1 a2 s = some q) : AC mm_X9_isIn yX9_isIn 0 0 0 [av_i a0, av_i a1, av_i a2] s (some (av_i q.1), q.2) := by
  obtain ⟨h, hz⟩ := ax_bz_of h
  exact ax_met (L0 := [some (av_i a0), some (av_i a1), some (av_i a2)]) (by decide +kernel) rfl (fun h => absurd h (by decide)) ⟨rfl, rfl, rfl, trivial⟩ (Nat.le_of_ble_eq_true rfl) hz (tw_X9_isIn h)
/-! X8_at -/
abbrev mm_X8_at : ax_M := (RX8, cX8_at, (some .int), 2, false)
def fn_X8_at (a0 : Option Nat) (a1 : Int32) (s : ax_S) : Option (Int32 × ax_S) :=
  (ax_gi s 5 1 a0).bind fun x1 =>
  (fn_X9_isIn a1 (0) (x1 - (1)) s).bind fun q2 =>
  if q2.1 = 0 then
    some ((-1), q2.2)
  else
    (ax_gr q2.2 5 0 a0).bind fun r4 =>
    (ax_al q2.2 8 r4 a1).bind fun x5 =>
    some (x5, q2.2)
set_option maxRecDepth 100000 in
set_option maxHeartbeats 4000000 in
theorem tw_X8_at {q : Int32 × ax_S} {a0 : Option Nat} {a1 : Int32} {s : ax_S} (h : fn_X8_at a0 a1 s = some q) : AW mm_X8_at 1 0 0 0 [some (av_r a0), some (av_i a1)] [] s (some (av_i q.1), q.2) := by
  unfold fn_X8_at at h
  refine ax_iload_n (i := 1) dX8_at_0 rfl rfl ?_
  refine ax_iconst (v := (0)) dX8_at_1 rfl ?_
  refine ax_aload_n (i := 0) dX8_at_2 rfl rfl ?_
  obtain ⟨x1, gx1, h⟩ := Option.bind_eq_some_iff.mp h
  refine ax_getI (q := (RX8, TX8, 2)) (t := 5) (k := 1) dX8_at_3 rfl (by decide) wd_176 rfl gx1 ?_
  refine ax_iconst (v := (1)) dX8_at_6 rfl ?_
  refine ax_isub dX8_at_7 ?_
  obtain ⟨q2, gq2, h⟩ := Option.bind_eq_some_iff.mp h
  refine ax_cSN (As := [av_i a1, av_i (0), av_i (x1 - (1))]) dX8_at_8 (th_X9_isIn gq2) (And.intro wd_259 wd_18) wn_453 wd_258 cy_X9_isIn (by omega) (by decide) (Nat.le_of_ble_eq_true rfl) rfl ?_
  refine ax_if_eq (tgt := 23) dX8_at_11 (by decide) (fun c3 => ?_) (fun c3 => ?_)
  · rw [if_pos c3] at h
    refine ax_iconst (v := (-1)) dX8_at_23 rfl ?_
    exact ax_reti dX8_at_24 h
  · rw [if_neg c3] at h
    refine ax_aload_n (i := 0) dX8_at_14 rfl rfl ?_
    obtain ⟨r4, gr4, h⟩ := Option.bind_eq_some_iff.mp h
    refine ax_getR (q := (RX8, TX8, 2)) (t := 5) (k := 0) dX8_at_15 rfl (by decide) wd_175 rfl gr4 ?_
    refine ax_iload_n (i := 1) dX8_at_18 rfl rfl ?_
    obtain ⟨x5, gx5, h⟩ := Option.bind_eq_some_iff.mp h
    refine ax_bald dX8_at_19 gx5 ?_
    refine ax_goto (tgt := 24) dX8_at_20 (by decide) ?_
    exact ax_reti dX8_at_24 h
set_option maxRecDepth 100000 in
set_option maxHeartbeats 4000000 in
theorem th_X8_at {q : Int32 × ax_S} {a0 : Option Nat} {a1 : Int32} {s : ax_S} (h : fn_X8_at a0 a1 s = some q) : AC mm_X8_at yX8_at 1 0 0 [av_r a0, av_i a1] s (some (av_i q.1), q.2) := by
  exact ax_met (L0 := [some (av_r a0), some (av_i a1)]) (by decide +kernel) rfl (fun h => absurd h (by decide)) ⟨rfl, rfl, trivial⟩ (Nat.le_of_ble_eq_true rfl) trivial (tw_X8_at h)
/-! J0_isLatin1_aae02 -/
abbrev mm_J0_isLatin1_aae02 : ax_M := (RJ0, cJ0_isLatin1_aae02, (some .boolean), 1, false)
def fi_J0_isLatin1_aae02 (s : ax_S) : Option (Int32 × ax_S) :=
  if (1 : Int32) = 0 then
    some ((0), s)
  else
    if (0 : Int32) = 0 then
      some ((1), s)
    else
      some ((0), s)
set_option maxRecDepth 100000 in
set_option maxHeartbeats 4000000 in
theorem tw_J0_isLatin1_aae02 {q : Int32 × ax_S} {s : ax_S} (h : fi_J0_isLatin1_aae02  s = some q) : AW mm_J0_isLatin1_aae02 0 0 0 0 [some (av_r (some 8))] [] s (some (av_i q.1), q.2) := by
  unfold fi_J0_isLatin1_aae02 at h
  refine ax_gets2 dJ0_isLatin1_aae02_0 wd_467 ?_
  refine ax_if_eq (tgt := 17) dJ0_isLatin1_aae02_3 (by decide) (fun c1 => ?_) (fun c1 => ?_)
  · rw [if_pos c1] at h
    refine ax_iconst (v := (0)) dJ0_isLatin1_aae02_17 rfl ?_
    exact ax_reti dJ0_isLatin1_aae02_18 h
  · rw [if_neg c1] at h
    refine ax_aload_n (i := 0) dJ0_isLatin1_aae02_6 rfl rfl ?_
    refine ax_getSc dJ0_isLatin1_aae02_7 wd_725 ?_
    refine ax_if_ne (tgt := 17) dJ0_isLatin1_aae02_10 (by decide) (fun c2 => ?_) (fun c2 => ?_)
    · rw [if_neg c2] at h
      refine ax_iconst (v := (0)) dJ0_isLatin1_aae02_17 rfl ?_
      exact ax_reti dJ0_isLatin1_aae02_18 h
    · rw [if_pos c2] at h
      refine ax_iconst (v := (1)) dJ0_isLatin1_aae02_13 rfl ?_
      refine ax_goto (tgt := 18) dJ0_isLatin1_aae02_14 (by decide) ?_
      exact ax_reti dJ0_isLatin1_aae02_18 h
def fn_J0_isLatin1_aae02 (s : ax_S) : Option (Int32 × ax_S) := ax_bz (fi_J0_isLatin1_aae02  s)
set_option maxRecDepth 100000 in
set_option maxHeartbeats 4000000 in
theorem th_J0_isLatin1_aae02 {q : Int32 × ax_S} {s : ax_S} (h : fn_J0_isLatin1_aae02  s = some q) : AC mm_J0_isLatin1_aae02 yJ0_isLatin1_aae02 0 0 0 [av_r (some 8)] s (some (av_i q.1), q.2) := by
  obtain ⟨h, hz⟩ := ax_bz_of h
  exact ax_met (L0 := [some (av_r (some 8))]) (by decide +kernel) rfl (fun h => absurd h (by decide)) ⟨rfl, trivial⟩ (Nat.le_of_ble_eq_true rfl) hz (tw_J0_isLatin1_aae02 h)
/-! J0_coder_7d493 -/
abbrev mm_J0_coder_7d493 : ax_M := (RJ0, cJ0_coder_7d493, (some .byte), 1, false)
def fi_J0_coder_7d493 (s : ax_S) : Option (Int32 × ax_S) :=
  if (1 : Int32) = 0 then
    some ((1), s)
  else
    some ((0 : Int32), s)
set_option maxRecDepth 100000 in
set_option maxHeartbeats 4000000 in
theorem tw_J0_coder_7d493 {q : Int32 × ax_S} {s : ax_S} (h : fi_J0_coder_7d493  s = some q) : AW mm_J0_coder_7d493 0 0 0 0 [some (av_r (some 8))] [] s (some (av_i q.1), q.2) := by
  unfold fi_J0_coder_7d493 at h
  refine ax_gets2 dJ0_coder_7d493_0 wd_467 ?_
  refine ax_if_eq (tgt := 13) dJ0_coder_7d493_3 (by decide) (fun c1 => ?_) (fun c1 => ?_)
  · rw [if_pos c1] at h
    refine ax_iconst (v := (1)) dJ0_coder_7d493_13 rfl ?_
    exact ax_reti dJ0_coder_7d493_14 h
  · rw [if_neg c1] at h
    refine ax_aload_n (i := 0) dJ0_coder_7d493_6 rfl rfl ?_
    refine ax_getSc dJ0_coder_7d493_7 wd_725 ?_
    refine ax_goto (tgt := 14) dJ0_coder_7d493_10 (by decide) ?_
    exact ax_reti dJ0_coder_7d493_14 h
def fn_J0_coder_7d493 (s : ax_S) : Option (Int32 × ax_S) := ax_by (fi_J0_coder_7d493  s)
set_option maxRecDepth 100000 in
set_option maxHeartbeats 4000000 in
theorem th_J0_coder_7d493 {q : Int32 × ax_S} {s : ax_S} (h : fn_J0_coder_7d493  s = some q) : AC mm_J0_coder_7d493 yJ0_coder_7d493 0 0 0 [av_r (some 8)] s (some (av_i q.1), q.2) := by
  obtain ⟨h, hz⟩ := ax_by_of h
  exact ax_met (L0 := [some (av_r (some 8))]) (by decide +kernel) rfl (fun h => absurd h (by decide)) ⟨rfl, trivial⟩ (Nat.le_of_ble_eq_true rfl) hz (tw_J0_coder_7d493 h)
/-! J0_length_8abf5 -/
abbrev mm_J0_length_8abf5 : ax_M := (RJ0, cJ0_length_8abf5, (some .int), 1, false)
def fn_J0_length_8abf5 (s : ax_S) : Option (Int32 × ax_S) :=
  (ax_ln s 8 (some 7)).bind fun x1 =>
  (fn_J0_coder_7d493  s).bind fun q2 =>
  some ((x1 >>> (q2.1 &&& 31)), q2.2)
set_option maxRecDepth 100000 in
set_option maxHeartbeats 4000000 in
theorem tw_J0_length_8abf5 {q : Int32 × ax_S} {s : ax_S} (h : fn_J0_length_8abf5  s = some q) : AW mm_J0_length_8abf5 1 0 0 0 [some (av_r (some 8))] [] s (some (av_i q.1), q.2) := by
  unfold fn_J0_length_8abf5 at h
  refine ax_aload_n (i := 0) dJ0_length_8abf5_0 rfl rfl ?_
  refine ax_getSv dJ0_length_8abf5_1 wd_726 ?_
  obtain ⟨x1, gx1, h⟩ := Option.bind_eq_some_iff.mp h
  refine ax_alen (t := 8) (by decide) dJ0_length_8abf5_4 gx1 ?_
  refine ax_aload_n (i := 0) dJ0_length_8abf5_5 rfl rfl ?_
  obtain ⟨q2, gq2, h⟩ := Option.bind_eq_some_iff.mp h
  refine ax_cVS (As := []) dJ0_length_8abf5_6 (th_J0_coder_7d493 gq2) rfl (And.intro wd_476 wd_27) wd_473 wd_474 wd_475 cy_J0_coder_7d493 (by omega) (by decide) (Nat.le_of_ble_eq_true rfl) rfl ?_
  refine ax_ishr dJ0_length_8abf5_9 ?_
  exact ax_reti dJ0_length_8abf5_10 h
set_option maxRecDepth 100000 in
set_option maxHeartbeats 4000000 in
theorem th_J0_length_8abf5 {q : Int32 × ax_S} {s : ax_S} (h : fn_J0_length_8abf5  s = some q) : AC mm_J0_length_8abf5 yJ0_length_8abf5 1 0 0 [av_r (some 8)] s (some (av_i q.1), q.2) := by
  exact ax_met (L0 := [some (av_r (some 8))]) (by decide +kernel) rfl (fun h => absurd h (by decide)) ⟨rfl, trivial⟩ (Nat.le_of_ble_eq_true rfl) trivial (tw_J0_length_8abf5 h)
/-! J1_canEncode_9a6ad -/
abbrev mm_J1_canEncode_9a6ad : ax_M := (RJ1, cJ1_canEncode_9a6ad, (some .boolean), 1, false)
def fi_J1_canEncode_9a6ad (a0 : Int32) (s : ax_S) : Option (Int32 × ax_S) :=
  if a0 < 0 then
    some ((0), s)
  else
    if (255) < a0 then
      some ((0), s)
    else
      some ((1), s)
set_option maxRecDepth 100000 in
set_option maxHeartbeats 4000000 in
theorem tw_J1_canEncode_9a6ad {q : Int32 × ax_S} {a0 : Int32} {s : ax_S} (h : fi_J1_canEncode_9a6ad a0 s = some q) : AW mm_J1_canEncode_9a6ad 0 0 0 0 [some (av_i a0)] [] s (some (av_i q.1), q.2) := by
  unfold fi_J1_canEncode_9a6ad at h
  refine ax_iload_n (i := 0) dJ1_canEncode_9a6ad_0 rfl rfl ?_
  refine ax_if_lt (tgt := 15) dJ1_canEncode_9a6ad_1 (by decide) (fun c1 => ?_) (fun c1 => ?_)
  · rw [if_pos c1] at h
    refine ax_iconst (v := (0)) dJ1_canEncode_9a6ad_15 rfl ?_
    exact ax_reti dJ1_canEncode_9a6ad_16 h
  · rw [if_neg c1] at h
    refine ax_iload_n (i := 0) dJ1_canEncode_9a6ad_4 rfl rfl ?_
    refine ax_sipush (v := (255)) dJ1_canEncode_9a6ad_5 rfl ?_
    refine ax_icmp_gt (tgt := 15) dJ1_canEncode_9a6ad_8 (by decide) (fun c2 => ?_) (fun c2 => ?_)
    · rw [if_pos c2] at h
      refine ax_iconst (v := (0)) dJ1_canEncode_9a6ad_15 rfl ?_
      exact ax_reti dJ1_canEncode_9a6ad_16 h
    · rw [if_neg c2] at h
      refine ax_iconst (v := (1)) dJ1_canEncode_9a6ad_11 rfl ?_
      refine ax_goto (tgt := 16) dJ1_canEncode_9a6ad_12 (by decide) ?_
      exact ax_reti dJ1_canEncode_9a6ad_16 h
def fn_J1_canEncode_9a6ad (a0 : Int32) (s : ax_S) : Option (Int32 × ax_S) := ax_bz (fi_J1_canEncode_9a6ad a0 s)
set_option maxRecDepth 100000 in
set_option maxHeartbeats 4000000 in
theorem th_J1_canEncode_9a6ad {q : Int32 × ax_S} {a0 : Int32} {s : ax_S} (h : fn_J1_canEncode_9a6ad a0 s = some q) : AC mm_J1_canEncode_9a6ad yJ1_canEncode_9a6ad 0 0 0 [av_i a0] s (some (av_i q.1), q.2) := by
  obtain ⟨h, hz⟩ := ax_bz_of h
  exact ax_met (L0 := [some (av_i a0)]) (by decide +kernel) rfl (fun h => absurd h (by decide)) ⟨rfl, trivial⟩ (Nat.le_of_ble_eq_true rfl) hz (tw_J1_canEncode_9a6ad h)
/-! J1_indexOfChar_4cfef -/
abbrev mm_J1_indexOfChar_4cfef : ax_M := (RJ1, cJ1_indexOfChar_4cfef, (some .int), 6, false)
def fb_J1_indexOfChar_4cfef_7 : Nat → Option Nat → Int32 → Int32 → Int32 → ax_S → Option (Int32 × ax_S)
  | 0, _, _, _, _, _ => none
  | n + 1, a0, a3, a4, a5, s =>
    if a3 ≤ a5 then
      some ((-1), s)
    else
      (ax_al s 8 a0 a5).bind fun x2 =>
      if x2 = a4 then
        some (a5, s)
      else
        (fb_J1_indexOfChar_4cfef_7 n) a0 a3 a4 (a5 + (1)) s
set_option maxRecDepth 100000 in
set_option maxHeartbeats 4000000 in
theorem tb_J1_indexOfChar_4cfef_7 {q : Int32 × ax_S} : ∀ (n : Nat) (a0 : Option Nat) (a3 : Int32) (a4 : Int32) (a5 : Int32) (s : ax_S) (h : fb_J1_indexOfChar_4cfef_7 n a0 a3 a4 a5 s = some q), AW mm_J1_indexOfChar_4cfef 0 0 0 7 [(some (av_r a0)), none, none, (some (av_i a3)), (some (av_i a4)), (some (av_i a5))] [] s (some (av_i q.1), q.2) := by
  intro n
  induction n with
  | zero =>
    intro a0 a3 a4 a5 s h
    exact ax_no h
  | succ n ih =>
    intro a0 a3 a4 a5 s h
    unfold fb_J1_indexOfChar_4cfef_7 at h
    refine ax_iload (i := 5) dJ1_indexOfChar_4cfef_7 rfl ?_
    refine ax_iload_n (i := 3) dJ1_indexOfChar_4cfef_9 rfl rfl ?_
    refine ax_icmp_ge (tgt := 31) dJ1_indexOfChar_4cfef_10 (by decide) (fun c1 => ?_) (fun c1 => ?_)
    · rw [if_pos c1] at h
      refine ax_iconst (v := (-1)) dJ1_indexOfChar_4cfef_31 rfl ?_
      exact ax_reti dJ1_indexOfChar_4cfef_32 h
    · rw [if_neg c1] at h
      refine ax_aload_n (i := 0) dJ1_indexOfChar_4cfef_13 rfl rfl ?_
      refine ax_iload (i := 5) dJ1_indexOfChar_4cfef_14 rfl ?_
      obtain ⟨x2, gx2, h⟩ := Option.bind_eq_some_iff.mp h
      refine ax_bald dJ1_indexOfChar_4cfef_16 gx2 ?_
      refine ax_iload (i := 4) dJ1_indexOfChar_4cfef_17 rfl ?_
      refine ax_icmp_ne (tgt := 25) dJ1_indexOfChar_4cfef_19 (by decide) (fun c3 => ?_) (fun c3 => ?_)
      · rw [if_neg c3] at h
        refine ax_iinc (i := 5) (v := (a5 + (1))) (L2 := [some (av_r a0), none, none, some (av_i a3), some (av_i a4), some (av_i (a5 + (1)))]) dJ1_indexOfChar_4cfef_25 rfl rfl (by decide) rfl rfl ?_
        refine ax_goto (tgt := 7) dJ1_indexOfChar_4cfef_28 (by decide) ?_
        exact ax_less (L' := [(some (av_r a0)), none, none, (some (av_i a3)), (some (av_i a4)), (some (av_i (a5 + (1))))]) ⟨rfl, rfl, rfl, rfl, trivial⟩ (ih _ _ _ _ _ h)
      · rw [if_pos c3] at h
        refine ax_iload (i := 5) dJ1_indexOfChar_4cfef_22 rfl ?_
        exact ax_reti dJ1_indexOfChar_4cfef_24 h
def fn_J1_indexOfChar_4cfef (a0 : Option Nat) (a1 : Int32) (a2 : Int32) (a3 : Int32) (s : ax_S) : Option (Int32 × ax_S) :=
  ax_bd ((a1).toInt8.toInt32) fun v4 =>
  fb_J1_indexOfChar_4cfef_7 10000 a0 a3 v4 a2 s
set_option maxRecDepth 100000 in
set_option maxHeartbeats 4000000 in
theorem tw_J1_indexOfChar_4cfef {q : Int32 × ax_S} {a0 : Option Nat} {a1 : Int32} {a2 : Int32} {a3 : Int32} {s : ax_S} (h : fn_J1_indexOfChar_4cfef a0 a1 a2 a3 s = some q) : AW mm_J1_indexOfChar_4cfef 0 0 0 0 [some (av_r a0), some (av_i a1), some (av_i a2), some (av_i a3), none, none] [] s (some (av_i q.1), q.2) := by
  unfold fn_J1_indexOfChar_4cfef at h
  refine ax_iload_n (i := 1) dJ1_indexOfChar_4cfef_0 rfl rfl ?_
  refine ax_i2b dJ1_indexOfChar_4cfef_1 ?_
  refine ax_bdI h (fun v4 h => ?_)
  refine ax_istore (i := 4) (L2 := [some (av_r a0), some (av_i a1), some (av_i a2), some (av_i a3), some (av_i v4), none]) dJ1_indexOfChar_4cfef_2 (by decide) rfl rfl ?_
  refine ax_iload_n (i := 2) dJ1_indexOfChar_4cfef_4 rfl rfl ?_
  refine ax_istore (i := 5) (L2 := [some (av_r a0), some (av_i a1), some (av_i a2), some (av_i a3), some (av_i v4), some (av_i a2)]) dJ1_indexOfChar_4cfef_5 (by decide) rfl rfl ?_
  exact ax_less (L' := [(some (av_r a0)), none, none, (some (av_i a3)), (some (av_i v4)), (some (av_i a2))]) ⟨rfl, rfl, rfl, rfl, trivial⟩ (tb_J1_indexOfChar_4cfef_7  _ _ _ _ _ _ h)
set_option maxRecDepth 100000 in
set_option maxHeartbeats 4000000 in
theorem th_J1_indexOfChar_4cfef {q : Int32 × ax_S} {a0 : Option Nat} {a1 : Int32} {a2 : Int32} {a3 : Int32} {s : ax_S} (h : fn_J1_indexOfChar_4cfef a0 a1 a2 a3 s = some q) : AC mm_J1_indexOfChar_4cfef yJ1_indexOfChar_4cfef 0 0 0 [av_r a0, av_i a1, av_i a2, av_i a3] s (some (av_i q.1), q.2) := by
  exact ax_met (L0 := [some (av_r a0), some (av_i a1), some (av_i a2), some (av_i a3), none, none]) (by decide +kernel) rfl (fun h => absurd h (by decide)) ⟨rfl, rfl, rfl, rfl, trivial⟩ (Nat.le_of_ble_eq_true rfl) trivial (tw_J1_indexOfChar_4cfef h)
/-! J1_indexOf_4cfef -/
abbrev mm_J1_indexOf_4cfef : ax_M := (RJ1, cJ1_indexOf_4cfef, (some .int), 4, false)
def fn_J1_indexOf_4cfef (a0 : Option Nat) (a1 : Int32) (a2 : Int32) (a3 : Int32) (s : ax_S) : Option (Int32 × ax_S) :=
  (fn_J1_canEncode_9a6ad a1 s).bind fun q1 =>
  if q1.1 = 0 then
    some ((-1), q1.2)
  else
    ax_bd ((if a2 < (0) then (0) else a2)) fun v3 =>
    (ax_ln q1.2 8 a0).bind fun x4 =>
    ax_bd ((if x4 < a3 then x4 else a3)) fun v5 =>
    if v3 < v5 then
      (fn_J1_indexOfChar_4cfef a0 a1 v3 v5 q1.2).bind fun q7 =>
      some (q7.1, q7.2)
    else
      some ((-1), q1.2)
set_option maxRecDepth 100000 in
set_option maxHeartbeats 4000000 in
theorem tw_J1_indexOf_4cfef {q : Int32 × ax_S} {a0 : Option Nat} {a1 : Int32} {a2 : Int32} {a3 : Int32} {s : ax_S} (h : fn_J1_indexOf_4cfef a0 a1 a2 a3 s = some q) : AW mm_J1_indexOf_4cfef 1 0 0 0 [some (av_r a0), some (av_i a1), some (av_i a2), some (av_i a3)] [] s (some (av_i q.1), q.2) := by
  unfold fn_J1_indexOf_4cfef at h
  refine ax_iload_n (i := 1) dJ1_indexOf_4cfef_0 rfl rfl ?_
  obtain ⟨q1, gq1, h⟩ := Option.bind_eq_some_iff.mp h
  refine ax_cS (As := [av_i a1]) dJ1_indexOf_4cfef_1 (th_J1_canEncode_9a6ad gq1) (And.intro wd_482 wd_28) wd_480 wd_481 cy_J1_canEncode_9a6ad (by omega) (by decide) (Nat.le_of_ble_eq_true rfl) rfl ?_
  refine ax_if_ne (tgt := 9) dJ1_indexOf_4cfef_4 (by decide) (fun c2 => ?_) (fun c2 => ?_)
  · rw [if_neg c2] at h
    refine ax_iload_n (i := 2) dJ1_indexOf_4cfef_9 rfl rfl ?_
    refine ax_iconst (v := (0)) dJ1_indexOf_4cfef_10 rfl ?_
    refine ax_max dJ1_indexOf_4cfef_11 wd_483 wd_300 wd_26 wd_301 (by omega) (Nat.le_of_ble_eq_true rfl) ?_
    refine ax_bdI h (fun v3 h => ?_)
    refine ax_istore_n (i := 2) (L2 := [some (av_r a0), some (av_i a1), some (av_i v3), some (av_i a3)]) dJ1_indexOf_4cfef_14 rfl (by decide) rfl rfl ?_
    refine ax_iload_n (i := 3) dJ1_indexOf_4cfef_15 rfl rfl ?_
    refine ax_aload_n (i := 0) dJ1_indexOf_4cfef_16 rfl rfl ?_
    obtain ⟨x4, gx4, h⟩ := Option.bind_eq_some_iff.mp h
    refine ax_alen (t := 8) (by decide) dJ1_indexOf_4cfef_17 gx4 ?_
    refine ax_min dJ1_indexOf_4cfef_18 wd_484 wd_389 wd_26 wd_390 (by omega) (Nat.le_of_ble_eq_true rfl) ?_
    refine ax_bdI h (fun v5 h => ?_)
    refine ax_istore_n (i := 3) (L2 := [some (av_r a0), some (av_i a1), some (av_i v3), some (av_i v5)]) dJ1_indexOf_4cfef_21 rfl (by decide) rfl rfl ?_
    refine ax_iload_n (i := 2) dJ1_indexOf_4cfef_22 rfl rfl ?_
    refine ax_iload_n (i := 3) dJ1_indexOf_4cfef_23 rfl rfl ?_
    refine ax_icmp_lt (tgt := 29) dJ1_indexOf_4cfef_24 (by decide) (fun c6 => ?_) (fun c6 => ?_)
    · rw [if_pos c6] at h
      refine ax_aload_n (i := 0) dJ1_indexOf_4cfef_29 rfl rfl ?_
      refine ax_iload_n (i := 1) dJ1_indexOf_4cfef_30 rfl rfl ?_
      refine ax_iload_n (i := 2) dJ1_indexOf_4cfef_31 rfl rfl ?_
      refine ax_iload_n (i := 3) dJ1_indexOf_4cfef_32 rfl rfl ?_
      obtain ⟨q7, gq7, h⟩ := Option.bind_eq_some_iff.mp h
      refine ax_cS (As := [av_r a0, av_i a1, av_i v3, av_i v5]) dJ1_indexOf_4cfef_33 (th_J1_indexOfChar_4cfef gq7) (And.intro wd_487 wd_28) wd_485 wd_486 cy_J1_indexOfChar_4cfef (by omega) (by decide) (Nat.le_of_ble_eq_true rfl) rfl ?_
      exact ax_reti dJ1_indexOf_4cfef_36 h
    · rw [if_neg c6] at h
      refine ax_iconst (v := (-1)) dJ1_indexOf_4cfef_27 rfl ?_
      exact ax_reti dJ1_indexOf_4cfef_28 h
  · rw [if_pos c2] at h
    refine ax_iconst (v := (-1)) dJ1_indexOf_4cfef_7 rfl ?_
    exact ax_reti dJ1_indexOf_4cfef_8 h
set_option maxRecDepth 100000 in
set_option maxHeartbeats 4000000 in
theorem th_J1_indexOf_4cfef {q : Int32 × ax_S} {a0 : Option Nat} {a1 : Int32} {a2 : Int32} {a3 : Int32} {s : ax_S} (h : fn_J1_indexOf_4cfef a0 a1 a2 a3 s = some q) : AC mm_J1_indexOf_4cfef yJ1_indexOf_4cfef 1 0 0 [av_r a0, av_i a1, av_i a2, av_i a3] s (some (av_i q.1), q.2) := by
  exact ax_met (L0 := [some (av_r a0), some (av_i a1), some (av_i a2), some (av_i a3)]) (by decide +kernel) rfl (fun h => absurd h (by decide)) ⟨rfl, rfl, rfl, rfl, trivial⟩ (Nat.le_of_ble_eq_true rfl) trivial (tw_J1_indexOf_4cfef h)
/-! J0_indexOf_7cf53 -/
abbrev mm_J0_indexOf_7cf53 : ax_M := (RJ0, cJ0_indexOf_7cf53, (some .int), 3, false)
def fn_J0_indexOf_7cf53 (a1 : Int32) (a2 : Int32) (s : ax_S) : Option (Int32 × ax_S) :=
  (fn_J0_isLatin1_aae02  s).bind fun q1 =>
  if q1.1 = 0 then
    none
  else
    (fn_J0_length_8abf5  q1.2).bind fun q3 =>
    (fn_J1_indexOf_4cfef (some 7) a1 a2 q3.1 q3.2).bind fun q4 =>
    some (q4.1, q4.2)
set_option maxRecDepth 100000 in
set_option maxHeartbeats 4000000 in
theorem tw_J0_indexOf_7cf53 {q : Int32 × ax_S} {a1 : Int32} {a2 : Int32} {s : ax_S} (h : fn_J0_indexOf_7cf53 a1 a2 s = some q) : AW mm_J0_indexOf_7cf53 2 0 0 0 [some (av_r (some 8)), some (av_i a1), some (av_i a2)] [] s (some (av_i q.1), q.2) := by
  unfold fn_J0_indexOf_7cf53 at h
  refine ax_aload_n (i := 0) dJ0_indexOf_7cf53_0 rfl rfl ?_
  obtain ⟨q1, gq1, h⟩ := Option.bind_eq_some_iff.mp h
  refine ax_cVS (As := []) dJ0_indexOf_7cf53_1 (th_J0_isLatin1_aae02 gq1) rfl (And.intro wd_466 wd_27) wd_463 wd_464 wd_465 cy_J0_isLatin1_aae02 (by omega) (by decide) (Nat.le_of_ble_eq_true rfl) rfl ?_
  refine ax_if_eq (tgt := 23) dJ0_indexOf_7cf53_4 (by decide) (fun c2 => ?_) (fun c2 => ?_)
  · rw [if_pos c2] at h
    exact ax_no h
  · rw [if_neg c2] at h
    refine ax_aload_n (i := 0) dJ0_indexOf_7cf53_7 rfl rfl ?_
    refine ax_getSv dJ0_indexOf_7cf53_8 wd_726 ?_
    refine ax_iload_n (i := 1) dJ0_indexOf_7cf53_11 rfl rfl ?_
    refine ax_iload_n (i := 2) dJ0_indexOf_7cf53_12 rfl rfl ?_
    refine ax_aload_n (i := 0) dJ0_indexOf_7cf53_13 rfl rfl ?_
    obtain ⟨q3, gq3, h⟩ := Option.bind_eq_some_iff.mp h
    refine ax_cVS (As := []) dJ0_indexOf_7cf53_14 (th_J0_length_8abf5 gq3) rfl (And.intro wd_472 wd_27) wd_469 wd_470 wd_471 cy_J0_length_8abf5 (by omega) (by decide) (Nat.le_of_ble_eq_true rfl) rfl ?_
    obtain ⟨q4, gq4, h⟩ := Option.bind_eq_some_iff.mp h
    refine ax_cS (As := [av_r (some 7), av_i a1, av_i a2, av_i q3.1]) dJ0_indexOf_7cf53_17 (th_J1_indexOf_4cfef gq4) (And.intro wd_479 wd_28) wd_477 wd_478 cy_J1_indexOf_4cfef (by omega) (by decide) (Nat.le_of_ble_eq_true rfl) rfl ?_
    refine ax_goto (tgt := 36) dJ0_indexOf_7cf53_20 (by decide) ?_
    exact ax_reti dJ0_indexOf_7cf53_36 h
set_option maxRecDepth 100000 in
set_option maxHeartbeats 4000000 in
theorem th_J0_indexOf_7cf53 {q : Int32 × ax_S} {a1 : Int32} {a2 : Int32} {s : ax_S} (h : fn_J0_indexOf_7cf53 a1 a2 s = some q) : AC mm_J0_indexOf_7cf53 yJ0_indexOf_7cf53 2 0 0 [av_r (some 8), av_i a1, av_i a2] s (some (av_i q.1), q.2) := by
  exact ax_met (L0 := [some (av_r (some 8)), some (av_i a1), some (av_i a2)]) (by decide +kernel) rfl (fun h => absurd h (by decide)) ⟨rfl, rfl, rfl, trivial⟩ (Nat.le_of_ble_eq_true rfl) trivial (tw_J0_indexOf_7cf53 h)
/-! J0_indexOf_0f7a4 -/
abbrev mm_J0_indexOf_0f7a4 : ax_M := (RJ0, cJ0_indexOf_0f7a4, (some .int), 2, false)
def fn_J0_indexOf_0f7a4 (a1 : Int32) (s : ax_S) : Option (Int32 × ax_S) :=
  (fn_J0_indexOf_7cf53 a1 (0) s).bind fun q1 =>
  some (q1.1, q1.2)
set_option maxRecDepth 100000 in
set_option maxHeartbeats 4000000 in
theorem tw_J0_indexOf_0f7a4 {q : Int32 × ax_S} {a1 : Int32} {s : ax_S} (h : fn_J0_indexOf_0f7a4 a1 s = some q) : AW mm_J0_indexOf_0f7a4 3 0 0 0 [some (av_r (some 8)), some (av_i a1)] [] s (some (av_i q.1), q.2) := by
  unfold fn_J0_indexOf_0f7a4 at h
  refine ax_aload_n (i := 0) dJ0_indexOf_0f7a4_0 rfl rfl ?_
  refine ax_iload_n (i := 1) dJ0_indexOf_0f7a4_1 rfl rfl ?_
  refine ax_iconst (v := (0)) dJ0_indexOf_0f7a4_2 rfl ?_
  obtain ⟨q1, gq1, h⟩ := Option.bind_eq_some_iff.mp h
  refine ax_cVS (As := [av_i a1, av_i (0)]) dJ0_indexOf_0f7a4_3 (th_J0_indexOf_7cf53 gq1) rfl (And.intro wd_462 wd_27) wd_459 wd_460 wd_461 cy_J0_indexOf_7cf53 (by omega) (by decide) (Nat.le_of_ble_eq_true rfl) rfl ?_
  exact ax_reti dJ0_indexOf_0f7a4_6 h
set_option maxRecDepth 100000 in
set_option maxHeartbeats 4000000 in
theorem th_J0_indexOf_0f7a4 {q : Int32 × ax_S} {a1 : Int32} {s : ax_S} (h : fn_J0_indexOf_0f7a4 a1 s = some q) : AC mm_J0_indexOf_0f7a4 yJ0_indexOf_0f7a4 3 0 0 [av_r (some 8), av_i a1] s (some (av_i q.1), q.2) := by
  exact ax_met (L0 := [some (av_r (some 8)), some (av_i a1)]) (by decide +kernel) rfl (fun h => absurd h (by decide)) ⟨rfl, rfl, trivial⟩ (Nat.le_of_ble_eq_true rfl) trivial (tw_J0_indexOf_0f7a4 h)
/-! X2_entry -/
abbrev mm_X2_entry : ax_M := (RX2, cX2_entry, (some .int), 2, false)
def fn_X2_entry (a0 : Option Nat) (a1 : Int32) (s : ax_S) : Option (Int32 × ax_S) :=
  if a1 < (0) then
    some ((0), s)
  else
    (ax_ln s 9 a0).bind fun x2 =>
    if x2 ≤ a1 then
      some ((0), s)
    else
      (ax_al s 9 a0 a1).bind fun x4 =>
      some (x4, s)
set_option maxRecDepth 100000 in
set_option maxHeartbeats 4000000 in
theorem tw_X2_entry {q : Int32 × ax_S} {a0 : Option Nat} {a1 : Int32} {s : ax_S} (h : fn_X2_entry a0 a1 s = some q) : AW mm_X2_entry 0 0 0 0 [some (av_r a0), some (av_i a1)] [] s (some (av_i q.1), q.2) := by
  unfold fn_X2_entry at h
  refine ax_iconst (v := (0)) dX2_entry_0 rfl ?_
  refine ax_iload_n (i := 1) dX2_entry_1 rfl rfl ?_
  refine ax_icmp_gt (tgt := 17) dX2_entry_2 (by decide) (fun c1 => ?_) (fun c1 => ?_)
  · rw [if_pos c1] at h
    refine ax_iconst (v := (0)) dX2_entry_17 rfl ?_
    exact ax_reti dX2_entry_18 h
  · rw [if_neg c1] at h
    refine ax_iload_n (i := 1) dX2_entry_5 rfl rfl ?_
    refine ax_aload_n (i := 0) dX2_entry_6 rfl rfl ?_
    obtain ⟨x2, gx2, h⟩ := Option.bind_eq_some_iff.mp h
    refine ax_alen (t := 9) (by decide) dX2_entry_7 gx2 ?_
    refine ax_icmp_ge (tgt := 17) dX2_entry_8 (by decide) (fun c3 => ?_) (fun c3 => ?_)
    · rw [if_pos c3] at h
      refine ax_iconst (v := (0)) dX2_entry_17 rfl ?_
      exact ax_reti dX2_entry_18 h
    · rw [if_neg c3] at h
      refine ax_aload_n (i := 0) dX2_entry_11 rfl rfl ?_
      refine ax_iload_n (i := 1) dX2_entry_12 rfl rfl ?_
      obtain ⟨x4, gx4, h⟩ := Option.bind_eq_some_iff.mp h
      refine ax_iald dX2_entry_13 gx4 ?_
      refine ax_goto (tgt := 18) dX2_entry_14 (by decide) ?_
      exact ax_reti dX2_entry_18 h
set_option maxRecDepth 100000 in
set_option maxHeartbeats 4000000 in
theorem th_X2_entry {q : Int32 × ax_S} {a0 : Option Nat} {a1 : Int32} {s : ax_S} (h : fn_X2_entry a0 a1 s = some q) : AC mm_X2_entry yX2_entry 0 0 0 [av_r a0, av_i a1] s (some (av_i q.1), q.2) := by
  exact ax_met (L0 := [some (av_r a0), some (av_i a1)]) (by decide +kernel) rfl (fun h => absurd h (by decide)) ⟨rfl, rfl, trivial⟩ (Nat.le_of_ble_eq_true rfl) trivial (tw_X2_entry h)
/-! X2_highest -/
abbrev mm_X2_highest : ax_M := (RX2, cX2_highest, (some .int), 2, false)
def fn_X2_highest (a0 : Int32) (a1 : Int32) (s : ax_S) : Option (Int32 × ax_S) :=
  (fn_X2_entry (some 4) ((a0 * (4)) + a1) s).bind fun q1 =>
  some (q1.1, q1.2)
set_option maxRecDepth 100000 in
set_option maxHeartbeats 4000000 in
theorem tw_X2_highest {q : Int32 × ax_S} {a0 : Int32} {a1 : Int32} {s : ax_S} (h : fn_X2_highest a0 a1 s = some q) : AW mm_X2_highest 1 0 0 0 [some (av_i a0), some (av_i a1)] [] s (some (av_i q.1), q.2) := by
  unfold fn_X2_highest at h
  refine ax_gets (i := 4) dX2_highest_0 (by decide) wd_337 ?_
  refine ax_iload_n (i := 0) dX2_highest_3 rfl rfl ?_
  refine ax_iconst (v := (4)) dX2_highest_4 rfl ?_
  refine ax_imul dX2_highest_5 ?_
  refine ax_iload_n (i := 1) dX2_highest_6 rfl rfl ?_
  refine ax_iadd dX2_highest_7 ?_
  obtain ⟨q1, gq1, h⟩ := Option.bind_eq_some_iff.mp h
  refine ax_cS (As := [av_r (some 4), av_i ((a0 * (4)) + a1)]) dX2_highest_8 (th_X2_entry gq1) (And.intro wd_267 wd_32) wd_265 wd_266 cy_X2_entry (by omega) (by decide) (Nat.le_of_ble_eq_true rfl) rfl ?_
  exact ax_reti dX2_highest_11 h
set_option maxRecDepth 100000 in
set_option maxHeartbeats 4000000 in
theorem th_X2_highest {q : Int32 × ax_S} {a0 : Int32} {a1 : Int32} {s : ax_S} (h : fn_X2_highest a0 a1 s = some q) : AC mm_X2_highest yX2_highest 1 0 0 [av_i a0, av_i a1] s (some (av_i q.1), q.2) := by
  exact ax_met (L0 := [some (av_i a0), some (av_i a1)]) (by decide +kernel) rfl (fun h => absurd h (by decide)) ⟨rfl, rfl, trivial⟩ (Nat.le_of_ble_eq_true rfl) trivial (tw_X2_highest h)
/-! X2_inputs -/
abbrev mm_X2_inputs : ax_M := (RX2, cX2_inputs, (some .int), 1, false)
def fn_X2_inputs (a0 : Int32) (s : ax_S) : Option (Int32 × ax_S) :=
  (fn_X2_entry (some 0) a0 s).bind fun q1 =>
  some (q1.1, q1.2)
set_option maxRecDepth 100000 in
set_option maxHeartbeats 4000000 in
theorem tw_X2_inputs {q : Int32 × ax_S} {a0 : Int32} {s : ax_S} (h : fn_X2_inputs a0 s = some q) : AW mm_X2_inputs 1 0 0 0 [some (av_i a0)] [] s (some (av_i q.1), q.2) := by
  unfold fn_X2_inputs at h
  refine ax_gets (i := 0) dX2_inputs_0 (by decide) wd_263 ?_
  refine ax_iload_n (i := 0) dX2_inputs_3 rfl rfl ?_
  obtain ⟨q1, gq1, h⟩ := Option.bind_eq_some_iff.mp h
  refine ax_cS (As := [av_r (some 0), av_i a0]) dX2_inputs_4 (th_X2_entry gq1) (And.intro wd_267 wd_32) wd_265 wd_266 cy_X2_entry (by omega) (by decide) (Nat.le_of_ble_eq_true rfl) rfl ?_
  exact ax_reti dX2_inputs_7 h
set_option maxRecDepth 100000 in
set_option maxHeartbeats 4000000 in
theorem th_X2_inputs {q : Int32 × ax_S} {a0 : Int32} {s : ax_S} (h : fn_X2_inputs a0 s = some q) : AC mm_X2_inputs yX2_inputs 1 0 0 [av_i a0] s (some (av_i q.1), q.2) := by
  exact ax_met (L0 := [some (av_i a0)]) (by decide +kernel) rfl (fun h => absurd h (by decide)) ⟨rfl, trivial⟩ (Nat.le_of_ble_eq_true rfl) trivial (tw_X2_inputs h)
/-! X2_lowest -/
abbrev mm_X2_lowest : ax_M := (RX2, cX2_lowest, (some .int), 2, false)
def fn_X2_lowest (a0 : Int32) (a1 : Int32) (s : ax_S) : Option (Int32 × ax_S) :=
  (fn_X2_entry (some 3) ((a0 * (4)) + a1) s).bind fun q1 =>
  some (q1.1, q1.2)
set_option maxRecDepth 100000 in
set_option maxHeartbeats 4000000 in
theorem tw_X2_lowest {q : Int32 × ax_S} {a0 : Int32} {a1 : Int32} {s : ax_S} (h : fn_X2_lowest a0 a1 s = some q) : AW mm_X2_lowest 1 0 0 0 [some (av_i a0), some (av_i a1)] [] s (some (av_i q.1), q.2) := by
  unfold fn_X2_lowest at h
  refine ax_gets (i := 3) dX2_lowest_0 (by decide) wd_332 ?_
  refine ax_iload_n (i := 0) dX2_lowest_3 rfl rfl ?_
  refine ax_iconst (v := (4)) dX2_lowest_4 rfl ?_
  refine ax_imul dX2_lowest_5 ?_
  refine ax_iload_n (i := 1) dX2_lowest_6 rfl rfl ?_
  refine ax_iadd dX2_lowest_7 ?_
  obtain ⟨q1, gq1, h⟩ := Option.bind_eq_some_iff.mp h
  refine ax_cS (As := [av_r (some 3), av_i ((a0 * (4)) + a1)]) dX2_lowest_8 (th_X2_entry gq1) (And.intro wd_267 wd_32) wd_265 wd_266 cy_X2_entry (by omega) (by decide) (Nat.le_of_ble_eq_true rfl) rfl ?_
  exact ax_reti dX2_lowest_11 h
set_option maxRecDepth 100000 in
set_option maxHeartbeats 4000000 in
theorem th_X2_lowest {q : Int32 × ax_S} {a0 : Int32} {a1 : Int32} {s : ax_S} (h : fn_X2_lowest a0 a1 s = some q) : AC mm_X2_lowest yX2_lowest 1 0 0 [av_i a0, av_i a1] s (some (av_i q.1), q.2) := by
  exact ax_met (L0 := [some (av_i a0), some (av_i a1)]) (by decide +kernel) rfl (fun h => absurd h (by decide)) ⟨rfl, rfl, trivial⟩ (Nat.le_of_ble_eq_true rfl) trivial (tw_X2_lowest h)
/-! X2_numbers -/
abbrev mm_X2_numbers : ax_M := (RX2, cX2_numbers, (some .int), 1, false)
def fn_X2_numbers (a0 : Int32) (s : ax_S) : Option (Int32 × ax_S) :=
  (fn_X2_entry (some 2) a0 s).bind fun q1 =>
  some (q1.1, q1.2)
set_option maxRecDepth 100000 in
set_option maxHeartbeats 4000000 in
theorem tw_X2_numbers {q : Int32 × ax_S} {a0 : Int32} {s : ax_S} (h : fn_X2_numbers a0 s = some q) : AW mm_X2_numbers 1 0 0 0 [some (av_i a0)] [] s (some (av_i q.1), q.2) := by
  unfold fn_X2_numbers at h
  refine ax_gets (i := 2) dX2_numbers_0 (by decide) wd_562 ?_
  refine ax_iload_n (i := 0) dX2_numbers_3 rfl rfl ?_
  obtain ⟨q1, gq1, h⟩ := Option.bind_eq_some_iff.mp h
  refine ax_cS (As := [av_r (some 2), av_i a0]) dX2_numbers_4 (th_X2_entry gq1) (And.intro wd_267 wd_32) wd_265 wd_266 cy_X2_entry (by omega) (by decide) (Nat.le_of_ble_eq_true rfl) rfl ?_
  exact ax_reti dX2_numbers_7 h
set_option maxRecDepth 100000 in
set_option maxHeartbeats 4000000 in
theorem th_X2_numbers {q : Int32 × ax_S} {a0 : Int32} {s : ax_S} (h : fn_X2_numbers a0 s = some q) : AC mm_X2_numbers yX2_numbers 1 0 0 [av_i a0] s (some (av_i q.1), q.2) := by
  exact ax_met (L0 := [some (av_i a0)]) (by decide +kernel) rfl (fun h => absurd h (by decide)) ⟨rfl, trivial⟩ (Nat.le_of_ble_eq_true rfl) trivial (tw_X2_numbers h)
/-! X2_parameters -/
abbrev mm_X2_parameters : ax_M := (RX2, cX2_parameters, (some .int), 1, false)
def fn_X2_parameters (a0 : Int32) (s : ax_S) : Option (Int32 × ax_S) :=
  (fn_X2_entry (some 1) a0 s).bind fun q1 =>
  some (q1.1, q1.2)
set_option maxRecDepth 100000 in
set_option maxHeartbeats 4000000 in
theorem tw_X2_parameters {q : Int32 × ax_S} {a0 : Int32} {s : ax_S} (h : fn_X2_parameters a0 s = some q) : AW mm_X2_parameters 1 0 0 0 [some (av_i a0)] [] s (some (av_i q.1), q.2) := by
  unfold fn_X2_parameters at h
  refine ax_gets (i := 1) dX2_parameters_0 (by decide) wd_327 ?_
  refine ax_iload_n (i := 0) dX2_parameters_3 rfl rfl ?_
  obtain ⟨q1, gq1, h⟩ := Option.bind_eq_some_iff.mp h
  refine ax_cS (As := [av_r (some 1), av_i a0]) dX2_parameters_4 (th_X2_entry gq1) (And.intro wd_267 wd_32) wd_265 wd_266 cy_X2_entry (by omega) (by decide) (Nat.le_of_ble_eq_true rfl) rfl ?_
  exact ax_reti dX2_parameters_7 h
set_option maxRecDepth 100000 in
set_option maxHeartbeats 4000000 in
theorem th_X2_parameters {q : Int32 × ax_S} {a0 : Int32} {s : ax_S} (h : fn_X2_parameters a0 s = some q) : AC mm_X2_parameters yX2_parameters 1 0 0 [av_i a0] s (some (av_i q.1), q.2) := by
  exact ax_met (L0 := [some (av_i a0)]) (by decide +kernel) rfl (fun h => absurd h (by decide)) ⟨rfl, trivial⟩ (Nat.le_of_ble_eq_true rfl) trivial (tw_X2_parameters h)
/-! X2_atFirst -/
abbrev mm_X2_atFirst : ax_M := (RX2, cX2_atFirst, (some .int), 2, false)
def fn_X2_atFirst (a0 : Int32) (a1 : Int32) (s : ax_S) : Option (Int32 × ax_S) :=
  (fn_X2_entry (some 5) ((a0 * (4)) + a1) s).bind fun q1 =>
  some (q1.1, q1.2)
set_option maxRecDepth 100000 in
set_option maxHeartbeats 4000000 in
theorem tw_X2_atFirst {q : Int32 × ax_S} {a0 : Int32} {a1 : Int32} {s : ax_S} (h : fn_X2_atFirst a0 a1 s = some q) : AW mm_X2_atFirst 1 0 0 0 [some (av_i a0), some (av_i a1)] [] s (some (av_i q.1), q.2) := by
  unfold fn_X2_atFirst at h
  refine ax_gets (i := 5) dX2_atFirst_0 (by decide) wd_577 ?_
  refine ax_iload_n (i := 0) dX2_atFirst_3 rfl rfl ?_
  refine ax_iconst (v := (4)) dX2_atFirst_4 rfl ?_
  refine ax_imul dX2_atFirst_5 ?_
  refine ax_iload_n (i := 1) dX2_atFirst_6 rfl rfl ?_
  refine ax_iadd dX2_atFirst_7 ?_
  obtain ⟨q1, gq1, h⟩ := Option.bind_eq_some_iff.mp h
  refine ax_cS (As := [av_r (some 5), av_i ((a0 * (4)) + a1)]) dX2_atFirst_8 (th_X2_entry gq1) (And.intro wd_267 wd_32) wd_265 wd_266 cy_X2_entry (by omega) (by decide) (Nat.le_of_ble_eq_true rfl) rfl ?_
  exact ax_reti dX2_atFirst_11 h
set_option maxRecDepth 100000 in
set_option maxHeartbeats 4000000 in
theorem th_X2_atFirst {q : Int32 × ax_S} {a0 : Int32} {a1 : Int32} {s : ax_S} (h : fn_X2_atFirst a0 a1 s = some q) : AC mm_X2_atFirst yX2_atFirst 1 0 0 [av_i a0, av_i a1] s (some (av_i q.1), q.2) := by
  exact ax_met (L0 := [some (av_i a0), some (av_i a1)]) (by decide +kernel) rfl (fun h => absurd h (by decide)) ⟨rfl, rfl, trivial⟩ (Nat.le_of_ble_eq_true rfl) trivial (tw_X2_atFirst h)
/-! X3_reset -/
abbrev mm_X3_reset : ax_M := (RX3, cX3_reset, none, 3, false)
def fb_X3_reset_40 : Nat → Option Nat → Int32 → Int32 → ax_S → Option (ax_S)
  | 0, _, _, _, _ => none
  | n + 1, a0, a1, a2, s =>
    if (4) ≤ a2 then
      some s
    else
      (ax_gr s 2 4 a0).bind fun r2 =>
      (fn_X2_atFirst a1 a2 s).bind fun q3 =>
      (ax_as q3.2 9 r2 a2 q3.1).bind fun s4 =>
      (fb_X3_reset_40 n) a0 a1 (a2 + (1)) s4
set_option maxRecDepth 100000 in
set_option maxHeartbeats 4000000 in
theorem tb_X3_reset_40 {q : ax_S} : ∀ (n : Nat) (a0 : Option Nat) (a1 : Int32) (a2 : Int32) (s : ax_S) (h : fb_X3_reset_40 n a0 a1 a2 s = some q), AW mm_X3_reset 2 0 0 40 [(some (av_r a0)), (some (av_i a1)), (some (av_i a2))] [] s (none, q) := by
  intro n
  induction n with
  | zero =>
    intro a0 a1 a2 s h
    exact ax_no h
  | succ n ih =>
    intro a0 a1 a2 s h
    unfold fb_X3_reset_40 at h
    refine ax_iload_n (i := 2) dX3_reset_40 rfl rfl ?_
    refine ax_iconst (v := (4)) dX3_reset_41 rfl ?_
    refine ax_icmp_ge (tgt := 62) dX3_reset_42 (by decide) (fun c1 => ?_) (fun c1 => ?_)
    · rw [if_pos c1] at h
      exact ax_retv dX3_reset_62 h
    · rw [if_neg c1] at h
      refine ax_aload_n (i := 0) dX3_reset_45 rfl rfl ?_
      obtain ⟨r2, gr2, h⟩ := Option.bind_eq_some_iff.mp h
      refine ax_getR (q := (RX3, TX3, 5)) (t := 2) (k := 4) dX3_reset_46 rfl (by decide) wd_69 rfl gr2 ?_
      refine ax_iload_n (i := 2) dX3_reset_49 rfl rfl ?_
      refine ax_iload_n (i := 1) dX3_reset_50 rfl rfl ?_
      refine ax_iload_n (i := 2) dX3_reset_51 rfl rfl ?_
      obtain ⟨q3, gq3, h⟩ := Option.bind_eq_some_iff.mp h
      refine ax_cS (As := [av_i a1, av_i a2]) dX3_reset_52 (th_X2_atFirst gq3) (And.intro wd_576 wd_32) wd_574 wd_575 cy_X2_atFirst (by omega) (by decide) (Nat.le_of_ble_eq_true rfl) rfl ?_
      obtain ⟨s4, gs4, h⟩ := Option.bind_eq_some_iff.mp h
      refine ax_iast dX3_reset_55 gs4 ?_
      refine ax_iinc (i := 2) (v := (a2 + (1))) (L2 := [some (av_r a0), some (av_i a1), some (av_i (a2 + (1)))]) dX3_reset_56 rfl rfl (by decide) rfl rfl ?_
      refine ax_goto (tgt := 40) dX3_reset_59 (by decide) ?_
      exact ax_less (L' := [(some (av_r a0)), (some (av_i a1)), (some (av_i (a2 + (1))))]) ⟨rfl, rfl, rfl, trivial⟩ (ih _ _ _ _ h)
def fb_X3_reset_18 : Nat → Option Nat → Int32 → Int32 → ax_S → Option (ax_S)
  | 0, _, _, _, _ => none
  | n + 1, a0, a1, a2, s =>
    if (3) ≤ a2 then
      fb_X3_reset_40 10000 a0 a1 (0) s
    else
      (ax_gr s 2 3 a0).bind fun r6 =>
      (ax_as s 9 r6 a2 (-1005)).bind fun s7 =>
      (fb_X3_reset_18 n) a0 a1 (a2 + (1)) s7
set_option maxRecDepth 100000 in
set_option maxHeartbeats 4000000 in
theorem tb_X3_reset_18 {q : ax_S} : ∀ (n : Nat) (a0 : Option Nat) (a1 : Int32) (a2 : Int32) (s : ax_S) (h : fb_X3_reset_18 n a0 a1 a2 s = some q), AW mm_X3_reset 2 0 0 18 [(some (av_r a0)), (some (av_i a1)), (some (av_i a2))] [] s (none, q) := by
  intro n
  induction n with
  | zero =>
    intro a0 a1 a2 s h
    exact ax_no h
  | succ n ih =>
    intro a0 a1 a2 s h
    unfold fb_X3_reset_18 at h
    refine ax_iload_n (i := 2) dX3_reset_18 rfl rfl ?_
    refine ax_iconst (v := (3)) dX3_reset_19 rfl ?_
    refine ax_icmp_ge (tgt := 38) dX3_reset_20 (by decide) (fun c5 => ?_) (fun c5 => ?_)
    · rw [if_pos c5] at h
      refine ax_iconst (v := (0)) dX3_reset_38 rfl ?_
      refine ax_istore_n (i := 2) (L2 := [some (av_r a0), some (av_i a1), some (av_i (0))]) dX3_reset_39 rfl (by decide) rfl rfl ?_
      exact ax_less (L' := [(some (av_r a0)), (some (av_i a1)), (some (av_i (0)))]) ⟨rfl, rfl, rfl, trivial⟩ (tb_X3_reset_40  _ _ _ _ _ h)
    · rw [if_neg c5] at h
      refine ax_aload_n (i := 0) dX3_reset_23 rfl rfl ?_
      obtain ⟨r6, gr6, h⟩ := Option.bind_eq_some_iff.mp h
      refine ax_getR (q := (RX3, TX3, 5)) (t := 2) (k := 3) dX3_reset_24 rfl (by decide) wd_65 rfl gr6 ?_
      refine ax_iload_n (i := 2) dX3_reset_27 rfl rfl ?_
      refine ax_sipush (v := (-1005)) dX3_reset_28 rfl ?_
      obtain ⟨s7, gs7, h⟩ := Option.bind_eq_some_iff.mp h
      refine ax_iast dX3_reset_31 gs7 ?_
      refine ax_iinc (i := 2) (v := (a2 + (1))) (L2 := [some (av_r a0), some (av_i a1), some (av_i (a2 + (1)))]) dX3_reset_32 rfl rfl (by decide) rfl rfl ?_
      refine ax_goto (tgt := 18) dX3_reset_35 (by decide) ?_
      exact ax_less (L' := [(some (av_r a0)), (some (av_i a1)), (some (av_i (a2 + (1))))]) ⟨rfl, rfl, rfl, trivial⟩ (ih _ _ _ _ h)
def fn_X3_reset (a0 : Option Nat) (a1 : Int32) (s : ax_S) : Option (ax_S) :=
  (ax_pi s 2 0 a0 a1).bind fun s8 =>
  (ax_pi s8 2 1 a0 (0)).bind fun s9 =>
  (ax_pi s9 2 2 a0 (99)).bind fun s10 =>
  fb_X3_reset_18 10000 a0 a1 (0) s10
set_option maxRecDepth 100000 in
set_option maxHeartbeats 4000000 in
theorem tw_X3_reset {q : ax_S} {a0 : Option Nat} {a1 : Int32} {s : ax_S} (h : fn_X3_reset a0 a1 s = some q) : AW mm_X3_reset 2 0 0 0 [some (av_r a0), some (av_i a1), none] [] s (none, q) := by
  unfold fn_X3_reset at h
  refine ax_aload_n (i := 0) dX3_reset_0 rfl rfl ?_
  refine ax_iload_n (i := 1) dX3_reset_1 rfl rfl ?_
  obtain ⟨s8, gs8, h⟩ := Option.bind_eq_some_iff.mp h
  refine ax_putI (q := (RX3, TX3, 5)) (t := 2) (k := 0) dX3_reset_2 rfl (by decide) wd_58 rfl rfl ⟨rfl, rfl⟩ gs8 ?_
  refine ax_aload_n (i := 0) dX3_reset_5 rfl rfl ?_
  refine ax_iconst (v := (0)) dX3_reset_6 rfl ?_
  obtain ⟨s9, gs9, h⟩ := Option.bind_eq_some_iff.mp h
  refine ax_putI (q := (RX3, TX3, 5)) (t := 2) (k := 1) dX3_reset_7 rfl (by decide) wd_61 rfl rfl ⟨rfl, rfl⟩ gs9 ?_
  refine ax_aload_n (i := 0) dX3_reset_10 rfl rfl ?_
  refine ax_bipush (v := (99)) dX3_reset_11 rfl ?_
  obtain ⟨s10, gs10, h⟩ := Option.bind_eq_some_iff.mp h
  refine ax_putI (q := (RX3, TX3, 5)) (t := 2) (k := 2) dX3_reset_13 rfl (by decide) wd_63 rfl rfl ⟨rfl, rfl⟩ gs10 ?_
  refine ax_iconst (v := (0)) dX3_reset_16 rfl ?_
  refine ax_istore_n (i := 2) (L2 := [some (av_r a0), some (av_i a1), some (av_i (0))]) dX3_reset_17 rfl (by decide) rfl rfl ?_
  exact ax_less (L' := [(some (av_r a0)), (some (av_i a1)), (some (av_i (0)))]) ⟨rfl, rfl, rfl, trivial⟩ (tb_X3_reset_18  _ _ _ _ _ h)
set_option maxRecDepth 100000 in
set_option maxHeartbeats 4000000 in
theorem th_X3_reset {q : ax_S} {a0 : Option Nat} {a1 : Int32} {s : ax_S} (h : fn_X3_reset a0 a1 s = some q) : AC mm_X3_reset yX3_reset 2 0 0 [av_r a0, av_i a1] s (none, q) := by
  exact ax_met (L0 := [some (av_r a0), some (av_i a1), none]) (by decide +kernel) rfl (fun h => absurd h (by decide)) ⟨rfl, rfl, trivial⟩ (Nat.le_of_ble_eq_true rfl) trivial (tw_X3_reset h)
/-! X3_inputSet -/
abbrev mm_X3_inputSet : ax_M := (RX3, cX3_inputSet, (some .int), 3, false)
def fb_X3_inputSet_4 : Nat → Option Nat → Int32 → Int32 → ax_S → Option (Int32 × ax_S)
  | 0, _, _, _, _ => none
  | n + 1, a0, a1, a2, s =>
    if (3) ≤ a2 then
      some (a1, s)
    else
      (ax_gr s 2 3 a0).bind fun r2 =>
      (ax_al s 9 r2 a2).bind fun x3 =>
      if x3 = (-1005) then
        (fb_X3_inputSet_4 n) a0 a1 (a2 + (1)) s
      else
        (ax_gr s 2 3 a0).bind fun r5 =>
        (ax_al s 9 r5 a2).bind fun x6 =>
        ax_bd ((a1 ||| ((1) <<< (x6 &&& 31)))) fun v7 =>
        (fb_X3_inputSet_4 n) a0 v7 (a2 + (1)) s
set_option maxRecDepth 100000 in
set_option maxHeartbeats 4000000 in
theorem tb_X3_inputSet_4 {q : Int32 × ax_S} : ∀ (n : Nat) (a0 : Option Nat) (a1 : Int32) (a2 : Int32) (s : ax_S) (h : fb_X3_inputSet_4 n a0 a1 a2 s = some q), AW mm_X3_inputSet 0 0 0 4 [(some (av_r a0)), (some (av_i a1)), (some (av_i a2))] [] s (some (av_i q.1), q.2) := by
  intro n
  induction n with
  | zero =>
    intro a0 a1 a2 s h
    exact ax_no h
  | succ n ih =>
    intro a0 a1 a2 s h
    unfold fb_X3_inputSet_4 at h
    refine ax_iload_n (i := 2) dX3_inputSet_4 rfl rfl ?_
    refine ax_iconst (v := (3)) dX3_inputSet_5 rfl ?_
    refine ax_icmp_ge (tgt := 38) dX3_inputSet_6 (by decide) (fun c1 => ?_) (fun c1 => ?_)
    · rw [if_pos c1] at h
      refine ax_iload_n (i := 1) dX3_inputSet_38 rfl rfl ?_
      exact ax_reti dX3_inputSet_39 h
    · rw [if_neg c1] at h
      refine ax_aload_n (i := 0) dX3_inputSet_9 rfl rfl ?_
      obtain ⟨r2, gr2, h⟩ := Option.bind_eq_some_iff.mp h
      refine ax_getR (q := (RX3, TX3, 5)) (t := 2) (k := 3) dX3_inputSet_10 rfl (by decide) wd_65 rfl gr2 ?_
      refine ax_iload_n (i := 2) dX3_inputSet_13 rfl rfl ?_
      obtain ⟨x3, gx3, h⟩ := Option.bind_eq_some_iff.mp h
      refine ax_iald dX3_inputSet_14 gx3 ?_
      refine ax_sipush (v := (-1005)) dX3_inputSet_15 rfl ?_
      refine ax_icmp_eq (tgt := 32) dX3_inputSet_18 (by decide) (fun c4 => ?_) (fun c4 => ?_)
      · rw [if_pos c4] at h
        refine ax_iinc (i := 2) (v := (a2 + (1))) (L2 := [some (av_r a0), some (av_i a1), some (av_i (a2 + (1)))]) dX3_inputSet_32 rfl rfl (by decide) rfl rfl ?_
        refine ax_goto (tgt := 4) dX3_inputSet_35 (by decide) ?_
        exact ax_less (L' := [(some (av_r a0)), (some (av_i a1)), (some (av_i (a2 + (1))))]) ⟨rfl, rfl, rfl, trivial⟩ (ih _ _ _ _ h)
      · rw [if_neg c4] at h
        refine ax_iload_n (i := 1) dX3_inputSet_21 rfl rfl ?_
        refine ax_iconst (v := (1)) dX3_inputSet_22 rfl ?_
        refine ax_aload_n (i := 0) dX3_inputSet_23 rfl rfl ?_
        obtain ⟨r5, gr5, h⟩ := Option.bind_eq_some_iff.mp h
        refine ax_getR (q := (RX3, TX3, 5)) (t := 2) (k := 3) dX3_inputSet_24 rfl (by decide) wd_65 rfl gr5 ?_
        refine ax_iload_n (i := 2) dX3_inputSet_27 rfl rfl ?_
        obtain ⟨x6, gx6, h⟩ := Option.bind_eq_some_iff.mp h
        refine ax_iald dX3_inputSet_28 gx6 ?_
        refine ax_ishl dX3_inputSet_29 ?_
        refine ax_ior dX3_inputSet_30 ?_
        refine ax_bdI h (fun v7 h => ?_)
        refine ax_istore_n (i := 1) (L2 := [some (av_r a0), some (av_i v7), some (av_i a2)]) dX3_inputSet_31 rfl (by decide) rfl rfl ?_
        refine ax_iinc (i := 2) (v := (a2 + (1))) (L2 := [some (av_r a0), some (av_i v7), some (av_i (a2 + (1)))]) dX3_inputSet_32 rfl rfl (by decide) rfl rfl ?_
        refine ax_goto (tgt := 4) dX3_inputSet_35 (by decide) ?_
        exact ax_less (L' := [(some (av_r a0)), (some (av_i v7)), (some (av_i (a2 + (1))))]) ⟨rfl, rfl, rfl, trivial⟩ (ih _ _ _ _ h)
def fn_X3_inputSet (a0 : Option Nat) (s : ax_S) : Option (Int32 × ax_S) :=
  fb_X3_inputSet_4 10000 a0 (0) (0) s
set_option maxRecDepth 100000 in
set_option maxHeartbeats 4000000 in
theorem tw_X3_inputSet {q : Int32 × ax_S} {a0 : Option Nat} {s : ax_S} (h : fn_X3_inputSet a0 s = some q) : AW mm_X3_inputSet 0 0 0 0 [some (av_r a0), none, none] [] s (some (av_i q.1), q.2) := by
  unfold fn_X3_inputSet at h
  refine ax_iconst (v := (0)) dX3_inputSet_0 rfl ?_
  refine ax_istore_n (i := 1) (L2 := [some (av_r a0), some (av_i (0)), none]) dX3_inputSet_1 rfl (by decide) rfl rfl ?_
  refine ax_iconst (v := (0)) dX3_inputSet_2 rfl ?_
  refine ax_istore_n (i := 2) (L2 := [some (av_r a0), some (av_i (0)), some (av_i (0))]) dX3_inputSet_3 rfl (by decide) rfl rfl ?_
  exact ax_less (L' := [(some (av_r a0)), (some (av_i (0))), (some (av_i (0)))]) ⟨rfl, rfl, rfl, trivial⟩ (tb_X3_inputSet_4  _ _ _ _ _ h)
set_option maxRecDepth 100000 in
set_option maxHeartbeats 4000000 in
theorem th_X3_inputSet {q : Int32 × ax_S} {a0 : Option Nat} {s : ax_S} (h : fn_X3_inputSet a0 s = some q) : AC mm_X3_inputSet yX3_inputSet 0 0 0 [av_r a0] s (some (av_i q.1), q.2) := by
  exact ax_met (L0 := [some (av_r a0), none, none]) (by decide +kernel) rfl (fun h => absurd h (by decide)) ⟨rfl, trivial⟩ (Nat.le_of_ble_eq_true rfl) trivial (tw_X3_inputSet h)
/-! X9_contains -/
abbrev mm_X9_contains : ax_M := (RX9, cX9_contains, (some .boolean), 2, false)
def fi_X9_contains (a0 : Int32) (a1 : Int32) (s : ax_S) : Option (Int32 × ax_S) :=
  (fn_X9_isIn a1 (0) (11) s).bind fun q1 =>
  if q1.1 = 0 then
    some ((0), q1.2)
  else
    if ((a0 >>> (a1 &&& 31)) &&& (1)) = (1) then
      some ((1), q1.2)
    else
      some ((0), q1.2)
set_option maxRecDepth 100000 in
set_option maxHeartbeats 4000000 in
theorem tw_X9_contains {q : Int32 × ax_S} {a0 : Int32} {a1 : Int32} {s : ax_S} (h : fi_X9_contains a0 a1 s = some q) : AW mm_X9_contains 1 0 0 0 [some (av_i a0), some (av_i a1)] [] s (some (av_i q.1), q.2) := by
  unfold fi_X9_contains at h
  refine ax_iload_n (i := 1) dX9_contains_0 rfl rfl ?_
  refine ax_iconst (v := (0)) dX9_contains_1 rfl ?_
  refine ax_bipush (v := (11)) dX9_contains_2 rfl ?_
  obtain ⟨q1, gq1, h⟩ := Option.bind_eq_some_iff.mp h
  refine ax_cS (As := [av_i a1, av_i (0), av_i (11)]) dX9_contains_4 (th_X9_isIn gq1) (And.intro wd_259 wd_18) wd_280 wd_258 cy_X9_isIn (by omega) (by decide) (Nat.le_of_ble_eq_true rfl) rfl ?_
  refine ax_if_eq (tgt := 23) dX9_contains_7 (by decide) (fun c2 => ?_) (fun c2 => ?_)
  · rw [if_pos c2] at h
    refine ax_iconst (v := (0)) dX9_contains_23 rfl ?_
    exact ax_reti dX9_contains_24 h
  · rw [if_neg c2] at h
    refine ax_iload_n (i := 0) dX9_contains_10 rfl rfl ?_
    refine ax_iload_n (i := 1) dX9_contains_11 rfl rfl ?_
    refine ax_ishr dX9_contains_12 ?_
    refine ax_iconst (v := (1)) dX9_contains_13 rfl ?_
    refine ax_iand dX9_contains_14 ?_
    refine ax_iconst (v := (1)) dX9_contains_15 rfl ?_
    refine ax_icmp_ne (tgt := 23) dX9_contains_16 (by decide) (fun c3 => ?_) (fun c3 => ?_)
    · rw [if_neg c3] at h
      refine ax_iconst (v := (0)) dX9_contains_23 rfl ?_
      exact ax_reti dX9_contains_24 h
    · rw [if_pos c3] at h
      refine ax_iconst (v := (1)) dX9_contains_19 rfl ?_
      refine ax_goto (tgt := 24) dX9_contains_20 (by decide) ?_
      exact ax_reti dX9_contains_24 h
def fn_X9_contains (a0 : Int32) (a1 : Int32) (s : ax_S) : Option (Int32 × ax_S) := ax_bz (fi_X9_contains a0 a1 s)
set_option maxRecDepth 100000 in
set_option maxHeartbeats 4000000 in
theorem th_X9_contains {q : Int32 × ax_S} {a0 : Int32} {a1 : Int32} {s : ax_S} (h : fn_X9_contains a0 a1 s = some q) : AC mm_X9_contains yX9_contains 1 0 0 [av_i a0, av_i a1] s (some (av_i q.1), q.2) := by
  obtain ⟨h, hz⟩ := ax_bz_of h
  exact ax_met (L0 := [some (av_i a0), some (av_i a1)]) (by decide +kernel) rfl (fun h => absurd h (by decide)) ⟨rfl, rfl, trivial⟩ (Nat.le_of_ble_eq_true rfl) hz (tw_X9_contains h)
/-! J6_bitCount_0f7a4 -/
abbrev mm_J6_bitCount_0f7a4 : ax_M := (RJ6, cJ6_bitCount_0f7a4, (some .int), 1, false)
def fn_J6_bitCount_0f7a4 (a0 : Int32) (s : ax_S) : Option (Int32 × ax_S) :=
  ax_bd ((a0 - (((a0).toUInt32 >>> (((1)).toUInt32 &&& Int32.toUInt32 31)).toInt32 &&& (1431655765)))) fun v1 =>
  ax_bd (((v1 &&& (858993459)) + (((v1).toUInt32 >>> (((2)).toUInt32 &&& Int32.toUInt32 31)).toInt32 &&& (858993459)))) fun v2 =>
  ax_bd (((v2 + ((v2).toUInt32 >>> (((4)).toUInt32 &&& Int32.toUInt32 31)).toInt32) &&& (252645135))) fun v3 =>
  ax_bd ((v3 + ((v3).toUInt32 >>> (((8)).toUInt32 &&& Int32.toUInt32 31)).toInt32)) fun v4 =>
  ax_bd ((v4 + ((v4).toUInt32 >>> (((16)).toUInt32 &&& Int32.toUInt32 31)).toInt32)) fun v5 =>
  some ((v5 &&& (63)), s)
set_option maxRecDepth 100000 in
set_option maxHeartbeats 4000000 in
theorem tw_J6_bitCount_0f7a4 {q : Int32 × ax_S} {a0 : Int32} {s : ax_S} (h : fn_J6_bitCount_0f7a4 a0 s = some q) : AW mm_J6_bitCount_0f7a4 0 0 0 0 [some (av_i a0)] [] s (some (av_i q.1), q.2) := by
  unfold fn_J6_bitCount_0f7a4 at h
  refine ax_iload_n (i := 0) dJ6_bitCount_0f7a4_0 rfl rfl ?_
  refine ax_iload_n (i := 0) dJ6_bitCount_0f7a4_1 rfl rfl ?_
  refine ax_iconst (v := (1)) dJ6_bitCount_0f7a4_2 rfl ?_
  refine ax_iushr dJ6_bitCount_0f7a4_3 ?_
  refine ax_ldcw (v := (1431655765)) dJ6_bitCount_0f7a4_4 wd_623 ?_
  refine ax_iand dJ6_bitCount_0f7a4_7 ?_
  refine ax_isub dJ6_bitCount_0f7a4_8 ?_
  refine ax_bdI h (fun v1 h => ?_)
  refine ax_istore_n (i := 0) (L2 := [some (av_i v1)]) dJ6_bitCount_0f7a4_9 rfl (by decide) rfl rfl ?_
  refine ax_iload_n (i := 0) dJ6_bitCount_0f7a4_10 rfl rfl ?_
  refine ax_ldcw (v := (858993459)) dJ6_bitCount_0f7a4_11 wd_624 ?_
  refine ax_iand dJ6_bitCount_0f7a4_14 ?_
  refine ax_iload_n (i := 0) dJ6_bitCount_0f7a4_15 rfl rfl ?_
  refine ax_iconst (v := (2)) dJ6_bitCount_0f7a4_16 rfl ?_
  refine ax_iushr dJ6_bitCount_0f7a4_17 ?_
  refine ax_ldcw (v := (858993459)) dJ6_bitCount_0f7a4_18 wd_624 ?_
  refine ax_iand dJ6_bitCount_0f7a4_21 ?_
  refine ax_iadd dJ6_bitCount_0f7a4_22 ?_
  refine ax_bdI h (fun v2 h => ?_)
  refine ax_istore_n (i := 0) (L2 := [some (av_i v2)]) dJ6_bitCount_0f7a4_23 rfl (by decide) rfl rfl ?_
  refine ax_iload_n (i := 0) dJ6_bitCount_0f7a4_24 rfl rfl ?_
  refine ax_iload_n (i := 0) dJ6_bitCount_0f7a4_25 rfl rfl ?_
  refine ax_iconst (v := (4)) dJ6_bitCount_0f7a4_26 rfl ?_
  refine ax_iushr dJ6_bitCount_0f7a4_27 ?_
  refine ax_iadd dJ6_bitCount_0f7a4_28 ?_
  refine ax_ldcw (v := (252645135)) dJ6_bitCount_0f7a4_29 wd_625 ?_
  refine ax_iand dJ6_bitCount_0f7a4_32 ?_
  refine ax_bdI h (fun v3 h => ?_)
  refine ax_istore_n (i := 0) (L2 := [some (av_i v3)]) dJ6_bitCount_0f7a4_33 rfl (by decide) rfl rfl ?_
  refine ax_iload_n (i := 0) dJ6_bitCount_0f7a4_34 rfl rfl ?_
  refine ax_iload_n (i := 0) dJ6_bitCount_0f7a4_35 rfl rfl ?_
  refine ax_bipush (v := (8)) dJ6_bitCount_0f7a4_36 rfl ?_
  refine ax_iushr dJ6_bitCount_0f7a4_38 ?_
  refine ax_iadd dJ6_bitCount_0f7a4_39 ?_
  refine ax_bdI h (fun v4 h => ?_)
  refine ax_istore_n (i := 0) (L2 := [some (av_i v4)]) dJ6_bitCount_0f7a4_40 rfl (by decide) rfl rfl ?_
  refine ax_iload_n (i := 0) dJ6_bitCount_0f7a4_41 rfl rfl ?_
  refine ax_iload_n (i := 0) dJ6_bitCount_0f7a4_42 rfl rfl ?_
  refine ax_bipush (v := (16)) dJ6_bitCount_0f7a4_43 rfl ?_
  refine ax_iushr dJ6_bitCount_0f7a4_45 ?_
  refine ax_iadd dJ6_bitCount_0f7a4_46 ?_
  refine ax_bdI h (fun v5 h => ?_)
  refine ax_istore_n (i := 0) (L2 := [some (av_i v5)]) dJ6_bitCount_0f7a4_47 rfl (by decide) rfl rfl ?_
  refine ax_iload_n (i := 0) dJ6_bitCount_0f7a4_48 rfl rfl ?_
  refine ax_bipush (v := (63)) dJ6_bitCount_0f7a4_49 rfl ?_
  refine ax_iand dJ6_bitCount_0f7a4_51 ?_
  exact ax_reti dJ6_bitCount_0f7a4_52 h
set_option maxRecDepth 100000 in
set_option maxHeartbeats 4000000 in
theorem th_J6_bitCount_0f7a4 {q : Int32 × ax_S} {a0 : Int32} {s : ax_S} (h : fn_J6_bitCount_0f7a4 a0 s = some q) : AC mm_J6_bitCount_0f7a4 yJ6_bitCount_0f7a4 0 0 0 [av_i a0] s (some (av_i q.1), q.2) := by
  exact ax_met (L0 := [some (av_i a0)]) (by decide +kernel) rfl (fun h => absurd h (by decide)) ⟨rfl, trivial⟩ (Nat.le_of_ble_eq_true rfl) trivial (tw_J6_bitCount_0f7a4 h)
/-! X8_put -/
abbrev mm_X8_put : ax_M := (RX8, cX8_put, (some .int), 2, false)
def fn_X8_put (a0 : Option Nat) (a1 : Int32) (s : ax_S) : Option (Int32 × ax_S) :=
  (ax_gi s 5 1 a0).bind fun x1 =>
  if x1 < (80) then
    (ax_gr s 5 0 a0).bind fun r3 =>
    (ax_gi s 5 1 a0).bind fun x4 =>
    (ax_as s 8 r3 x4 ((a1).toInt8.toInt32).toInt8.toInt32).bind fun s5 =>
    (ax_gi s5 5 1 a0).bind fun x6 =>
    (ax_pi s5 5 1 a0 (x6 + (1))).bind fun s7 =>
    (ax_gi s7 5 1 a0).bind fun x8 =>
    some (x8, s7)
  else
    some ((-1004), s)
set_option maxRecDepth 100000 in
set_option maxHeartbeats 4000000 in
theorem tw_X8_put {q : Int32 × ax_S} {a0 : Option Nat} {a1 : Int32} {s : ax_S} (h : fn_X8_put a0 a1 s = some q) : AW mm_X8_put 0 0 0 0 [some (av_r a0), some (av_i a1)] [] s (some (av_i q.1), q.2) := by
  unfold fn_X8_put at h
  refine ax_aload_n (i := 0) dX8_put_0 rfl rfl ?_
  obtain ⟨x1, gx1, h⟩ := Option.bind_eq_some_iff.mp h
  refine ax_getI (q := (RX8, TX8, 2)) (t := 5) (k := 1) dX8_put_1 rfl (by decide) wd_176 rfl gx1 ?_
  refine ax_bipush (v := (80)) dX8_put_4 rfl ?_
  refine ax_icmp_lt (tgt := 13) dX8_put_6 (by decide) (fun c2 => ?_) (fun c2 => ?_)
  · rw [if_pos c2] at h
    refine ax_aload_n (i := 0) dX8_put_13 rfl rfl ?_
    obtain ⟨r3, gr3, h⟩ := Option.bind_eq_some_iff.mp h
    refine ax_getR (q := (RX8, TX8, 2)) (t := 5) (k := 0) dX8_put_14 rfl (by decide) wd_175 rfl gr3 ?_
    refine ax_aload_n (i := 0) dX8_put_17 rfl rfl ?_
    obtain ⟨x4, gx4, h⟩ := Option.bind_eq_some_iff.mp h
    refine ax_getI (q := (RX8, TX8, 2)) (t := 5) (k := 1) dX8_put_18 rfl (by decide) wd_176 rfl gx4 ?_
    refine ax_iload_n (i := 1) dX8_put_21 rfl rfl ?_
    refine ax_i2b dX8_put_22 ?_
    obtain ⟨s5, gs5, h⟩ := Option.bind_eq_some_iff.mp h
    refine ax_bast dX8_put_23 gs5 ?_
    refine ax_aload_n (i := 0) dX8_put_24 rfl rfl ?_
    refine ax_dup dX8_put_25 trivial ?_
    obtain ⟨x6, gx6, h⟩ := Option.bind_eq_some_iff.mp h
    refine ax_getI (q := (RX8, TX8, 2)) (t := 5) (k := 1) dX8_put_26 rfl (by decide) wd_176 rfl gx6 ?_
    refine ax_iconst (v := (1)) dX8_put_29 rfl ?_
    refine ax_iadd dX8_put_30 ?_
    obtain ⟨s7, gs7, h⟩ := Option.bind_eq_some_iff.mp h
    refine ax_putI (q := (RX8, TX8, 2)) (t := 5) (k := 1) dX8_put_31 rfl (by decide) wd_176 rfl rfl ⟨rfl, rfl⟩ gs7 ?_
    refine ax_aload_n (i := 0) dX8_put_34 rfl rfl ?_
    obtain ⟨x8, gx8, h⟩ := Option.bind_eq_some_iff.mp h
    refine ax_getI (q := (RX8, TX8, 2)) (t := 5) (k := 1) dX8_put_35 rfl (by decide) wd_176 rfl gx8 ?_
    exact ax_reti dX8_put_38 h
  · rw [if_neg c2] at h
    refine ax_sipush (v := (-1004)) dX8_put_9 rfl ?_
    exact ax_reti dX8_put_12 h
set_option maxRecDepth 100000 in
set_option maxHeartbeats 4000000 in
theorem th_X8_put {q : Int32 × ax_S} {a0 : Option Nat} {a1 : Int32} {s : ax_S} (h : fn_X8_put a0 a1 s = some q) : AC mm_X8_put yX8_put 0 0 0 [av_r a0, av_i a1] s (some (av_i q.1), q.2) := by
  exact ax_met (L0 := [some (av_r a0), some (av_i a1)]) (by decide +kernel) rfl (fun h => absurd h (by decide)) ⟨rfl, rfl, trivial⟩ (Nat.le_of_ble_eq_true rfl) trivial (tw_X8_put h)
/-! X9_isFrame -/
abbrev mm_X9_isFrame : ax_M := (RX9, cX9_isFrame, (some .boolean), 1, false)
def fi_X9_isFrame (a0 : Int32) (s : ax_S) : Option (Int32 × ax_S) :=
  (fn_X9_isIn a0 (0) (99) s).bind fun q1 =>
  some (q1.1, q1.2)
set_option maxRecDepth 100000 in
set_option maxHeartbeats 4000000 in
theorem tw_X9_isFrame {q : Int32 × ax_S} {a0 : Int32} {s : ax_S} (h : fi_X9_isFrame a0 s = some q) : AW mm_X9_isFrame 1 0 0 0 [some (av_i a0)] [] s (some (av_i q.1), q.2) := by
  unfold fi_X9_isFrame at h
  refine ax_iload_n (i := 0) dX9_isFrame_0 rfl rfl ?_
  refine ax_iconst (v := (0)) dX9_isFrame_1 rfl ?_
  refine ax_bipush (v := (99)) dX9_isFrame_2 rfl ?_
  obtain ⟨q1, gq1, h⟩ := Option.bind_eq_some_iff.mp h
  refine ax_cS (As := [av_i a0, av_i (0), av_i (99)]) dX9_isFrame_4 (th_X9_isIn gq1) (And.intro wd_259 wd_18) wd_280 wd_258 cy_X9_isIn (by omega) (by decide) (Nat.le_of_ble_eq_true rfl) rfl ?_
  exact ax_reti dX9_isFrame_7 h
def fn_X9_isFrame (a0 : Int32) (s : ax_S) : Option (Int32 × ax_S) := ax_bz (fi_X9_isFrame a0 s)
set_option maxRecDepth 100000 in
set_option maxHeartbeats 4000000 in
theorem th_X9_isFrame {q : Int32 × ax_S} {a0 : Int32} {s : ax_S} (h : fn_X9_isFrame a0 s = some q) : AC mm_X9_isFrame yX9_isFrame 1 0 0 [av_i a0] s (some (av_i q.1), q.2) := by
  obtain ⟨h, hz⟩ := ax_bz_of h
  exact ax_met (L0 := [some (av_i a0)]) (by decide +kernel) rfl (fun h => absurd h (by decide)) ⟨rfl, trivial⟩ (Nat.le_of_ble_eq_true rfl) hz (tw_X9_isFrame h)
/-! X9_mix -/
abbrev mm_X9_mix : ax_M := (RX9, cX9_mix, (some .long), 3, false)
def fn_X9_mix (a0 : Int64) (a2 : Int32) (s : ax_S) : Option (Int64 × ax_S) :=
  some ((((31) * a0) + a2.toInt64), s)
set_option maxRecDepth 100000 in
set_option maxHeartbeats 4000000 in
theorem tw_X9_mix {q : Int64 × ax_S} {a0 : Int64} {a2 : Int32} {s : ax_S} (h : fn_X9_mix a0 a2 s = some q) : AW mm_X9_mix 0 0 0 0 [some (av_l a0), none, some (av_i a2)] [] s (some (av_l q.1), q.2) := by
  unfold fn_X9_mix at h
  refine ax_ldc2 (v := (31)) dX9_mix_0 wd_611 ?_
  refine ax_lload_n (i := 0) dX9_mix_3 rfl rfl ?_
  refine ax_lmul dX9_mix_4 ?_
  refine ax_iload_n (i := 2) dX9_mix_5 rfl rfl ?_
  refine ax_i2l dX9_mix_6 ?_
  refine ax_ladd dX9_mix_7 ?_
  exact ax_retl dX9_mix_8 h
set_option maxRecDepth 100000 in
set_option maxHeartbeats 4000000 in
theorem th_X9_mix {q : Int64 × ax_S} {a0 : Int64} {a2 : Int32} {s : ax_S} (h : fn_X9_mix a0 a2 s = some q) : AC mm_X9_mix yX9_mix 0 0 0 [av_l a0, av_i a2] s (some (av_l q.1), q.2) := by
  exact ax_met (L0 := [some (av_l a0), none, some (av_i a2)]) (by decide +kernel) rfl (fun h => absurd h (by decide)) ⟨rfl, rfl, trivial⟩ (Nat.le_of_ble_eq_true rfl) trivial (tw_X9_mix h)
/-! X3_copyFrom -/
abbrev mm_X3_copyFrom : ax_M := (RX3, cX3_copyFrom, none, 2, false)
def fn_X3_copyFrom (a0 : Option Nat) (a1 : Option Nat) (s : ax_S) : Option (ax_S) :=
  (ax_gi s 2 0 a1).bind fun x1 =>
  (ax_pi s 2 0 a0 x1).bind fun s2 =>
  (ax_gi s2 2 1 a1).bind fun x3 =>
  (ax_pi s2 2 1 a0 x3).bind fun s4 =>
  (ax_gi s4 2 2 a1).bind fun x5 =>
  (ax_pi s4 2 2 a0 x5).bind fun s6 =>
  (ax_gr s6 2 3 a1).bind fun r7 =>
  (ax_gr s6 2 3 a0).bind fun r8 =>
  (ax_cy s6 r7 (0) r8 (0) (3)).bind fun s9 =>
  (ax_gr s9 2 4 a1).bind fun r10 =>
  (ax_gr s9 2 4 a0).bind fun r11 =>
  (ax_cy s9 r10 (0) r11 (0) (4)).bind fun s12 =>
  some s12
set_option maxRecDepth 100000 in
set_option maxHeartbeats 4000000 in
theorem tw_X3_copyFrom {q : ax_S} {a0 : Option Nat} {a1 : Option Nat} {s : ax_S} (h : fn_X3_copyFrom a0 a1 s = some q) : AW mm_X3_copyFrom 1 0 0 0 [some (av_r a0), some (av_r a1)] [] s (none, q) := by
  unfold fn_X3_copyFrom at h
  refine ax_aload_n (i := 0) dX3_copyFrom_0 rfl rfl ?_
  refine ax_aload_n (i := 1) dX3_copyFrom_1 rfl rfl ?_
  obtain ⟨x1, gx1, h⟩ := Option.bind_eq_some_iff.mp h
  refine ax_getI (q := (RX3, TX3, 5)) (t := 2) (k := 0) dX3_copyFrom_2 rfl (by decide) wd_58 rfl gx1 ?_
  obtain ⟨s2, gs2, h⟩ := Option.bind_eq_some_iff.mp h
  refine ax_putI (q := (RX3, TX3, 5)) (t := 2) (k := 0) dX3_copyFrom_5 rfl (by decide) wd_58 rfl rfl ⟨rfl, rfl⟩ gs2 ?_
  refine ax_aload_n (i := 0) dX3_copyFrom_8 rfl rfl ?_
  refine ax_aload_n (i := 1) dX3_copyFrom_9 rfl rfl ?_
  obtain ⟨x3, gx3, h⟩ := Option.bind_eq_some_iff.mp h
  refine ax_getI (q := (RX3, TX3, 5)) (t := 2) (k := 1) dX3_copyFrom_10 rfl (by decide) wd_61 rfl gx3 ?_
  obtain ⟨s4, gs4, h⟩ := Option.bind_eq_some_iff.mp h
  refine ax_putI (q := (RX3, TX3, 5)) (t := 2) (k := 1) dX3_copyFrom_13 rfl (by decide) wd_61 rfl rfl ⟨rfl, rfl⟩ gs4 ?_
  refine ax_aload_n (i := 0) dX3_copyFrom_16 rfl rfl ?_
  refine ax_aload_n (i := 1) dX3_copyFrom_17 rfl rfl ?_
  obtain ⟨x5, gx5, h⟩ := Option.bind_eq_some_iff.mp h
  refine ax_getI (q := (RX3, TX3, 5)) (t := 2) (k := 2) dX3_copyFrom_18 rfl (by decide) wd_63 rfl gx5 ?_
  obtain ⟨s6, gs6, h⟩ := Option.bind_eq_some_iff.mp h
  refine ax_putI (q := (RX3, TX3, 5)) (t := 2) (k := 2) dX3_copyFrom_21 rfl (by decide) wd_63 rfl rfl ⟨rfl, rfl⟩ gs6 ?_
  refine ax_aload_n (i := 1) dX3_copyFrom_24 rfl rfl ?_
  obtain ⟨r7, gr7, h⟩ := Option.bind_eq_some_iff.mp h
  refine ax_getR (q := (RX3, TX3, 5)) (t := 2) (k := 3) dX3_copyFrom_25 rfl (by decide) wd_65 rfl gr7 ?_
  refine ax_iconst (v := (0)) dX3_copyFrom_28 rfl ?_
  refine ax_aload_n (i := 0) dX3_copyFrom_29 rfl rfl ?_
  obtain ⟨r8, gr8, h⟩ := Option.bind_eq_some_iff.mp h
  refine ax_getR (q := (RX3, TX3, 5)) (t := 2) (k := 3) dX3_copyFrom_30 rfl (by decide) wd_65 rfl gr8 ?_
  refine ax_iconst (v := (0)) dX3_copyFrom_33 rfl ?_
  refine ax_iconst (v := (3)) dX3_copyFrom_34 rfl ?_
  obtain ⟨s9, gs9, h⟩ := Option.bind_eq_some_iff.mp h
  refine ax_copy dX3_copyFrom_35 wd_588 wd_409 wd_408 wd_25 (by omega) (Nat.le_of_ble_eq_true rfl) gs9 ?_
  refine ax_aload_n (i := 1) dX3_copyFrom_38 rfl rfl ?_
  obtain ⟨r10, gr10, h⟩ := Option.bind_eq_some_iff.mp h
  refine ax_getR (q := (RX3, TX3, 5)) (t := 2) (k := 4) dX3_copyFrom_39 rfl (by decide) wd_69 rfl gr10 ?_
  refine ax_iconst (v := (0)) dX3_copyFrom_42 rfl ?_
  refine ax_aload_n (i := 0) dX3_copyFrom_43 rfl rfl ?_
  obtain ⟨r11, gr11, h⟩ := Option.bind_eq_some_iff.mp h
  refine ax_getR (q := (RX3, TX3, 5)) (t := 2) (k := 4) dX3_copyFrom_44 rfl (by decide) wd_69 rfl gr11 ?_
  refine ax_iconst (v := (0)) dX3_copyFrom_47 rfl ?_
  refine ax_iconst (v := (4)) dX3_copyFrom_48 rfl ?_
  obtain ⟨s12, gs12, h⟩ := Option.bind_eq_some_iff.mp h
  refine ax_copy dX3_copyFrom_49 wd_588 wd_409 wd_408 wd_25 (by omega) (Nat.le_of_ble_eq_true rfl) gs12 ?_
  exact ax_retv dX3_copyFrom_52 h
set_option maxRecDepth 100000 in
set_option maxHeartbeats 4000000 in
theorem th_X3_copyFrom {q : ax_S} {a0 : Option Nat} {a1 : Option Nat} {s : ax_S} (h : fn_X3_copyFrom a0 a1 s = some q) : AC mm_X3_copyFrom yX3_copyFrom 1 0 0 [av_r a0, av_r a1] s (none, q) := by
  exact ax_met (L0 := [some (av_r a0), some (av_r a1)]) (by decide +kernel) rfl (fun h => absurd h (by decide)) ⟨rfl, rfl, trivial⟩ (Nat.le_of_ble_eq_true rfl) trivial (tw_X3_copyFrom h)
/-! X9_isChannel -/
abbrev mm_X9_isChannel : ax_M := (RX9, cX9_isChannel, (some .boolean), 1, false)
def fi_X9_isChannel (a0 : Int32) (s : ax_S) : Option (Int32 × ax_S) :=
  (fn_X9_isIn a0 (0) (2) s).bind fun q1 =>
  some (q1.1, q1.2)
set_option maxRecDepth 100000 in
set_option maxHeartbeats 4000000 in
theorem tw_X9_isChannel {q : Int32 × ax_S} {a0 : Int32} {s : ax_S} (h : fi_X9_isChannel a0 s = some q) : AW mm_X9_isChannel 1 0 0 0 [some (av_i a0)] [] s (some (av_i q.1), q.2) := by
  unfold fi_X9_isChannel at h
  refine ax_iload_n (i := 0) dX9_isChannel_0 rfl rfl ?_
  refine ax_iconst (v := (0)) dX9_isChannel_1 rfl ?_
  refine ax_iconst (v := (2)) dX9_isChannel_2 rfl ?_
  obtain ⟨q1, gq1, h⟩ := Option.bind_eq_some_iff.mp h
  refine ax_cS (As := [av_i a0, av_i (0), av_i (2)]) dX9_isChannel_3 (th_X9_isIn gq1) (And.intro wd_259 wd_18) wd_280 wd_258 cy_X9_isIn (by omega) (by decide) (Nat.le_of_ble_eq_true rfl) rfl ?_
  exact ax_reti dX9_isChannel_6 h
def fn_X9_isChannel (a0 : Int32) (s : ax_S) : Option (Int32 × ax_S) := ax_bz (fi_X9_isChannel a0 s)
set_option maxRecDepth 100000 in
set_option maxHeartbeats 4000000 in
theorem th_X9_isChannel {q : Int32 × ax_S} {a0 : Int32} {s : ax_S} (h : fn_X9_isChannel a0 s = some q) : AC mm_X9_isChannel yX9_isChannel 1 0 0 [av_i a0] s (some (av_i q.1), q.2) := by
  obtain ⟨h, hz⟩ := ax_bz_of h
  exact ax_met (L0 := [some (av_i a0)]) (by decide +kernel) rfl (fun h => absurd h (by decide)) ⟨rfl, trivial⟩ (Nat.le_of_ble_eq_true rfl) hz (tw_X9_isChannel h)
/-! X3_init -/
abbrev mm_X3_init : ax_M := (RX3, cX3_init, none, 1, true)
def fn_X3_init (a0 : Option Nat) (s : ax_S) : Option (ax_S) :=
  (ax_sh s 2 a0).bind fun w1 =>
  ax_bd (ax_nw s 9 3) fun s2 =>
  ax_bd (some s.1.length) fun r3 =>
  (ax_pr s2 2 3 a0 r3).bind fun s4 =>
  ax_bd (ax_nw s4 9 4) fun s5 =>
  ax_bd (some s4.1.length) fun r6 =>
  (ax_pr s5 2 4 a0 r6).bind fun s7 =>
  some s7
set_option maxRecDepth 100000 in
set_option maxHeartbeats 4000000 in
theorem tw_X3_init {q : ax_S} {a0 : Option Nat} {s : ax_S} (h : fn_X3_init a0 s = some q) : AW mm_X3_init 1 2 7 0 [some (av_r a0)] [] s (none, q) := by
  unfold fn_X3_init at h
  refine ax_aload_n (i := 0) dX3_init_0 rfl rfl ?_
  obtain ⟨w1, gw1, h⟩ := Option.bind_eq_some_iff.mp h
  refine ax_cO dX3_init_1 gw1 wd_56 wd_42 wd_43 (by omega) (Nat.le_of_ble_eq_true rfl) ?_
  refine ax_aload_n (i := 0) dX3_init_4 rfl rfl ?_
  refine ax_iconst (v := (3)) dX3_init_5 rfl ?_
  refine ax_newA (t := 9) (n := 3) (bc := 1) (bs := 4) dX3_init_6 (by decide) rfl wd_84 (by decide) (by decide) (by decide) ?_
  refine ax_bdS h (fun s2 h => ?_)
  refine ax_bdR h (fun r3 h => ?_)
  obtain ⟨s4, gs4, h⟩ := Option.bind_eq_some_iff.mp h
  refine ax_putRF (q := (RX3, TX3, 5)) (t := 2) (k := 3) dX3_init_8 rfl (by decide) wd_65 rfl rfl rfl rfl (fun w => by cases w <;> exact ⟨rfl, rfl⟩) gs4 ?_
  refine ax_aload_n (i := 0) dX3_init_11 rfl rfl ?_
  refine ax_iconst (v := (4)) dX3_init_12 rfl ?_
  refine ax_newA (t := 9) (n := 4) (bc := 0) (bs := 0) dX3_init_13 (by decide) rfl wd_84 (by decide) (by decide) (by decide) ?_
  refine ax_bdS h (fun s5 h => ?_)
  refine ax_bdR h (fun r6 h => ?_)
  obtain ⟨s7, gs7, h⟩ := Option.bind_eq_some_iff.mp h
  refine ax_putRF (q := (RX3, TX3, 5)) (t := 2) (k := 4) dX3_init_15 rfl (by decide) wd_69 rfl rfl rfl rfl (fun w => by cases w <;> exact ⟨rfl, rfl⟩) gs7 ?_
  exact ax_retv dX3_init_18 h
set_option maxRecDepth 100000 in
set_option maxHeartbeats 4000000 in
theorem th_X3_init {q : ax_S} {a0 : Option Nat} {s : ax_S} (h : fn_X3_init a0 s = some q) : AC mm_X3_init yX3_init 1 2 7 [av_r a0] s (none, q) := by
  exact ax_met (L0 := [some (av_r a0)]) (by decide +kernel) rfl (fun _ => rfl) ⟨rfl, trivial⟩ (Nat.le_of_ble_eq_true rfl) trivial (tw_X3_init h)
/-! X8_init -/
abbrev mm_X8_init : ax_M := (RX8, cX8_init, none, 1, true)
def fn_X8_init (a0 : Option Nat) (s : ax_S) : Option (ax_S) :=
  (ax_sh s 5 a0).bind fun w1 =>
  ax_bd (ax_nw s 8 80) fun s2 =>
  ax_bd (some s.1.length) fun r3 =>
  (ax_pr s2 5 0 a0 r3).bind fun s4 =>
  some s4
set_option maxRecDepth 100000 in
set_option maxHeartbeats 4000000 in
theorem tw_X8_init {q : ax_S} {a0 : Option Nat} {s : ax_S} (h : fn_X8_init a0 s = some q) : AW mm_X8_init 1 1 80 0 [some (av_r a0)] [] s (none, q) := by
  unfold fn_X8_init at h
  refine ax_aload_n (i := 0) dX8_init_0 rfl rfl ?_
  obtain ⟨w1, gw1, h⟩ := Option.bind_eq_some_iff.mp h
  refine ax_cO dX8_init_1 gw1 wd_174 wd_42 wd_43 (by omega) (Nat.le_of_ble_eq_true rfl) ?_
  refine ax_aload_n (i := 0) dX8_init_4 rfl rfl ?_
  refine ax_bipush (v := (80)) dX8_init_5 rfl ?_
  refine ax_newA (t := 8) (n := 80) (bc := 0) (bs := 0) dX8_init_7 (by decide) rfl wd_183 (by decide) (by decide) (by decide) ?_
  refine ax_bdS h (fun s2 h => ?_)
  refine ax_bdR h (fun r3 h => ?_)
  obtain ⟨s4, gs4, h⟩ := Option.bind_eq_some_iff.mp h
  refine ax_putRF (q := (RX8, TX8, 2)) (t := 5) (k := 0) dX8_init_9 rfl (by decide) wd_175 rfl rfl rfl rfl (fun w => by cases w <;> exact ⟨rfl, rfl⟩) gs4 ?_
  exact ax_retv dX8_init_12 h
set_option maxRecDepth 100000 in
set_option maxHeartbeats 4000000 in
theorem th_X8_init {q : ax_S} {a0 : Option Nat} {s : ax_S} (h : fn_X8_init a0 s = some q) : AC mm_X8_init yX8_init 1 1 80 [av_r a0] s (none, q) := by
  exact ax_met (L0 := [some (av_r a0)]) (by decide +kernel) rfl (fun _ => rfl) ⟨rfl, trivial⟩ (Nat.le_of_ble_eq_true rfl) trivial (tw_X8_init h)
