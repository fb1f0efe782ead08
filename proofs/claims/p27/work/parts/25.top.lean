/-! X9_make -/
abbrev mm_X9_ask : ax_M := (RX9, cX9_ask, (some (.array .int)), 5, false)
abbrev mm_X9_make : ax_M := (RX9, cX9_make, (some (.array .int)), 10, false)
def fb_X9_make_87 (sa : Option Nat → Int32 → Int32 → Int32 → ax_S → Option (Option Nat × ax_S)) (a0 : Option Nat) (a1 : Option Nat) (a2 : Int32) (a3 : Int32) (a5 : Int32) (a6 : Option Nat) (a7 : Option Nat) (b0 : Option Nat) (s : ax_S) : Option (Option Nat × ax_S) :=
  (ax_gr s 6 1 a0).bind fun r1 =>
  (ax_sh s 0 r1).bind fun w2 =>
  (fn_X0_admit r1 a2 a3 s).bind fun q3 =>
  if a5 = 0 then
    (ax_gr q3.2 3 3 q3.1).bind fun r5 =>
    (ax_cy q3.2 a6 (0) r5 (0) (96)).bind fun s6 =>
    (ax_gr s6 3 3 q3.1).bind fun r7 =>
    some (r7, s6)
  else
    (ax_gr q3.2 3 3 q3.1).bind fun r8 =>
    (fn_X4_paint a1 a3 a6 a7 b0 r8 q3.2).bind fun q9 =>
    (ax_gr q9 3 3 q3.1).bind fun r10 =>
    some (r10, q9)
set_option maxRecDepth 100000 in
set_option maxHeartbeats 4000000 in
theorem tb_X9_make_87 (sa : Option Nat → Int32 → Int32 → Int32 → ax_S → Option (Option Nat × ax_S)) {dr : Nat} {q : Option Nat × ax_S} (hsa : ∀ {a0 : Option Nat} {a1 : Int32} {a2 : Int32} {a3 : Int32} {s : ax_S} {q : Option Nat × ax_S}, sa a0 a1 a2 a3 s = some q → AC mm_X9_ask yX9_ask dr 0 0 [av_r a0, av_i a1, av_i a2, av_i a3] s (some (av_r q.1), q.2)) {a0 : Option Nat} {a1 : Option Nat} {a2 : Int32} {a3 : Int32} {a5 : Int32} {a6 : Option Nat} {a7 : Option Nat} {b0 : Option Nat} {s : ax_S} (h : fb_X9_make_87 sa a0 a1 a2 a3 a5 a6 a7 b0 s = some q) : AW mm_X9_make (dr + 4) 0 0 87 [(some (av_r a0)), (some (av_r a1)), (some (av_i a2)), (some (av_i a3)), none, (some (av_i a5)), (some (av_r a6)), (some (av_r a7)), none, none] [av_r b0] s (some (av_r q.1), q.2) := by
  unfold fb_X9_make_87 at h
  refine ax_astore (i := 8) (L2 := [some (av_r a0), some (av_r a1), some (av_i a2), some (av_i a3), none, some (av_i a5), some (av_r a6), some (av_r a7), some (av_r b0), none]) dX9_make_87 (by decide) rfl rfl ?_
  refine ax_aload_n (i := 0) dX9_make_89 rfl rfl ?_
  obtain ⟨r1, gr1, h⟩ := Option.bind_eq_some_iff.mp h
  refine ax_getR (q := (RX9, TX9, 6)) (t := 6) (k := 1) dX9_make_90 rfl (by decide) wd_214 rfl gr1 ?_
  refine ax_iload_n (i := 2) dX9_make_93 rfl rfl ?_
  refine ax_iload_n (i := 3) dX9_make_94 rfl rfl ?_
  obtain ⟨w2, gw2, h⟩ := Option.bind_eq_some_iff.mp h
  obtain ⟨q3, gq3, h⟩ := Option.bind_eq_some_iff.mp h
  refine ax_cV (As := [av_i a2, av_i a3]) (t := 0) dX9_make_95 gw2 (th_X0_admit gq3) rfl (And.intro wd_370 wd_21) wd_367 wd_368 wd_369 cy_X0_admit (by omega) (by decide) (Nat.le_of_ble_eq_true rfl) rfl ?_
  refine ax_astore (i := 9) (L2 := [some (av_r a0), some (av_r a1), some (av_i a2), some (av_i a3), none, some (av_i a5), some (av_r a6), some (av_r a7), some (av_r b0), some (av_r q3.1)]) dX9_make_98 (by decide) rfl rfl ?_
  refine ax_iload (i := 5) dX9_make_100 rfl ?_
  refine ax_if_eq (tgt := 124) dX9_make_102 (by decide) (fun c4 => ?_) (fun c4 => ?_)
  · rw [if_pos c4] at h
    refine ax_aload (i := 6) dX9_make_124 rfl ?_
    refine ax_iconst (v := (0)) dX9_make_126 rfl ?_
    refine ax_aload (i := 9) dX9_make_127 rfl ?_
    obtain ⟨r5, gr5, h⟩ := Option.bind_eq_some_iff.mp h
    refine ax_getR (q := (RX5, TX5, 4)) (t := 3) (k := 3) dX9_make_129 rfl (by decide) wd_122 rfl gr5 ?_
    refine ax_iconst (v := (0)) dX9_make_132 rfl ?_
    refine ax_bipush (v := (96)) dX9_make_133 rfl ?_
    obtain ⟨s6, gs6, h⟩ := Option.bind_eq_some_iff.mp h
    refine ax_copy dX9_make_135 wd_407 wd_409 wd_408 wd_25 (by omega) (Nat.le_of_ble_eq_true rfl) gs6 ?_
    refine ax_aload (i := 9) dX9_make_138 rfl ?_
    obtain ⟨r7, gr7, h⟩ := Option.bind_eq_some_iff.mp h
    refine ax_getR (q := (RX5, TX5, 4)) (t := 3) (k := 3) dX9_make_140 rfl (by decide) wd_122 rfl gr7 ?_
    exact ax_retr dX9_make_143 h
  · rw [if_neg c4] at h
    refine ax_aload_n (i := 1) dX9_make_105 rfl rfl ?_
    refine ax_iload_n (i := 3) dX9_make_106 rfl rfl ?_
    refine ax_aload (i := 6) dX9_make_107 rfl ?_
    refine ax_aload (i := 7) dX9_make_109 rfl ?_
    refine ax_aload (i := 8) dX9_make_111 rfl ?_
    refine ax_aload (i := 9) dX9_make_113 rfl ?_
    obtain ⟨r8, gr8, h⟩ := Option.bind_eq_some_iff.mp h
    refine ax_getR (q := (RX5, TX5, 4)) (t := 3) (k := 3) dX9_make_115 rfl (by decide) wd_122 rfl gr8 ?_
    obtain ⟨q9, gq9, h⟩ := Option.bind_eq_some_iff.mp h
    refine ax_cS (As := [av_r a1, av_i a3, av_r a6, av_r a7, av_r b0, av_r r8]) dX9_make_118 (th_X4_paint gq9) (And.intro wd_381 wd_34) wd_379 wd_380 cy_X4_paint (by omega) (by decide) (Nat.le_of_ble_eq_true rfl) rfl ?_
    refine ax_goto (tgt := 138) dX9_make_121 (by decide) ?_
    refine ax_aload (i := 9) dX9_make_138 rfl ?_
    obtain ⟨r10, gr10, h⟩ := Option.bind_eq_some_iff.mp h
    refine ax_getR (q := (RX5, TX5, 4)) (t := 3) (k := 3) dX9_make_140 rfl (by decide) wd_122 rfl gr10 ?_
    exact ax_retr dX9_make_143 h
def fb_X9_make_58 (sa : Option Nat → Int32 → Int32 → Int32 → ax_S → Option (Option Nat × ax_S)) (a0 : Option Nat) (a1 : Option Nat) (a2 : Int32) (a3 : Int32) (a4 : Int32) (a5 : Int32) (a6 : Option Nat) (b0 : Option Nat) (s : ax_S) : Option (Option Nat × ax_S) :=
  if a5 = 0 then
    (ax_gr s 6 5 a0).bind fun r12 =>
    fb_X9_make_87 sa a0 a1 a2 a3 a5 a6 b0 r12 s
  else
    (ax_gr s 2 3 a1).bind fun r13 =>
    (ax_al s 9 r13 (2)).bind fun x14 =>
    (ax_sh s 6 a0).bind fun w15 =>
    (sa a0 x14 a3 (a4 + (1)) s).bind fun q16 =>
    fb_X9_make_87 sa a0 a1 a2 a3 a5 a6 b0 q16.1 q16.2
set_option maxRecDepth 100000 in
set_option maxHeartbeats 4000000 in
theorem tb_X9_make_58 (sa : Option Nat → Int32 → Int32 → Int32 → ax_S → Option (Option Nat × ax_S)) {dr : Nat} {q : Option Nat × ax_S} (hsa : ∀ {a0 : Option Nat} {a1 : Int32} {a2 : Int32} {a3 : Int32} {s : ax_S} {q : Option Nat × ax_S}, sa a0 a1 a2 a3 s = some q → AC mm_X9_ask yX9_ask dr 0 0 [av_r a0, av_i a1, av_i a2, av_i a3] s (some (av_r q.1), q.2)) {a0 : Option Nat} {a1 : Option Nat} {a2 : Int32} {a3 : Int32} {a4 : Int32} {a5 : Int32} {a6 : Option Nat} {b0 : Option Nat} {s : ax_S} (h : fb_X9_make_58 sa a0 a1 a2 a3 a4 a5 a6 b0 s = some q) : AW mm_X9_make (dr + 4) 0 0 58 [(some (av_r a0)), (some (av_r a1)), (some (av_i a2)), (some (av_i a3)), (some (av_i a4)), (some (av_i a5)), (some (av_r a6)), none, none, none] [av_r b0] s (some (av_r q.1), q.2) := by
  unfold fb_X9_make_58 at h
  refine ax_astore (i := 7) (L2 := [some (av_r a0), some (av_r a1), some (av_i a2), some (av_i a3), some (av_i a4), some (av_i a5), some (av_r a6), some (av_r b0), none, none]) dX9_make_58 (by decide) rfl rfl ?_
  refine ax_iload (i := 5) dX9_make_60 rfl ?_
  refine ax_if_eq (tgt := 83) dX9_make_62 (by decide) (fun c11 => ?_) (fun c11 => ?_)
  · rw [if_pos c11] at h
    refine ax_aload_n (i := 0) dX9_make_83 rfl rfl ?_
    obtain ⟨r12, gr12, h⟩ := Option.bind_eq_some_iff.mp h
    refine ax_getR (q := (RX9, TX9, 6)) (t := 6) (k := 5) dX9_make_84 rfl (by decide) wd_218 rfl gr12 ?_
    exact ax_less (L' := [(some (av_r a0)), (some (av_r a1)), (some (av_i a2)), (some (av_i a3)), none, (some (av_i a5)), (some (av_r a6)), (some (av_r b0)), none, none]) ⟨rfl, rfl, rfl, rfl, rfl, rfl, rfl, trivial⟩ (tb_X9_make_87 sa hsa h)
  · rw [if_neg c11] at h
    refine ax_aload_n (i := 0) dX9_make_65 rfl rfl ?_
    refine ax_aload_n (i := 1) dX9_make_66 rfl rfl ?_
    obtain ⟨r13, gr13, h⟩ := Option.bind_eq_some_iff.mp h
    refine ax_getR (q := (RX3, TX3, 5)) (t := 2) (k := 3) dX9_make_67 rfl (by decide) wd_68 rfl gr13 ?_
    refine ax_iconst (v := (2)) dX9_make_70 rfl ?_
    obtain ⟨x14, gx14, h⟩ := Option.bind_eq_some_iff.mp h
    refine ax_iald dX9_make_71 gx14 ?_
    refine ax_iload_n (i := 3) dX9_make_72 rfl rfl ?_
    refine ax_iload (i := 4) dX9_make_73 rfl ?_
    refine ax_iconst (v := (1)) dX9_make_75 rfl ?_
    refine ax_iadd dX9_make_76 ?_
    obtain ⟨w15, gw15, h⟩ := Option.bind_eq_some_iff.mp h
    obtain ⟨q16, gq16, h⟩ := Option.bind_eq_some_iff.mp h
    refine ax_cV (As := [av_i x14, av_i a3, av_i (a4 + (1))]) (t := 6) dX9_make_77 gw15 (hsa gq16) rfl (And.intro wd_358 wd_18) wd_355 wd_357 wd_4 cy_X9_ask (by omega) (by decide) (Nat.le_of_ble_eq_true rfl) rfl ?_
    refine ax_goto (tgt := 87) dX9_make_80 (by decide) ?_
    exact ax_less (L' := [(some (av_r a0)), (some (av_r a1)), (some (av_i a2)), (some (av_i a3)), none, (some (av_i a5)), (some (av_r a6)), (some (av_r b0)), none, none]) ⟨rfl, rfl, rfl, rfl, rfl, rfl, rfl, trivial⟩ (tb_X9_make_87 sa hsa h)
def fo_X9_make (sa : Option Nat → Int32 → Int32 → Int32 → ax_S → Option (Option Nat × ax_S)) (a0 : Option Nat) (a1 : Option Nat) (a2 : Int32) (a3 : Int32) (a4 : Int32) (s : ax_S) : Option (Option Nat × ax_S) :=
  (ax_gi s 2 1 a1).bind fun x17 =>
  (ax_gi s 2 2 a1).bind fun x18 =>
  (fn_X9_isIn a3 x17 x18 s).bind fun q19 =>
  (ax_gr q19.2 2 3 a1).bind fun r20 =>
  (ax_al q19.2 9 r20 (0)).bind fun x21 =>
  (ax_sh q19.2 6 a0).bind fun w22 =>
  (sa a0 x21 a3 (a4 + (1)) q19.2).bind fun q23 =>
  if q19.1 = 0 then
    (ax_gr q23.2 6 5 a0).bind fun r25 =>
    fb_X9_make_58 sa a0 a1 a2 a3 a4 q19.1 q23.1 r25 q23.2
  else
    (ax_gr q23.2 2 3 a1).bind fun r26 =>
    (ax_al q23.2 9 r26 (1)).bind fun x27 =>
    (ax_sh q23.2 6 a0).bind fun w28 =>
    (sa a0 x27 a3 (a4 + (1)) q23.2).bind fun q29 =>
    fb_X9_make_58 sa a0 a1 a2 a3 a4 q19.1 q23.1 q29.1 q29.2
set_option maxRecDepth 100000 in
set_option maxHeartbeats 4000000 in
theorem tw_X9_make (sa : Option Nat → Int32 → Int32 → Int32 → ax_S → Option (Option Nat × ax_S)) {dr : Nat} {q : Option Nat × ax_S} (hsa : ∀ {a0 : Option Nat} {a1 : Int32} {a2 : Int32} {a3 : Int32} {s : ax_S} {q : Option Nat × ax_S}, sa a0 a1 a2 a3 s = some q → AC mm_X9_ask yX9_ask dr 0 0 [av_r a0, av_i a1, av_i a2, av_i a3] s (some (av_r q.1), q.2)) {a0 : Option Nat} {a1 : Option Nat} {a2 : Int32} {a3 : Int32} {a4 : Int32} {s : ax_S} (h : fo_X9_make sa a0 a1 a2 a3 a4 s = some q) : AW mm_X9_make (dr + 4) 0 0 0 [some (av_r a0), some (av_r a1), some (av_i a2), some (av_i a3), some (av_i a4), none, none, none, none, none] [] s (some (av_r q.1), q.2) := by
  unfold fo_X9_make at h
  refine ax_iload_n (i := 3) dX9_make_0 rfl rfl ?_
  refine ax_aload_n (i := 1) dX9_make_1 rfl rfl ?_
  obtain ⟨x17, gx17, h⟩ := Option.bind_eq_some_iff.mp h
  refine ax_getI (q := (RX3, TX3, 5)) (t := 2) (k := 1) dX9_make_2 rfl (by decide) wd_62 rfl gx17 ?_
  refine ax_aload_n (i := 1) dX9_make_5 rfl rfl ?_
  obtain ⟨x18, gx18, h⟩ := Option.bind_eq_some_iff.mp h
  refine ax_getI (q := (RX3, TX3, 5)) (t := 2) (k := 2) dX9_make_6 rfl (by decide) wd_64 rfl gx18 ?_
  obtain ⟨q19, gq19, h⟩ := Option.bind_eq_some_iff.mp h
  refine ax_cS (As := [av_i a3, av_i x17, av_i x18]) dX9_make_9 (th_X9_isIn gq19) (And.intro wd_259 wd_18) wd_280 wd_258 cy_X9_isIn (by omega) (by decide) (Nat.le_of_ble_eq_true rfl) rfl ?_
  refine ax_istore (i := 5) (L2 := [some (av_r a0), some (av_r a1), some (av_i a2), some (av_i a3), some (av_i a4), some (av_i q19.1), none, none, none, none]) dX9_make_12 (by decide) rfl rfl ?_
  refine ax_aload_n (i := 0) dX9_make_14 rfl rfl ?_
  refine ax_aload_n (i := 1) dX9_make_15 rfl rfl ?_
  obtain ⟨r20, gr20, h⟩ := Option.bind_eq_some_iff.mp h
  refine ax_getR (q := (RX3, TX3, 5)) (t := 2) (k := 3) dX9_make_16 rfl (by decide) wd_68 rfl gr20 ?_
  refine ax_iconst (v := (0)) dX9_make_19 rfl ?_
  obtain ⟨x21, gx21, h⟩ := Option.bind_eq_some_iff.mp h
  refine ax_iald dX9_make_20 gx21 ?_
  refine ax_iload_n (i := 3) dX9_make_21 rfl rfl ?_
  refine ax_iload (i := 4) dX9_make_22 rfl ?_
  refine ax_iconst (v := (1)) dX9_make_24 rfl ?_
  refine ax_iadd dX9_make_25 ?_
  obtain ⟨w22, gw22, h⟩ := Option.bind_eq_some_iff.mp h
  obtain ⟨q23, gq23, h⟩ := Option.bind_eq_some_iff.mp h
  refine ax_cV (As := [av_i x21, av_i a3, av_i (a4 + (1))]) (t := 6) dX9_make_26 gw22 (hsa gq23) rfl (And.intro wd_358 wd_18) wd_355 wd_357 wd_4 cy_X9_ask (by omega) (by decide) (Nat.le_of_ble_eq_true rfl) rfl ?_
  refine ax_astore (i := 6) (L2 := [some (av_r a0), some (av_r a1), some (av_i a2), some (av_i a3), some (av_i a4), some (av_i q19.1), some (av_r q23.1), none, none, none]) dX9_make_29 (by decide) rfl rfl ?_
  refine ax_iload (i := 5) dX9_make_31 rfl ?_
  refine ax_if_eq (tgt := 54) dX9_make_33 (by decide) (fun c24 => ?_) (fun c24 => ?_)
  · rw [if_pos c24] at h
    refine ax_aload_n (i := 0) dX9_make_54 rfl rfl ?_
    obtain ⟨r25, gr25, h⟩ := Option.bind_eq_some_iff.mp h
    refine ax_getR (q := (RX9, TX9, 6)) (t := 6) (k := 5) dX9_make_55 rfl (by decide) wd_218 rfl gr25 ?_
    exact ax_less (L' := [(some (av_r a0)), (some (av_r a1)), (some (av_i a2)), (some (av_i a3)), (some (av_i a4)), (some (av_i q19.1)), (some (av_r q23.1)), none, none, none]) ⟨rfl, rfl, rfl, rfl, rfl, rfl, rfl, trivial⟩ (tb_X9_make_58 sa hsa h)
  · rw [if_neg c24] at h
    refine ax_aload_n (i := 0) dX9_make_36 rfl rfl ?_
    refine ax_aload_n (i := 1) dX9_make_37 rfl rfl ?_
    obtain ⟨r26, gr26, h⟩ := Option.bind_eq_some_iff.mp h
    refine ax_getR (q := (RX3, TX3, 5)) (t := 2) (k := 3) dX9_make_38 rfl (by decide) wd_68 rfl gr26 ?_
    refine ax_iconst (v := (1)) dX9_make_41 rfl ?_
    obtain ⟨x27, gx27, h⟩ := Option.bind_eq_some_iff.mp h
    refine ax_iald dX9_make_42 gx27 ?_
    refine ax_iload_n (i := 3) dX9_make_43 rfl rfl ?_
    refine ax_iload (i := 4) dX9_make_44 rfl ?_
    refine ax_iconst (v := (1)) dX9_make_46 rfl ?_
    refine ax_iadd dX9_make_47 ?_
    obtain ⟨w28, gw28, h⟩ := Option.bind_eq_some_iff.mp h
    obtain ⟨q29, gq29, h⟩ := Option.bind_eq_some_iff.mp h
    refine ax_cV (As := [av_i x27, av_i a3, av_i (a4 + (1))]) (t := 6) dX9_make_48 gw28 (hsa gq29) rfl (And.intro wd_358 wd_18) wd_355 wd_357 wd_4 cy_X9_ask (by omega) (by decide) (Nat.le_of_ble_eq_true rfl) rfl ?_
    refine ax_goto (tgt := 58) dX9_make_51 (by decide) ?_
    exact ax_less (L' := [(some (av_r a0)), (some (av_r a1)), (some (av_i a2)), (some (av_i a3)), (some (av_i a4)), (some (av_i q19.1)), (some (av_r q23.1)), none, none, none]) ⟨rfl, rfl, rfl, rfl, rfl, rfl, rfl, trivial⟩ (tb_X9_make_58 sa hsa h)
set_option maxRecDepth 100000 in
set_option maxHeartbeats 4000000 in
theorem to_X9_make (sa : Option Nat → Int32 → Int32 → Int32 → ax_S → Option (Option Nat × ax_S)) {dr : Nat} {q : Option Nat × ax_S} (hsa : ∀ {a0 : Option Nat} {a1 : Int32} {a2 : Int32} {a3 : Int32} {s : ax_S} {q : Option Nat × ax_S}, sa a0 a1 a2 a3 s = some q → AC mm_X9_ask yX9_ask dr 0 0 [av_r a0, av_i a1, av_i a2, av_i a3] s (some (av_r q.1), q.2)) {a0 : Option Nat} {a1 : Option Nat} {a2 : Int32} {a3 : Int32} {a4 : Int32} {s : ax_S} (h : fo_X9_make sa a0 a1 a2 a3 a4 s = some q) : AC mm_X9_make yX9_make (dr + 4) 0 0 [av_r a0, av_r a1, av_i a2, av_i a3, av_i a4] s (some (av_r q.1), q.2) := by
  exact ax_met (L0 := [some (av_r a0), some (av_r a1), some (av_i a2), some (av_i a3), some (av_i a4), none, none, none, none, none]) (by decide +kernel) rfl (fun h => absurd h (by decide)) ⟨rfl, rfl, rfl, rfl, rfl, trivial⟩ (Nat.le_of_ble_eq_true rfl) trivial (tw_X9_make sa hsa h)
/-! X9_ask -/
def fo_X9_ask (sa : Option Nat → Int32 → Int32 → Int32 → ax_S → Option (Option Nat × ax_S)) (a0 : Option Nat) (a1 : Int32) (a2 : Int32) (a3 : Int32) (s : ax_S) : Option (Option Nat × ax_S) :=
  (ax_gr s 6 0 a0).bind fun r1 =>
  (ax_sh s 1 r1).bind fun w2 =>
  (fn_X1_has r1 a1 s).bind fun q3 =>
  if q3.1 = 0 then
    (ax_gr q3.2 6 5 a0).bind fun r5 =>
    some (r5, q3.2)
  else
    if a3 < (12) then
      (ax_gr q3.2 6 1 a0).bind fun r7 =>
      (ax_sh q3.2 0 r7).bind fun w8 =>
      (fn_X0_find r7 a1 a2 q3.2).bind fun q9 =>
      if q9.1 = none then
        (ax_gr q9.2 6 0 a0).bind fun r15 =>
        (ax_gr q9.2 1 0 r15).bind fun r16 =>
        (ax_ar q9.2 12 r16 a1).bind fun r17 =>
        (ax_sh q9.2 6 a0).bind fun w18 =>
        (fo_X9_make sa a0 r17 a1 a2 a3 q9.2).bind fun q19 =>
        some (q19.1, q19.2)
      else
        (ax_gr q9.2 6 1 a0).bind fun r11 =>
        (ax_sh q9.2 0 r11).bind fun w12 =>
        (fn_X0_hit r11 q9.1 q9.2).bind fun q13 =>
        (ax_gr q13 3 3 q9.1).bind fun r14 =>
        some (r14, q13)
    else
      (ax_gr q3.2 6 5 a0).bind fun r20 =>
      some (r20, q3.2)
set_option maxRecDepth 100000 in
set_option maxHeartbeats 4000000 in
theorem tw_X9_ask (sa : Option Nat → Int32 → Int32 → Int32 → ax_S → Option (Option Nat × ax_S)) {dr : Nat} {q : Option Nat × ax_S} (hsa : ∀ {a0 : Option Nat} {a1 : Int32} {a2 : Int32} {a3 : Int32} {s : ax_S} {q : Option Nat × ax_S}, sa a0 a1 a2 a3 s = some q → AC mm_X9_ask yX9_ask dr 0 0 [av_r a0, av_i a1, av_i a2, av_i a3] s (some (av_r q.1), q.2)) {a0 : Option Nat} {a1 : Int32} {a2 : Int32} {a3 : Int32} {s : ax_S} (h : fo_X9_ask sa a0 a1 a2 a3 s = some q) : AW mm_X9_ask (dr + 5) 0 0 0 [some (av_r a0), some (av_i a1), some (av_i a2), some (av_i a3), none] [] s (some (av_r q.1), q.2) := by
  unfold fo_X9_ask at h
  refine ax_aload_n (i := 0) dX9_ask_0 rfl rfl ?_
  obtain ⟨r1, gr1, h⟩ := Option.bind_eq_some_iff.mp h
  refine ax_getR (q := (RX9, TX9, 6)) (t := 6) (k := 0) dX9_ask_1 rfl (by decide) wd_213 rfl gr1 ?_
  refine ax_iload_n (i := 1) dX9_ask_4 rfl rfl ?_
  obtain ⟨w2, gw2, h⟩ := Option.bind_eq_some_iff.mp h
  obtain ⟨q3, gq3, h⟩ := Option.bind_eq_some_iff.mp h
  refine ax_cV (As := [av_i a1]) (t := 1) dX9_ask_5 gw2 (th_X1_has gq3) rfl (And.intro wd_256 wd_19) wd_268 wd_254 wd_255 cy_X1_has (by omega) (by decide) (Nat.le_of_ble_eq_true rfl) rfl ?_
  refine ax_if_eq (tgt := 17) dX9_ask_8 (by decide) (fun c4 => ?_) (fun c4 => ?_)
  · rw [if_pos c4] at h
    refine ax_aload_n (i := 0) dX9_ask_17 rfl rfl ?_
    obtain ⟨r5, gr5, h⟩ := Option.bind_eq_some_iff.mp h
    refine ax_getR (q := (RX9, TX9, 6)) (t := 6) (k := 5) dX9_ask_18 rfl (by decide) wd_218 rfl gr5 ?_
    exact ax_retr dX9_ask_21 h
  · rw [if_neg c4] at h
    refine ax_iload_n (i := 3) dX9_ask_11 rfl rfl ?_
    refine ax_bipush (v := (12)) dX9_ask_12 rfl ?_
    refine ax_icmp_lt (tgt := 22) dX9_ask_14 (by decide) (fun c6 => ?_) (fun c6 => ?_)
    · rw [if_pos c6] at h
      refine ax_aload_n (i := 0) dX9_ask_22 rfl rfl ?_
      obtain ⟨r7, gr7, h⟩ := Option.bind_eq_some_iff.mp h
      refine ax_getR (q := (RX9, TX9, 6)) (t := 6) (k := 1) dX9_ask_23 rfl (by decide) wd_214 rfl gr7 ?_
      refine ax_iload_n (i := 1) dX9_ask_26 rfl rfl ?_
      refine ax_iload_n (i := 2) dX9_ask_27 rfl rfl ?_
      obtain ⟨w8, gw8, h⟩ := Option.bind_eq_some_iff.mp h
      obtain ⟨q9, gq9, h⟩ := Option.bind_eq_some_iff.mp h
      refine ax_cV (As := [av_i a1, av_i a2]) (t := 0) dX9_ask_28 gw8 (th_X0_find gq9) rfl (And.intro wd_362 wd_21) wd_359 wd_360 wd_361 cy_X0_find (by omega) (by decide) (Nat.le_of_ble_eq_true rfl) rfl ?_
      refine ax_astore (i := 4) (L2 := [some (av_r a0), some (av_i a1), some (av_i a2), some (av_i a3), some (av_r q9.1)]) dX9_ask_31 (by decide) rfl rfl ?_
      refine ax_aload (i := 4) dX9_ask_33 rfl ?_
      refine ax_ifnonnull (tgt := 55) dX9_ask_35 (by decide) (fun c10 => ?_) (fun c10 => ?_)
      · rw [if_neg c10] at h
        refine ax_aload_n (i := 0) dX9_ask_55 rfl rfl ?_
        obtain ⟨r11, gr11, h⟩ := Option.bind_eq_some_iff.mp h
        refine ax_getR (q := (RX9, TX9, 6)) (t := 6) (k := 1) dX9_ask_56 rfl (by decide) wd_214 rfl gr11 ?_
        refine ax_aload (i := 4) dX9_ask_59 rfl ?_
        obtain ⟨w12, gw12, h⟩ := Option.bind_eq_some_iff.mp h
        obtain ⟨q13, gq13, h⟩ := Option.bind_eq_some_iff.mp h
        refine ax_cV (As := [av_r q9.1]) (t := 0) dX9_ask_61 gw12 (th_X0_hit gq13) rfl (And.intro wd_413 wd_21) wd_410 wd_411 wd_412 cy_X0_hit (by omega) (by decide) (Nat.le_of_ble_eq_true rfl) rfl ?_
        refine ax_aload (i := 4) dX9_ask_64 rfl ?_
        obtain ⟨r14, gr14, h⟩ := Option.bind_eq_some_iff.mp h
        refine ax_getR (q := (RX5, TX5, 4)) (t := 3) (k := 3) dX9_ask_66 rfl (by decide) wd_122 rfl gr14 ?_
        exact ax_retr dX9_ask_69 h
      · have c10 := Decidable.not_not.mp c10
        rw [if_pos c10] at h
        refine ax_aload_n (i := 0) dX9_ask_38 rfl rfl ?_
        refine ax_aload_n (i := 0) dX9_ask_39 rfl rfl ?_
        obtain ⟨r15, gr15, h⟩ := Option.bind_eq_some_iff.mp h
        refine ax_getR (q := (RX9, TX9, 6)) (t := 6) (k := 0) dX9_ask_40 rfl (by decide) wd_213 rfl gr15 ?_
        obtain ⟨r16, gr16, h⟩ := Option.bind_eq_some_iff.mp h
        refine ax_getR (q := (RX1, TX1, 5)) (t := 1) (k := 0) dX9_ask_43 rfl (by decide) wd_86 rfl gr16 ?_
        refine ax_iload_n (i := 1) dX9_ask_46 rfl rfl ?_
        obtain ⟨r17, gr17, h⟩ := Option.bind_eq_some_iff.mp h
        refine ax_aald (t := 12) (by decide) dX9_ask_47 gr17 ?_
        refine ax_iload_n (i := 1) dX9_ask_48 rfl rfl ?_
        refine ax_iload_n (i := 2) dX9_ask_49 rfl rfl ?_
        refine ax_iload_n (i := 3) dX9_ask_50 rfl rfl ?_
        obtain ⟨w18, gw18, h⟩ := Option.bind_eq_some_iff.mp h
        obtain ⟨q19, gq19, h⟩ := Option.bind_eq_some_iff.mp h
        refine ax_cV (As := [av_r r17, av_i a1, av_i a2, av_i a3]) (t := 6) dX9_ask_51 gw18 (to_X9_make sa hsa gq19) rfl (And.intro wd_366 wd_18) wd_363 wd_365 wd_5 cy_X9_make (by omega) (by decide) (Nat.le_of_ble_eq_true rfl) rfl ?_
        exact ax_retr dX9_ask_54 h
    · rw [if_neg c6] at h
      refine ax_aload_n (i := 0) dX9_ask_17 rfl rfl ?_
      obtain ⟨r20, gr20, h⟩ := Option.bind_eq_some_iff.mp h
      refine ax_getR (q := (RX9, TX9, 6)) (t := 6) (k := 5) dX9_ask_18 rfl (by decide) wd_218 rfl gr20 ?_
      exact ax_retr dX9_ask_21 h
set_option maxRecDepth 100000 in
set_option maxHeartbeats 4000000 in
theorem to_X9_ask (sa : Option Nat → Int32 → Int32 → Int32 → ax_S → Option (Option Nat × ax_S)) {dr : Nat} {q : Option Nat × ax_S} (hsa : ∀ {a0 : Option Nat} {a1 : Int32} {a2 : Int32} {a3 : Int32} {s : ax_S} {q : Option Nat × ax_S}, sa a0 a1 a2 a3 s = some q → AC mm_X9_ask yX9_ask dr 0 0 [av_r a0, av_i a1, av_i a2, av_i a3] s (some (av_r q.1), q.2)) {a0 : Option Nat} {a1 : Int32} {a2 : Int32} {a3 : Int32} {s : ax_S} (h : fo_X9_ask sa a0 a1 a2 a3 s = some q) : AC mm_X9_ask yX9_ask (dr + 5) 0 0 [av_r a0, av_i a1, av_i a2, av_i a3] s (some (av_r q.1), q.2) := by
  exact ax_met (L0 := [some (av_r a0), some (av_i a1), some (av_i a2), some (av_i a3), none]) (by decide +kernel) rfl (fun h => absurd h (by decide)) ⟨rfl, rfl, rfl, rfl, trivial⟩ (Nat.le_of_ble_eq_true rfl) trivial (tw_X9_ask sa hsa h)
def fr_X9_ask : Nat → Option Nat → Int32 → Int32 → Int32 → ax_S → Option (Option Nat × ax_S)
  | 0, _, _, _, _, _ => none
  | n + 1, a0, a1, a2, a3, s => fo_X9_ask (fr_X9_ask n) a0 a1 a2 a3 s
theorem tr_X9_ask : ∀ (n : Nat) {a0 : Option Nat} {a1 : Int32} {a2 : Int32} {a3 : Int32} {s : ax_S} {q : Option Nat × ax_S} (h : fr_X9_ask n a0 a1 a2 a3 s = some q), AC mm_X9_ask yX9_ask (n * 5) 0 0 [av_r a0, av_i a1, av_i a2, av_i a3] s (some (av_r q.1), q.2) := by
  intro n
  induction n with
  | zero =>
    intro a0 a1 a2 a3 s q h
    exact ax_no h
  | succ n ih =>
    intro a0 a1 a2 a3 s q h
    rw [Nat.succ_mul]
    exact to_X9_ask (fr_X9_ask n) ih h
def fn_X9_ask (a0 : Option Nat) (a1 : Int32) (a2 : Int32) (a3 : Int32) (s : ax_S) : Option (Option Nat × ax_S) := fr_X9_ask 14 a0 a1 a2 a3 s
theorem th_X9_ask {a0 : Option Nat} {a1 : Int32} {a2 : Int32} {a3 : Int32} {s : ax_S} {q : Option Nat × ax_S} (h : fn_X9_ask a0 a1 a2 a3 s = some q) : AC mm_X9_ask yX9_ask 70 0 0 [av_r a0, av_i a1, av_i a2, av_i a3] s (some (av_r q.1), q.2) := tr_X9_ask 14 h

/-! X9_addNode -/
abbrev mm_X9_addNode : ax_M := (RX9, cX9_addNode, (some .int), 2, false)
def fn_X9_addNode (a0 : Option Nat) (a1 : Int32) (s : ax_S) : Option (Int32 × ax_S) :=
  (fn_X9_isIn a1 (0) (6) s).bind fun q1 =>
  if q1.1 = 0 then
    some ((-1002), q1.2)
  else
    (ax_gr q1.2 6 0 a0).bind fun r3 =>
    (ax_sh q1.2 1 r3).bind fun w4 =>
    (fn_X1_add r3 a1 q1.2).bind fun q5 =>
    some (q5.1, q5.2)
set_option maxRecDepth 100000 in
set_option maxHeartbeats 4000000 in
theorem tw_X9_addNode {q : Int32 × ax_S} {a0 : Option Nat} {a1 : Int32} {s : ax_S} (h : fn_X9_addNode a0 a1 s = some q) : AW mm_X9_addNode 5 0 0 0 [some (av_r a0), some (av_i a1)] [] s (some (av_i q.1), q.2) := by
  unfold fn_X9_addNode at h
  refine ax_iload_n (i := 1) dX9_addNode_0 rfl rfl ?_
  refine ax_iconst (v := (0)) dX9_addNode_1 rfl ?_
  refine ax_bipush (v := (6)) dX9_addNode_2 rfl ?_
  obtain ⟨q1, gq1, h⟩ := Option.bind_eq_some_iff.mp h
  refine ax_cS (As := [av_i a1, av_i (0), av_i (6)]) dX9_addNode_4 (th_X9_isIn gq1) (And.intro wd_259 wd_18) wd_280 wd_258 cy_X9_isIn (by omega) (by decide) (Nat.le_of_ble_eq_true rfl) rfl ?_
  refine ax_if_ne (tgt := 14) dX9_addNode_7 (by decide) (fun c2 => ?_) (fun c2 => ?_)
  · rw [if_neg c2] at h
    refine ax_aload_n (i := 0) dX9_addNode_14 rfl rfl ?_
    obtain ⟨r3, gr3, h⟩ := Option.bind_eq_some_iff.mp h
    refine ax_getR (q := (RX9, TX9, 6)) (t := 6) (k := 0) dX9_addNode_15 rfl (by decide) wd_213 rfl gr3 ?_
    refine ax_iload_n (i := 1) dX9_addNode_18 rfl rfl ?_
    obtain ⟨w4, gw4, h⟩ := Option.bind_eq_some_iff.mp h
    obtain ⟨q5, gq5, h⟩ := Option.bind_eq_some_iff.mp h
    refine ax_cV (As := [av_i a1]) (t := 1) dX9_addNode_19 gw4 (th_X1_add gq5) rfl (And.intro wd_662 wd_19) wd_659 wd_660 wd_661 cy_X1_add (by omega) (by decide) (Nat.le_of_ble_eq_true rfl) rfl ?_
    exact ax_reti dX9_addNode_22 h
  · rw [if_pos c2] at h
    refine ax_sipush (v := (-1002)) dX9_addNode_10 rfl ?_
    exact ax_reti dX9_addNode_13 h
set_option maxRecDepth 100000 in
set_option maxHeartbeats 4000000 in
theorem th_X9_addNode {q : Int32 × ax_S} {a0 : Option Nat} {a1 : Int32} {s : ax_S} (h : fn_X9_addNode a0 a1 s = some q) : AC mm_X9_addNode yX9_addNode 5 0 0 [av_r a0, av_i a1] s (some (av_i q.1), q.2) := by
  exact ax_met (L0 := [some (av_r a0), some (av_i a1)]) (by decide +kernel) rfl (fun h => absurd h (by decide)) ⟨rfl, rfl, trivial⟩ (Nat.le_of_ble_eq_true rfl) trivial (tw_X9_addNode h)
/-! X9_input -/
abbrev mm_X9_input : ax_M := (RX9, cX9_input, (some .int), 3, false)
def fn_X9_input (a0 : Option Nat) (a1 : Int32) (a2 : Int32) (s : ax_S) : Option (Int32 × ax_S) :=
  (ax_gr s 6 0 a0).bind fun r1 =>
  (ax_sh s 1 r1).bind fun w2 =>
  (fn_X1_hasInput r1 a1 a2 s).bind fun q3 =>
  if q3.1 = 0 then
    some ((-1001), q3.2)
  else
    (ax_gr q3.2 6 0 a0).bind fun r5 =>
    (ax_gr q3.2 1 0 r5).bind fun r6 =>
    (ax_ar q3.2 12 r6 a1).bind fun r7 =>
    (ax_gr q3.2 2 3 r7).bind fun r8 =>
    (ax_al q3.2 9 r8 a2).bind fun x9 =>
    some (x9, q3.2)
set_option maxRecDepth 100000 in
set_option maxHeartbeats 4000000 in
theorem tw_X9_input {q : Int32 × ax_S} {a0 : Option Nat} {a1 : Int32} {a2 : Int32} {s : ax_S} (h : fn_X9_input a0 a1 a2 s = some q) : AW mm_X9_input 3 0 0 0 [some (av_r a0), some (av_i a1), some (av_i a2)] [] s (some (av_i q.1), q.2) := by
  unfold fn_X9_input at h
  refine ax_aload_n (i := 0) dX9_input_0 rfl rfl ?_
  obtain ⟨r1, gr1, h⟩ := Option.bind_eq_some_iff.mp h
  refine ax_getR (q := (RX9, TX9, 6)) (t := 6) (k := 0) dX9_input_1 rfl (by decide) wd_213 rfl gr1 ?_
  refine ax_iload_n (i := 1) dX9_input_4 rfl rfl ?_
  refine ax_iload_n (i := 2) dX9_input_5 rfl rfl ?_
  obtain ⟨w2, gw2, h⟩ := Option.bind_eq_some_iff.mp h
  obtain ⟨q3, gq3, h⟩ := Option.bind_eq_some_iff.mp h
  refine ax_cV (As := [av_i a1, av_i a2]) (t := 1) dX9_input_6 gw2 (th_X1_hasInput gq3) rfl (And.intro wd_252 wd_19) wd_249 wd_250 wd_251 cy_X1_hasInput (by omega) (by decide) (Nat.le_of_ble_eq_true rfl) rfl ?_
  refine ax_if_ne (tgt := 16) dX9_input_9 (by decide) (fun c4 => ?_) (fun c4 => ?_)
  · rw [if_neg c4] at h
    refine ax_aload_n (i := 0) dX9_input_16 rfl rfl ?_
    obtain ⟨r5, gr5, h⟩ := Option.bind_eq_some_iff.mp h
    refine ax_getR (q := (RX9, TX9, 6)) (t := 6) (k := 0) dX9_input_17 rfl (by decide) wd_213 rfl gr5 ?_
    obtain ⟨r6, gr6, h⟩ := Option.bind_eq_some_iff.mp h
    refine ax_getR (q := (RX1, TX1, 5)) (t := 1) (k := 0) dX9_input_20 rfl (by decide) wd_86 rfl gr6 ?_
    refine ax_iload_n (i := 1) dX9_input_23 rfl rfl ?_
    obtain ⟨r7, gr7, h⟩ := Option.bind_eq_some_iff.mp h
    refine ax_aald (t := 12) (by decide) dX9_input_24 gr7 ?_
    obtain ⟨r8, gr8, h⟩ := Option.bind_eq_some_iff.mp h
    refine ax_getR (q := (RX3, TX3, 5)) (t := 2) (k := 3) dX9_input_25 rfl (by decide) wd_68 rfl gr8 ?_
    refine ax_iload_n (i := 2) dX9_input_28 rfl rfl ?_
    obtain ⟨x9, gx9, h⟩ := Option.bind_eq_some_iff.mp h
    refine ax_iald dX9_input_29 gx9 ?_
    exact ax_reti dX9_input_30 h
  · rw [if_pos c4] at h
    refine ax_sipush (v := (-1001)) dX9_input_12 rfl ?_
    exact ax_reti dX9_input_15 h
set_option maxRecDepth 100000 in
set_option maxHeartbeats 4000000 in
theorem th_X9_input {q : Int32 × ax_S} {a0 : Option Nat} {a1 : Int32} {a2 : Int32} {s : ax_S} (h : fn_X9_input a0 a1 a2 s = some q) : AC mm_X9_input yX9_input 3 0 0 [av_r a0, av_i a1, av_i a2] s (some (av_i q.1), q.2) := by
  exact ax_met (L0 := [some (av_r a0), some (av_i a1), some (av_i a2)]) (by decide +kernel) rfl (fun h => absurd h (by decide)) ⟨rfl, rfl, rfl, trivial⟩ (Nat.le_of_ble_eq_true rfl) trivial (tw_X9_input h)
/-! X9_node -/
abbrev mm_X9_node : ax_M := (RX9, cX9_node, (some .int), 3, false)
def fn_X9_node (a0 : Option Nat) (a1 : Int32) (a2 : Int32) (s : ax_S) : Option (Int32 × ax_S) :=
  (ax_gr s 6 0 a0).bind fun r1 =>
  (ax_sh s 1 r1).bind fun w2 =>
  (fn_X1_has r1 a1 s).bind fun q3 =>
  if q3.1 = 0 then
    some ((-1001), q3.2)
  else
    if a2 = 0 then
      (ax_gr q3.2 6 0 a0).bind fun r6 =>
      (ax_gr q3.2 1 0 r6).bind fun r7 =>
      (ax_ar q3.2 12 r7 a1).bind fun r8 =>
      (ax_gi q3.2 2 0 r8).bind fun x9 =>
      some (x9, q3.2)
    else
    if a2 = 1 then
      (ax_gr q3.2 6 0 a0).bind fun r11 =>
      (ax_gr q3.2 1 0 r11).bind fun r12 =>
      (ax_ar q3.2 12 r12 a1).bind fun r13 =>
      (ax_gi q3.2 2 1 r13).bind fun x14 =>
      some (x14, q3.2)
    else
    if a2 = 2 then
      (ax_gr q3.2 6 0 a0).bind fun r16 =>
      (ax_gr q3.2 1 0 r16).bind fun r17 =>
      (ax_ar q3.2 12 r17 a1).bind fun r18 =>
      (ax_gi q3.2 2 2 r18).bind fun x19 =>
      some (x19, q3.2)
    else
    if a2 = 3 then
      (ax_gr q3.2 6 0 a0).bind fun r21 =>
      (ax_sh q3.2 1 r21).bind fun w22 =>
      (fn_X1_dependents r21 a1 q3.2).bind fun q23 =>
      (fn_J6_bitCount_0f7a4 q23.1 q23.2).bind fun q24 =>
      some (q24.1, q24.2)
    else
    if a2 = 4 then
      (ax_gr q3.2 6 0 a0).bind fun r26 =>
      (ax_gr q3.2 1 3 r26).bind fun r27 =>
      (ax_al q3.2 9 r27 a1).bind fun x28 =>
      some (x28, q3.2)
    else
    if a2 = 5 then
      (ax_gr q3.2 6 0 a0).bind fun r30 =>
      (ax_gr q3.2 1 4 r30).bind fun r31 =>
      (ax_al q3.2 9 r31 a1).bind fun x32 =>
      some (x32, q3.2)
    else
    some ((-1002), q3.2)
set_option maxRecDepth 100000 in
set_option maxHeartbeats 4000000 in
theorem tw_X9_node {q : Int32 × ax_S} {a0 : Option Nat} {a1 : Int32} {a2 : Int32} {s : ax_S} (h : fn_X9_node a0 a1 a2 s = some q) : AW mm_X9_node 2 0 0 0 [some (av_r a0), some (av_i a1), some (av_i a2)] [] s (some (av_i q.1), q.2) := by
  unfold fn_X9_node at h
  refine ax_aload_n (i := 0) dX9_node_0 rfl rfl ?_
  obtain ⟨r1, gr1, h⟩ := Option.bind_eq_some_iff.mp h
  refine ax_getR (q := (RX9, TX9, 6)) (t := 6) (k := 0) dX9_node_1 rfl (by decide) wd_213 rfl gr1 ?_
  refine ax_iload_n (i := 1) dX9_node_4 rfl rfl ?_
  obtain ⟨w2, gw2, h⟩ := Option.bind_eq_some_iff.mp h
  obtain ⟨q3, gq3, h⟩ := Option.bind_eq_some_iff.mp h
  refine ax_cV (As := [av_i a1]) (t := 1) dX9_node_5 gw2 (th_X1_has gq3) rfl (And.intro wd_256 wd_19) wd_268 wd_254 wd_255 cy_X1_has (by omega) (by decide) (Nat.le_of_ble_eq_true rfl) rfl ?_
  refine ax_if_ne (tgt := 15) dX9_node_8 (by decide) (fun c4 => ?_) (fun c4 => ?_)
  · rw [if_neg c4] at h
    refine ax_iload_n (i := 2) dX9_node_15 rfl rfl ?_
    by_cases c5 : a2 = 0
    · rw [if_pos c5] at h
      refine ax_swC (c := 0) (off := 40) (tgt := 56) dX9_node_16 c5 (by decide) (by decide) (by decide) rfl (by decide) ?_
      refine ax_aload_n (i := 0) dX9_node_56 rfl rfl ?_
      obtain ⟨r6, gr6, h⟩ := Option.bind_eq_some_iff.mp h
      refine ax_getR (q := (RX9, TX9, 6)) (t := 6) (k := 0) dX9_node_57 rfl (by decide) wd_213 rfl gr6 ?_
      obtain ⟨r7, gr7, h⟩ := Option.bind_eq_some_iff.mp h
      refine ax_getR (q := (RX1, TX1, 5)) (t := 1) (k := 0) dX9_node_60 rfl (by decide) wd_86 rfl gr7 ?_
      refine ax_iload_n (i := 1) dX9_node_63 rfl rfl ?_
      obtain ⟨r8, gr8, h⟩ := Option.bind_eq_some_iff.mp h
      refine ax_aald (t := 12) (by decide) dX9_node_64 gr8 ?_
      obtain ⟨x9, gx9, h⟩ := Option.bind_eq_some_iff.mp h
      refine ax_getI (q := (RX3, TX3, 5)) (t := 2) (k := 0) dX9_node_65 rfl (by decide) wd_60 rfl gx9 ?_
      exact ax_reti dX9_node_68 h
    rw [if_neg c5] at h
    by_cases c10 : a2 = 1
    · rw [if_pos c10] at h
      refine ax_swC (c := 1) (off := 53) (tgt := 69) dX9_node_16 c10 (by decide) (by decide) (by decide) rfl (by decide) ?_
      refine ax_aload_n (i := 0) dX9_node_69 rfl rfl ?_
      obtain ⟨r11, gr11, h⟩ := Option.bind_eq_some_iff.mp h
      refine ax_getR (q := (RX9, TX9, 6)) (t := 6) (k := 0) dX9_node_70 rfl (by decide) wd_213 rfl gr11 ?_
      obtain ⟨r12, gr12, h⟩ := Option.bind_eq_some_iff.mp h
      refine ax_getR (q := (RX1, TX1, 5)) (t := 1) (k := 0) dX9_node_73 rfl (by decide) wd_86 rfl gr12 ?_
      refine ax_iload_n (i := 1) dX9_node_76 rfl rfl ?_
      obtain ⟨r13, gr13, h⟩ := Option.bind_eq_some_iff.mp h
      refine ax_aald (t := 12) (by decide) dX9_node_77 gr13 ?_
      obtain ⟨x14, gx14, h⟩ := Option.bind_eq_some_iff.mp h
      refine ax_getI (q := (RX3, TX3, 5)) (t := 2) (k := 1) dX9_node_78 rfl (by decide) wd_62 rfl gx14 ?_
      exact ax_reti dX9_node_81 h
    rw [if_neg c10] at h
    by_cases c15 : a2 = 2
    · rw [if_pos c15] at h
      refine ax_swC (c := 2) (off := 66) (tgt := 82) dX9_node_16 c15 (by decide) (by decide) (by decide) rfl (by decide) ?_
      refine ax_aload_n (i := 0) dX9_node_82 rfl rfl ?_
      obtain ⟨r16, gr16, h⟩ := Option.bind_eq_some_iff.mp h
      refine ax_getR (q := (RX9, TX9, 6)) (t := 6) (k := 0) dX9_node_83 rfl (by decide) wd_213 rfl gr16 ?_
      obtain ⟨r17, gr17, h⟩ := Option.bind_eq_some_iff.mp h
      refine ax_getR (q := (RX1, TX1, 5)) (t := 1) (k := 0) dX9_node_86 rfl (by decide) wd_86 rfl gr17 ?_
      refine ax_iload_n (i := 1) dX9_node_89 rfl rfl ?_
      obtain ⟨r18, gr18, h⟩ := Option.bind_eq_some_iff.mp h
      refine ax_aald (t := 12) (by decide) dX9_node_90 gr18 ?_
      obtain ⟨x19, gx19, h⟩ := Option.bind_eq_some_iff.mp h
      refine ax_getI (q := (RX3, TX3, 5)) (t := 2) (k := 2) dX9_node_91 rfl (by decide) wd_64 rfl gx19 ?_
      exact ax_reti dX9_node_94 h
    rw [if_neg c15] at h
    by_cases c20 : a2 = 3
    · rw [if_pos c20] at h
      refine ax_swC (c := 3) (off := 79) (tgt := 95) dX9_node_16 c20 (by decide) (by decide) (by decide) rfl (by decide) ?_
      refine ax_aload_n (i := 0) dX9_node_95 rfl rfl ?_
      obtain ⟨r21, gr21, h⟩ := Option.bind_eq_some_iff.mp h
      refine ax_getR (q := (RX9, TX9, 6)) (t := 6) (k := 0) dX9_node_96 rfl (by decide) wd_213 rfl gr21 ?_
      refine ax_iload_n (i := 1) dX9_node_99 rfl rfl ?_
      obtain ⟨w22, gw22, h⟩ := Option.bind_eq_some_iff.mp h
      obtain ⟨q23, gq23, h⟩ := Option.bind_eq_some_iff.mp h
      refine ax_cV (As := [av_i a1]) (t := 1) dX9_node_100 gw22 (th_X1_dependents gq23) rfl (And.intro wd_272 wd_19) wd_269 wd_270 wd_271 cy_X1_dependents (by omega) (by decide) (Nat.le_of_ble_eq_true rfl) rfl ?_
      obtain ⟨q24, gq24, h⟩ := Option.bind_eq_some_iff.mp h
      refine ax_cS (As := [av_i q23.1]) dX9_node_103 (th_J6_bitCount_0f7a4 gq24) (And.intro wd_622 wd_33) wd_620 wd_621 cy_J6_bitCount_0f7a4 (by omega) (by decide) (Nat.le_of_ble_eq_true rfl) rfl ?_
      exact ax_reti dX9_node_106 h
    rw [if_neg c20] at h
    by_cases c25 : a2 = 4
    · rw [if_pos c25] at h
      refine ax_swC (c := 4) (off := 91) (tgt := 107) dX9_node_16 c25 (by decide) (by decide) (by decide) rfl (by decide) ?_
      refine ax_aload_n (i := 0) dX9_node_107 rfl rfl ?_
      obtain ⟨r26, gr26, h⟩ := Option.bind_eq_some_iff.mp h
      refine ax_getR (q := (RX9, TX9, 6)) (t := 6) (k := 0) dX9_node_108 rfl (by decide) wd_213 rfl gr26 ?_
      obtain ⟨r27, gr27, h⟩ := Option.bind_eq_some_iff.mp h
      refine ax_getR (q := (RX1, TX1, 5)) (t := 1) (k := 3) dX9_node_111 rfl (by decide) wd_91 rfl gr27 ?_
      refine ax_iload_n (i := 1) dX9_node_114 rfl rfl ?_
      obtain ⟨x28, gx28, h⟩ := Option.bind_eq_some_iff.mp h
      refine ax_iald dX9_node_115 gx28 ?_
      exact ax_reti dX9_node_116 h
    rw [if_neg c25] at h
    by_cases c29 : a2 = 5
    · rw [if_pos c29] at h
      refine ax_swC (c := 5) (off := 101) (tgt := 117) dX9_node_16 c29 (by decide) (by decide) (by decide) rfl (by decide) ?_
      refine ax_aload_n (i := 0) dX9_node_117 rfl rfl ?_
      obtain ⟨r30, gr30, h⟩ := Option.bind_eq_some_iff.mp h
      refine ax_getR (q := (RX9, TX9, 6)) (t := 6) (k := 0) dX9_node_118 rfl (by decide) wd_213 rfl gr30 ?_
      obtain ⟨r31, gr31, h⟩ := Option.bind_eq_some_iff.mp h
      refine ax_getR (q := (RX1, TX1, 5)) (t := 1) (k := 4) dX9_node_121 rfl (by decide) wd_93 rfl gr31 ?_
      refine ax_iload_n (i := 1) dX9_node_124 rfl rfl ?_
      obtain ⟨x32, gx32, h⟩ := Option.bind_eq_some_iff.mp h
      refine ax_iald dX9_node_125 gx32 ?_
      exact ax_reti dX9_node_126 h
    rw [if_neg c29] at h
    refine ax_swD (tgt := 127) dX9_node_16 (fun c hc1 hc2 => ?_) (by decide) ?_
    · have hcc : c = 0 ∨ c = 1 ∨ c = 2 ∨ c = 3 ∨ c = 4 ∨ c = 5 := by omega
      rcases hcc with rfl | rfl | rfl | rfl | rfl | rfl
      · exact Or.inr (fun e => c5 (e.trans (by decide)))
      · exact Or.inr (fun e => c10 (e.trans (by decide)))
      · exact Or.inr (fun e => c15 (e.trans (by decide)))
      · exact Or.inr (fun e => c20 (e.trans (by decide)))
      · exact Or.inr (fun e => c25 (e.trans (by decide)))
      · exact Or.inr (fun e => c29 (e.trans (by decide)))
    refine ax_sipush (v := (-1002)) dX9_node_127 rfl ?_
    exact ax_reti dX9_node_130 h
  · rw [if_pos c4] at h
    refine ax_sipush (v := (-1001)) dX9_node_11 rfl ?_
    exact ax_reti dX9_node_14 h
set_option maxRecDepth 100000 in
set_option maxHeartbeats 4000000 in
theorem th_X9_node {q : Int32 × ax_S} {a0 : Option Nat} {a1 : Int32} {a2 : Int32} {s : ax_S} (h : fn_X9_node a0 a1 a2 s = some q) : AC mm_X9_node yX9_node 2 0 0 [av_r a0, av_i a1, av_i a2] s (some (av_i q.1), q.2) := by
  exact ax_met (L0 := [some (av_r a0), some (av_i a1), some (av_i a2)]) (by decide +kernel) rfl (fun h => absurd h (by decide)) ⟨rfl, rfl, rfl, trivial⟩ (Nat.le_of_ble_eq_true rfl) trivial (tw_X9_node h)
/-! X9_parameter -/
abbrev mm_X9_parameter : ax_M := (RX9, cX9_parameter, (some .int), 3, false)
def fn_X9_parameter (a0 : Option Nat) (a1 : Int32) (a2 : Int32) (s : ax_S) : Option (Int32 × ax_S) :=
  (ax_gr s 6 0 a0).bind fun r1 =>
  (ax_sh s 1 r1).bind fun w2 =>
  (fn_X1_hasParameter r1 a1 a2 s).bind fun q3 =>
  if q3.1 = 0 then
    some ((-1001), q3.2)
  else
    (ax_gr q3.2 6 0 a0).bind fun r5 =>
    (ax_gr q3.2 1 0 r5).bind fun r6 =>
    (ax_ar q3.2 12 r6 a1).bind fun r7 =>
    (ax_gr q3.2 2 4 r7).bind fun r8 =>
    (ax_al q3.2 9 r8 a2).bind fun x9 =>
    some (x9, q3.2)
set_option maxRecDepth 100000 in
set_option maxHeartbeats 4000000 in
theorem tw_X9_parameter {q : Int32 × ax_S} {a0 : Option Nat} {a1 : Int32} {a2 : Int32} {s : ax_S} (h : fn_X9_parameter a0 a1 a2 s = some q) : AW mm_X9_parameter 3 0 0 0 [some (av_r a0), some (av_i a1), some (av_i a2)] [] s (some (av_i q.1), q.2) := by
  unfold fn_X9_parameter at h
  refine ax_aload_n (i := 0) dX9_parameter_0 rfl rfl ?_
  obtain ⟨r1, gr1, h⟩ := Option.bind_eq_some_iff.mp h
  refine ax_getR (q := (RX9, TX9, 6)) (t := 6) (k := 0) dX9_parameter_1 rfl (by decide) wd_213 rfl gr1 ?_
  refine ax_iload_n (i := 1) dX9_parameter_4 rfl rfl ?_
  refine ax_iload_n (i := 2) dX9_parameter_5 rfl rfl ?_
  obtain ⟨w2, gw2, h⟩ := Option.bind_eq_some_iff.mp h
  obtain ⟨q3, gq3, h⟩ := Option.bind_eq_some_iff.mp h
  refine ax_cV (As := [av_i a1, av_i a2]) (t := 1) dX9_parameter_6 gw2 (th_X1_hasParameter gq3) rfl (And.intro wd_323 wd_19) wd_320 wd_321 wd_322 cy_X1_hasParameter (by omega) (by decide) (Nat.le_of_ble_eq_true rfl) rfl ?_
  refine ax_if_ne (tgt := 16) dX9_parameter_9 (by decide) (fun c4 => ?_) (fun c4 => ?_)
  · rw [if_neg c4] at h
    refine ax_aload_n (i := 0) dX9_parameter_16 rfl rfl ?_
    obtain ⟨r5, gr5, h⟩ := Option.bind_eq_some_iff.mp h
    refine ax_getR (q := (RX9, TX9, 6)) (t := 6) (k := 0) dX9_parameter_17 rfl (by decide) wd_213 rfl gr5 ?_
    obtain ⟨r6, gr6, h⟩ := Option.bind_eq_some_iff.mp h
    refine ax_getR (q := (RX1, TX1, 5)) (t := 1) (k := 0) dX9_parameter_20 rfl (by decide) wd_86 rfl gr6 ?_
    refine ax_iload_n (i := 1) dX9_parameter_23 rfl rfl ?_
    obtain ⟨r7, gr7, h⟩ := Option.bind_eq_some_iff.mp h
    refine ax_aald (t := 12) (by decide) dX9_parameter_24 gr7 ?_
    obtain ⟨r8, gr8, h⟩ := Option.bind_eq_some_iff.mp h
    refine ax_getR (q := (RX3, TX3, 5)) (t := 2) (k := 4) dX9_parameter_25 rfl (by decide) wd_71 rfl gr8 ?_
    refine ax_iload_n (i := 2) dX9_parameter_28 rfl rfl ?_
    obtain ⟨x9, gx9, h⟩ := Option.bind_eq_some_iff.mp h
    refine ax_iald dX9_parameter_29 gx9 ?_
    exact ax_reti dX9_parameter_30 h
  · rw [if_pos c4] at h
    refine ax_sipush (v := (-1001)) dX9_parameter_12 rfl ?_
    exact ax_reti dX9_parameter_15 h
set_option maxRecDepth 100000 in
set_option maxHeartbeats 4000000 in
theorem th_X9_parameter {q : Int32 × ax_S} {a0 : Option Nat} {a1 : Int32} {a2 : Int32} {s : ax_S} (h : fn_X9_parameter a0 a1 a2 s = some q) : AC mm_X9_parameter yX9_parameter 3 0 0 [av_r a0, av_i a1, av_i a2] s (some (av_i q.1), q.2) := by
  exact ax_met (L0 := [some (av_r a0), some (av_i a1), some (av_i a2)]) (by decide +kernel) rfl (fun h => absurd h (by decide)) ⟨rfl, rfl, rfl, trivial⟩ (Nat.le_of_ble_eq_true rfl) trivial (tw_X9_parameter h)
/-! X9_append -/
abbrev mm_X9_append : ax_M := (RX9, cX9_append, (some .int), 2, false)
def fn_X9_append (a0 : Option Nat) (a1 : Int32) (s : ax_S) : Option (Int32 × ax_S) :=
  (fn_X9_isIn a1 (0) (127) s).bind fun q1 =>
  if q1.1 = 0 then
    some ((-1002), q1.2)
  else
    (ax_gr q1.2 6 2 a0).bind fun r3 =>
    (ax_gr q1.2 4 0 r3).bind fun r4 =>
    (ax_sh q1.2 5 r4).bind fun w5 =>
    (fn_X8_put r4 a1 q1.2).bind fun q6 =>
    some (q6.1, q6.2)
set_option maxRecDepth 100000 in
set_option maxHeartbeats 4000000 in
theorem tw_X9_append {q : Int32 × ax_S} {a0 : Option Nat} {a1 : Int32} {s : ax_S} (h : fn_X9_append a0 a1 s = some q) : AW mm_X9_append 1 0 0 0 [some (av_r a0), some (av_i a1)] [] s (some (av_i q.1), q.2) := by
  unfold fn_X9_append at h
  refine ax_iload_n (i := 1) dX9_append_0 rfl rfl ?_
  refine ax_iconst (v := (0)) dX9_append_1 rfl ?_
  refine ax_bipush (v := (127)) dX9_append_2 rfl ?_
  obtain ⟨q1, gq1, h⟩ := Option.bind_eq_some_iff.mp h
  refine ax_cS (As := [av_i a1, av_i (0), av_i (127)]) dX9_append_4 (th_X9_isIn gq1) (And.intro wd_259 wd_18) wd_280 wd_258 cy_X9_isIn (by omega) (by decide) (Nat.le_of_ble_eq_true rfl) rfl ?_
  refine ax_if_ne (tgt := 14) dX9_append_7 (by decide) (fun c2 => ?_) (fun c2 => ?_)
  · rw [if_neg c2] at h
    refine ax_aload_n (i := 0) dX9_append_14 rfl rfl ?_
    obtain ⟨r3, gr3, h⟩ := Option.bind_eq_some_iff.mp h
    refine ax_getR (q := (RX9, TX9, 6)) (t := 6) (k := 2) dX9_append_15 rfl (by decide) wd_215 rfl gr3 ?_
    obtain ⟨r4, gr4, h⟩ := Option.bind_eq_some_iff.mp h
    refine ax_getR (q := (RX6, TX6, 7)) (t := 4) (k := 0) dX9_append_18 rfl (by decide) wd_187 rfl gr4 ?_
    refine ax_iload_n (i := 1) dX9_append_21 rfl rfl ?_
    obtain ⟨w5, gw5, h⟩ := Option.bind_eq_some_iff.mp h
    obtain ⟨q6, gq6, h⟩ := Option.bind_eq_some_iff.mp h
    refine ax_cV (As := [av_i a1]) (t := 5) dX9_append_22 gw5 (th_X8_put gq6) rfl (And.intro wd_724 wd_24) wd_721 wd_722 wd_723 cy_X8_put (by omega) (by decide) (Nat.le_of_ble_eq_true rfl) rfl ?_
    exact ax_reti dX9_append_25 h
  · rw [if_pos c2] at h
    refine ax_sipush (v := (-1002)) dX9_append_10 rfl ?_
    exact ax_reti dX9_append_13 h
set_option maxRecDepth 100000 in
set_option maxHeartbeats 4000000 in
theorem th_X9_append {q : Int32 × ax_S} {a0 : Option Nat} {a1 : Int32} {s : ax_S} (h : fn_X9_append a0 a1 s = some q) : AC mm_X9_append yX9_append 1 0 0 [av_r a0, av_i a1] s (some (av_i q.1), q.2) := by
  exact ax_met (L0 := [some (av_r a0), some (av_i a1)]) (by decide +kernel) rfl (fun h => absurd h (by decide)) ⟨rfl, rfl, trivial⟩ (Nat.le_of_ble_eq_true rfl) trivial (tw_X9_append h)
/-! X9_count -/
abbrev mm_X9_count : ax_M := (RX9, cX9_count, (some .int), 2, false)
def fn_X9_count (a0 : Option Nat) (a1 : Int32) (s : ax_S) : Option (Int32 × ax_S) :=
  if a1 = 0 then
    (ax_gr s 6 1 a0).bind fun r2 =>
    (ax_gi s 0 2 r2).bind fun x3 =>
    some (x3, s)
  else
  if a1 = 1 then
    (ax_gr s 6 1 a0).bind fun r5 =>
    (ax_gi s 0 4 r5).bind fun x6 =>
    some (x6, s)
  else
  if a1 = 2 then
    (ax_gr s 6 1 a0).bind fun r8 =>
    (ax_gi s 0 5 r8).bind fun x9 =>
    some (x9, s)
  else
  if a1 = 3 then
    (ax_gr s 6 1 a0).bind fun r11 =>
    (ax_gi s 0 6 r11).bind fun x12 =>
    some (x12, s)
  else
  if a1 = 4 then
    (ax_gr s 6 1 a0).bind fun r14 =>
    (ax_gi s 0 7 r14).bind fun x15 =>
    some (x15, s)
  else
  some ((-1001), s)
set_option maxRecDepth 100000 in
set_option maxHeartbeats 4000000 in
theorem tw_X9_count {q : Int32 × ax_S} {a0 : Option Nat} {a1 : Int32} {s : ax_S} (h : fn_X9_count a0 a1 s = some q) : AW mm_X9_count 0 0 0 0 [some (av_r a0), some (av_i a1)] [] s (some (av_i q.1), q.2) := by
  unfold fn_X9_count at h
  refine ax_iload_n (i := 1) dX9_count_0 rfl rfl ?_
  by_cases c1 : a1 = 0
  · rw [if_pos c1] at h
    refine ax_swC (c := 0) (off := 35) (tgt := 36) dX9_count_1 c1 (by decide) (by decide) (by decide) rfl (by decide) ?_
    refine ax_aload_n (i := 0) dX9_count_36 rfl rfl ?_
    obtain ⟨r2, gr2, h⟩ := Option.bind_eq_some_iff.mp h
    refine ax_getR (q := (RX9, TX9, 6)) (t := 6) (k := 1) dX9_count_37 rfl (by decide) wd_214 rfl gr2 ?_
    obtain ⟨x3, gx3, h⟩ := Option.bind_eq_some_iff.mp h
    refine ax_getI (q := (RX0, TX0, 8)) (t := 0) (k := 2) dX9_count_40 rfl (by decide) wd_135 rfl gx3 ?_
    exact ax_reti dX9_count_43 h
  rw [if_neg c1] at h
  by_cases c4 : a1 = 1
  · rw [if_pos c4] at h
    refine ax_swC (c := 1) (off := 43) (tgt := 44) dX9_count_1 c4 (by decide) (by decide) (by decide) rfl (by decide) ?_
    refine ax_aload_n (i := 0) dX9_count_44 rfl rfl ?_
    obtain ⟨r5, gr5, h⟩ := Option.bind_eq_some_iff.mp h
    refine ax_getR (q := (RX9, TX9, 6)) (t := 6) (k := 1) dX9_count_45 rfl (by decide) wd_214 rfl gr5 ?_
    obtain ⟨x6, gx6, h⟩ := Option.bind_eq_some_iff.mp h
    refine ax_getI (q := (RX0, TX0, 8)) (t := 0) (k := 4) dX9_count_48 rfl (by decide) wd_139 rfl gx6 ?_
    exact ax_reti dX9_count_51 h
  rw [if_neg c4] at h
  by_cases c7 : a1 = 2
  · rw [if_pos c7] at h
    refine ax_swC (c := 2) (off := 51) (tgt := 52) dX9_count_1 c7 (by decide) (by decide) (by decide) rfl (by decide) ?_
    refine ax_aload_n (i := 0) dX9_count_52 rfl rfl ?_
    obtain ⟨r8, gr8, h⟩ := Option.bind_eq_some_iff.mp h
    refine ax_getR (q := (RX9, TX9, 6)) (t := 6) (k := 1) dX9_count_53 rfl (by decide) wd_214 rfl gr8 ?_
    obtain ⟨x9, gx9, h⟩ := Option.bind_eq_some_iff.mp h
    refine ax_getI (q := (RX0, TX0, 8)) (t := 0) (k := 5) dX9_count_56 rfl (by decide) wd_141 rfl gx9 ?_
    exact ax_reti dX9_count_59 h
  rw [if_neg c7] at h
  by_cases c10 : a1 = 3
  · rw [if_pos c10] at h
    refine ax_swC (c := 3) (off := 59) (tgt := 60) dX9_count_1 c10 (by decide) (by decide) (by decide) rfl (by decide) ?_
    refine ax_aload_n (i := 0) dX9_count_60 rfl rfl ?_
    obtain ⟨r11, gr11, h⟩ := Option.bind_eq_some_iff.mp h
    refine ax_getR (q := (RX9, TX9, 6)) (t := 6) (k := 1) dX9_count_61 rfl (by decide) wd_214 rfl gr11 ?_
    obtain ⟨x12, gx12, h⟩ := Option.bind_eq_some_iff.mp h
    refine ax_getI (q := (RX0, TX0, 8)) (t := 0) (k := 6) dX9_count_64 rfl (by decide) wd_143 rfl gx12 ?_
    exact ax_reti dX9_count_67 h
  rw [if_neg c10] at h
  by_cases c13 : a1 = 4
  · rw [if_pos c13] at h
    refine ax_swC (c := 4) (off := 67) (tgt := 68) dX9_count_1 c13 (by decide) (by decide) (by decide) rfl (by decide) ?_
    refine ax_aload_n (i := 0) dX9_count_68 rfl rfl ?_
    obtain ⟨r14, gr14, h⟩ := Option.bind_eq_some_iff.mp h
    refine ax_getR (q := (RX9, TX9, 6)) (t := 6) (k := 1) dX9_count_69 rfl (by decide) wd_214 rfl gr14 ?_
    obtain ⟨x15, gx15, h⟩ := Option.bind_eq_some_iff.mp h
    refine ax_getI (q := (RX0, TX0, 8)) (t := 0) (k := 7) dX9_count_72 rfl (by decide) wd_145 rfl gx15 ?_
    exact ax_reti dX9_count_75 h
  rw [if_neg c13] at h
  refine ax_swD (tgt := 76) dX9_count_1 (fun c hc1 hc2 => ?_) (by decide) ?_
  · have hcc : c = 0 ∨ c = 1 ∨ c = 2 ∨ c = 3 ∨ c = 4 := by omega
    rcases hcc with rfl | rfl | rfl | rfl | rfl
    · exact Or.inr (fun e => c1 (e.trans (by decide)))
    · exact Or.inr (fun e => c4 (e.trans (by decide)))
    · exact Or.inr (fun e => c7 (e.trans (by decide)))
    · exact Or.inr (fun e => c10 (e.trans (by decide)))
    · exact Or.inr (fun e => c13 (e.trans (by decide)))
  refine ax_sipush (v := (-1001)) dX9_count_76 rfl ?_
  exact ax_reti dX9_count_79 h
set_option maxRecDepth 100000 in
set_option maxHeartbeats 4000000 in
theorem th_X9_count {q : Int32 × ax_S} {a0 : Option Nat} {a1 : Int32} {s : ax_S} (h : fn_X9_count a0 a1 s = some q) : AC mm_X9_count yX9_count 0 0 0 [av_r a0, av_i a1] s (some (av_i q.1), q.2) := by
  exact ax_met (L0 := [some (av_r a0), some (av_i a1)]) (by decide +kernel) rfl (fun h => absurd h (by decide)) ⟨rfl, rfl, trivial⟩ (Nat.le_of_ble_eq_true rfl) trivial (tw_X9_count h)
/-! X9_isCached -/
abbrev mm_X9_isCached : ax_M := (RX9, cX9_isCached, (some .int), 3, false)
def fn_X9_isCached (a0 : Option Nat) (a1 : Int32) (a2 : Int32) (s : ax_S) : Option (Int32 × ax_S) :=
  (ax_gr s 6 0 a0).bind fun r1 =>
  (ax_sh s 1 r1).bind fun w2 =>
  (fn_X1_has r1 a1 s).bind fun q3 =>
  if q3.1 = 0 then
    some ((-1001), q3.2)
  else
    (fn_X9_isFrame a2 q3.2).bind fun q5 =>
    if q5.1 = 0 then
      some ((-1001), q5.2)
    else
      (ax_gr q5.2 6 1 a0).bind fun r7 =>
      (ax_sh q5.2 0 r7).bind fun w8 =>
      (fn_X0_find r7 a1 a2 q5.2).bind fun q9 =>
      if q9.1 = none then
        some ((0), q9.2)
      else
        some ((1), q9.2)
set_option maxRecDepth 100000 in
set_option maxHeartbeats 4000000 in
theorem tw_X9_isCached {q : Int32 × ax_S} {a0 : Option Nat} {a1 : Int32} {a2 : Int32} {s : ax_S} (h : fn_X9_isCached a0 a1 a2 s = some q) : AW mm_X9_isCached 2 0 0 0 [some (av_r a0), some (av_i a1), some (av_i a2)] [] s (some (av_i q.1), q.2) := by
  unfold fn_X9_isCached at h
  refine ax_aload_n (i := 0) dX9_isCached_0 rfl rfl ?_
  obtain ⟨r1, gr1, h⟩ := Option.bind_eq_some_iff.mp h
  refine ax_getR (q := (RX9, TX9, 6)) (t := 6) (k := 0) dX9_isCached_1 rfl (by decide) wd_213 rfl gr1 ?_
  refine ax_iload_n (i := 1) dX9_isCached_4 rfl rfl ?_
  obtain ⟨w2, gw2, h⟩ := Option.bind_eq_some_iff.mp h
  obtain ⟨q3, gq3, h⟩ := Option.bind_eq_some_iff.mp h
  refine ax_cV (As := [av_i a1]) (t := 1) dX9_isCached_5 gw2 (th_X1_has gq3) rfl (And.intro wd_256 wd_19) wd_268 wd_254 wd_255 cy_X1_has (by omega) (by decide) (Nat.le_of_ble_eq_true rfl) rfl ?_
  refine ax_if_eq (tgt := 18) dX9_isCached_8 (by decide) (fun c4 => ?_) (fun c4 => ?_)
  · rw [if_pos c4] at h
    refine ax_sipush (v := (-1001)) dX9_isCached_18 rfl ?_
    exact ax_reti dX9_isCached_21 h
  · rw [if_neg c4] at h
    refine ax_iload_n (i := 2) dX9_isCached_11 rfl rfl ?_
    obtain ⟨q5, gq5, h⟩ := Option.bind_eq_some_iff.mp h
    refine ax_cS (As := [av_i a2]) dX9_isCached_12 (th_X9_isFrame gq5) (And.intro wd_345 wd_18) wd_343 wd_344 cy_X9_isFrame (by omega) (by decide) (Nat.le_of_ble_eq_true rfl) rfl ?_
    refine ax_if_ne (tgt := 22) dX9_isCached_15 (by decide) (fun c6 => ?_) (fun c6 => ?_)
    · rw [if_neg c6] at h
      refine ax_aload_n (i := 0) dX9_isCached_22 rfl rfl ?_
      obtain ⟨r7, gr7, h⟩ := Option.bind_eq_some_iff.mp h
      refine ax_getR (q := (RX9, TX9, 6)) (t := 6) (k := 1) dX9_isCached_23 rfl (by decide) wd_214 rfl gr7 ?_
      refine ax_iload_n (i := 1) dX9_isCached_26 rfl rfl ?_
      refine ax_iload_n (i := 2) dX9_isCached_27 rfl rfl ?_
      obtain ⟨w8, gw8, h⟩ := Option.bind_eq_some_iff.mp h
      obtain ⟨q9, gq9, h⟩ := Option.bind_eq_some_iff.mp h
      refine ax_cV (As := [av_i a1, av_i a2]) (t := 0) dX9_isCached_28 gw8 (th_X0_find gq9) rfl (And.intro wd_362 wd_21) wd_359 wd_360 wd_361 cy_X0_find (by omega) (by decide) (Nat.le_of_ble_eq_true rfl) rfl ?_
      refine ax_ifnonnull (tgt := 38) dX9_isCached_31 (by decide) (fun c10 => ?_) (fun c10 => ?_)
      · rw [if_neg c10] at h
        refine ax_iconst (v := (1)) dX9_isCached_38 rfl ?_
        exact ax_reti dX9_isCached_39 h
      · have c10 := Decidable.not_not.mp c10
        rw [if_pos c10] at h
        refine ax_iconst (v := (0)) dX9_isCached_34 rfl ?_
        refine ax_goto (tgt := 39) dX9_isCached_35 (by decide) ?_
        exact ax_reti dX9_isCached_39 h
    · rw [if_pos c6] at h
      refine ax_sipush (v := (-1001)) dX9_isCached_18 rfl ?_
      exact ax_reti dX9_isCached_21 h
set_option maxRecDepth 100000 in
set_option maxHeartbeats 4000000 in
theorem th_X9_isCached {q : Int32 × ax_S} {a0 : Option Nat} {a1 : Int32} {a2 : Int32} {s : ax_S} (h : fn_X9_isCached a0 a1 a2 s = some q) : AC mm_X9_isCached yX9_isCached 2 0 0 [av_r a0, av_i a1, av_i a2] s (some (av_i q.1), q.2) := by
  exact ax_met (L0 := [some (av_r a0), some (av_i a1), some (av_i a2)]) (by decide +kernel) rfl (fun h => absurd h (by decide)) ⟨rfl, rfl, rfl, trivial⟩ (Nat.le_of_ble_eq_true rfl) trivial (tw_X9_isCached h)
/-! X9_mixNode -/
abbrev mm_X9_mixNode : ax_M := (RX9, cX9_mixNode, (some .long), 8, false)
def fb_X9_mixNode_83 : Nat → Option Nat → Int32 → Int64 → Int32 → Int32 → ax_S → Option (Int64 × ax_S)
  | 0, _, _, _, _, _, _ => none
  | n + 1, a0, a3, a4, a6, a7, s =>
    (fn_X2_parameters a6 s).bind fun q1 =>
    if q1.1 ≤ a7 then
      some (a4, q1.2)
    else
      (ax_sh q1.2 6 a0).bind fun w3 =>
      (fn_X9_parameter a0 a3 a7 q1.2).bind fun q4 =>
      (fn_X9_mix a4 q4.1 q4.2).bind fun q5 =>
      (fb_X9_mixNode_83 n) a0 a3 q5.1 a6 (a7 + (1)) q5.2
set_option maxRecDepth 100000 in
set_option maxHeartbeats 4000000 in
theorem tb_X9_mixNode_83 {q : Int64 × ax_S} : ∀ (n : Nat) (a0 : Option Nat) (a3 : Int32) (a4 : Int64) (a6 : Int32) (a7 : Int32) (s : ax_S) (h : fb_X9_mixNode_83 n a0 a3 a4 a6 a7 s = some q), AW mm_X9_mixNode 4 0 0 83 [(some (av_r a0)), none, none, (some (av_i a3)), (some (av_l a4)), none, (some (av_i a6)), (some (av_i a7))] [] s (some (av_l q.1), q.2) := by
  intro n
  induction n with
  | zero =>
    intro a0 a3 a4 a6 a7 s h
    exact ax_no h
  | succ n ih =>
    intro a0 a3 a4 a6 a7 s h
    unfold fb_X9_mixNode_83 at h
    refine ax_iload (i := 7) dX9_mixNode_83 rfl ?_
    refine ax_iload (i := 6) dX9_mixNode_85 rfl ?_
    obtain ⟨q1, gq1, h⟩ := Option.bind_eq_some_iff.mp h
    refine ax_cS (As := [av_i a6]) dX9_mixNode_87 (th_X2_parameters gq1) (And.intro wd_326 wd_32) wd_631 wd_325 cy_X2_parameters (by omega) (by decide) (Nat.le_of_ble_eq_true rfl) rfl ?_
    refine ax_icmp_ge (tgt := 113) dX9_mixNode_90 (by decide) (fun c2 => ?_) (fun c2 => ?_)
    · rw [if_pos c2] at h
      refine ax_lload (i := 4) dX9_mixNode_113 rfl ?_
      exact ax_retl dX9_mixNode_115 h
    · rw [if_neg c2] at h
      refine ax_lload (i := 4) dX9_mixNode_93 rfl ?_
      refine ax_aload_n (i := 0) dX9_mixNode_95 rfl rfl ?_
      refine ax_iload_n (i := 3) dX9_mixNode_96 rfl rfl ?_
      refine ax_iload (i := 7) dX9_mixNode_97 rfl ?_
      obtain ⟨w3, gw3, h⟩ := Option.bind_eq_some_iff.mp h
      obtain ⟨q4, gq4, h⟩ := Option.bind_eq_some_iff.mp h
      refine ax_cV (As := [av_i a3, av_i a7]) (t := 6) dX9_mixNode_99 gw3 (th_X9_parameter gq4) rfl (And.intro wd_635 wd_18) wd_632 wd_633 wd_634 cy_X9_parameter (by omega) (by decide) (Nat.le_of_ble_eq_true rfl) rfl ?_
      obtain ⟨q5, gq5, h⟩ := Option.bind_eq_some_iff.mp h
      refine ax_cS (As := [av_l a4, av_i q4.1]) dX9_mixNode_102 (th_X9_mix gq5) (And.intro wd_610 wd_18) wd_608 wd_609 cy_X9_mix (by omega) (by decide) (Nat.le_of_ble_eq_true rfl) rfl ?_
      refine ax_lstore (i := 4) (L2 := [some (av_r a0), none, none, some (av_i a3), some (av_l q5.1), none, some (av_i a6), some (av_i a7)]) dX9_mixNode_105 (by decide) rfl rfl ?_
      refine ax_iinc (i := 7) (v := (a7 + (1))) (L2 := [some (av_r a0), none, none, some (av_i a3), some (av_l q5.1), none, some (av_i a6), some (av_i (a7 + (1)))]) dX9_mixNode_107 rfl rfl (by decide) rfl rfl ?_
      refine ax_goto (tgt := 83) dX9_mixNode_110 (by decide) ?_
      exact ax_less (L' := [(some (av_r a0)), none, none, (some (av_i a3)), (some (av_l q5.1)), none, (some (av_i a6)), (some (av_i (a7 + (1))))]) ⟨rfl, rfl, rfl, rfl, rfl, trivial⟩ (ih _ _ _ _ _ _ h)
def fb_X9_mixNode_50 : Nat → Option Nat → Int32 → Int64 → Int32 → Int32 → ax_S → Option (Int64 × ax_S)
  | 0, _, _, _, _, _, _ => none
  | n + 1, a0, a3, a4, a6, a7, s =>
    (fn_X2_inputs a6 s).bind fun q6 =>
    if q6.1 ≤ a7 then
      fb_X9_mixNode_83 10000 a0 a3 a4 a6 (0) q6.2
    else
      (ax_sh q6.2 6 a0).bind fun w8 =>
      (fn_X9_input a0 a3 a7 q6.2).bind fun q9 =>
      (fn_X9_mix a4 q9.1 q9.2).bind fun q10 =>
      (fb_X9_mixNode_50 n) a0 a3 q10.1 a6 (a7 + (1)) q10.2
set_option maxRecDepth 100000 in
set_option maxHeartbeats 4000000 in
theorem tb_X9_mixNode_50 {q : Int64 × ax_S} : ∀ (n : Nat) (a0 : Option Nat) (a3 : Int32) (a4 : Int64) (a6 : Int32) (a7 : Int32) (s : ax_S) (h : fb_X9_mixNode_50 n a0 a3 a4 a6 a7 s = some q), AW mm_X9_mixNode 4 0 0 50 [(some (av_r a0)), none, none, (some (av_i a3)), (some (av_l a4)), none, (some (av_i a6)), (some (av_i a7))] [] s (some (av_l q.1), q.2) := by
  intro n
  induction n with
  | zero =>
    intro a0 a3 a4 a6 a7 s h
    exact ax_no h
  | succ n ih =>
    intro a0 a3 a4 a6 a7 s h
    unfold fb_X9_mixNode_50 at h
    refine ax_iload (i := 7) dX9_mixNode_50 rfl ?_
    refine ax_iload (i := 6) dX9_mixNode_52 rfl ?_
    obtain ⟨q6, gq6, h⟩ := Option.bind_eq_some_iff.mp h
    refine ax_cS (As := [av_i a6]) dX9_mixNode_54 (th_X2_inputs gq6) (And.intro wd_262 wd_32) wd_626 wd_261 cy_X2_inputs (by omega) (by decide) (Nat.le_of_ble_eq_true rfl) rfl ?_
    refine ax_icmp_ge (tgt := 80) dX9_mixNode_57 (by decide) (fun c7 => ?_) (fun c7 => ?_)
    · rw [if_pos c7] at h
      refine ax_iconst (v := (0)) dX9_mixNode_80 rfl ?_
      refine ax_istore (i := 7) (L2 := [some (av_r a0), none, none, some (av_i a3), some (av_l a4), none, some (av_i a6), some (av_i (0))]) dX9_mixNode_81 (by decide) rfl rfl ?_
      exact ax_less (L' := [(some (av_r a0)), none, none, (some (av_i a3)), (some (av_l a4)), none, (some (av_i a6)), (some (av_i (0)))]) ⟨rfl, rfl, rfl, rfl, rfl, trivial⟩ (tb_X9_mixNode_83  _ _ _ _ _ _ _ h)
    · rw [if_neg c7] at h
      refine ax_lload (i := 4) dX9_mixNode_60 rfl ?_
      refine ax_aload_n (i := 0) dX9_mixNode_62 rfl rfl ?_
      refine ax_iload_n (i := 3) dX9_mixNode_63 rfl rfl ?_
      refine ax_iload (i := 7) dX9_mixNode_64 rfl ?_
      obtain ⟨w8, gw8, h⟩ := Option.bind_eq_some_iff.mp h
      obtain ⟨q9, gq9, h⟩ := Option.bind_eq_some_iff.mp h
      refine ax_cV (As := [av_i a3, av_i a7]) (t := 6) dX9_mixNode_66 gw8 (th_X9_input gq9) rfl (And.intro wd_630 wd_18) wd_627 wd_628 wd_629 cy_X9_input (by omega) (by decide) (Nat.le_of_ble_eq_true rfl) rfl ?_
      obtain ⟨q10, gq10, h⟩ := Option.bind_eq_some_iff.mp h
      refine ax_cS (As := [av_l a4, av_i q9.1]) dX9_mixNode_69 (th_X9_mix gq10) (And.intro wd_610 wd_18) wd_608 wd_609 cy_X9_mix (by omega) (by decide) (Nat.le_of_ble_eq_true rfl) rfl ?_
      refine ax_lstore (i := 4) (L2 := [some (av_r a0), none, none, some (av_i a3), some (av_l q10.1), none, some (av_i a6), some (av_i a7)]) dX9_mixNode_72 (by decide) rfl rfl ?_
      refine ax_iinc (i := 7) (v := (a7 + (1))) (L2 := [some (av_r a0), none, none, some (av_i a3), some (av_l q10.1), none, some (av_i a6), some (av_i (a7 + (1)))]) dX9_mixNode_74 rfl rfl (by decide) rfl rfl ?_
      refine ax_goto (tgt := 50) dX9_mixNode_77 (by decide) ?_
      exact ax_less (L' := [(some (av_r a0)), none, none, (some (av_i a3)), (some (av_l q10.1)), none, (some (av_i a6)), (some (av_i (a7 + (1))))]) ⟨rfl, rfl, rfl, rfl, rfl, trivial⟩ (ih _ _ _ _ _ _ h)
def fb_X9_mixNode_20 : Nat → Option Nat → Int32 → Int64 → Int32 → Int32 → ax_S → Option (Int64 × ax_S)
  | 0, _, _, _, _, _, _ => none
  | n + 1, a0, a3, a4, a6, a7, s =>
    if (6) ≤ a7 then
      fb_X9_mixNode_50 10000 a0 a3 a4 a6 (0) s
    else
      (ax_sh s 6 a0).bind fun w12 =>
      (fn_X9_node a0 a3 a7 s).bind fun q13 =>
      (fn_X9_mix a4 q13.1 q13.2).bind fun q14 =>
      (fb_X9_mixNode_20 n) a0 a3 q14.1 a6 (a7 + (1)) q14.2
set_option maxRecDepth 100000 in
set_option maxHeartbeats 4000000 in
theorem tb_X9_mixNode_20 {q : Int64 × ax_S} : ∀ (n : Nat) (a0 : Option Nat) (a3 : Int32) (a4 : Int64) (a6 : Int32) (a7 : Int32) (s : ax_S) (h : fb_X9_mixNode_20 n a0 a3 a4 a6 a7 s = some q), AW mm_X9_mixNode 4 0 0 20 [(some (av_r a0)), none, none, (some (av_i a3)), (some (av_l a4)), none, (some (av_i a6)), (some (av_i a7))] [] s (some (av_l q.1), q.2) := by
  intro n
  induction n with
  | zero =>
    intro a0 a3 a4 a6 a7 s h
    exact ax_no h
  | succ n ih =>
    intro a0 a3 a4 a6 a7 s h
    unfold fb_X9_mixNode_20 at h
    refine ax_iload (i := 7) dX9_mixNode_20 rfl ?_
    refine ax_bipush (v := (6)) dX9_mixNode_22 rfl ?_
    refine ax_icmp_ge (tgt := 47) dX9_mixNode_24 (by decide) (fun c11 => ?_) (fun c11 => ?_)
    · rw [if_pos c11] at h
      refine ax_iconst (v := (0)) dX9_mixNode_47 rfl ?_
      refine ax_istore (i := 7) (L2 := [some (av_r a0), none, none, some (av_i a3), some (av_l a4), none, some (av_i a6), some (av_i (0))]) dX9_mixNode_48 (by decide) rfl rfl ?_
      exact ax_less (L' := [(some (av_r a0)), none, none, (some (av_i a3)), (some (av_l a4)), none, (some (av_i a6)), (some (av_i (0)))]) ⟨rfl, rfl, rfl, rfl, rfl, trivial⟩ (tb_X9_mixNode_50  _ _ _ _ _ _ _ h)
    · rw [if_neg c11] at h
      refine ax_lload (i := 4) dX9_mixNode_27 rfl ?_
      refine ax_aload_n (i := 0) dX9_mixNode_29 rfl rfl ?_
      refine ax_iload_n (i := 3) dX9_mixNode_30 rfl rfl ?_
      refine ax_iload (i := 7) dX9_mixNode_31 rfl ?_
      obtain ⟨w12, gw12, h⟩ := Option.bind_eq_some_iff.mp h
      obtain ⟨q13, gq13, h⟩ := Option.bind_eq_some_iff.mp h
      refine ax_cV (As := [av_i a3, av_i a7]) (t := 6) dX9_mixNode_33 gw12 (th_X9_node gq13) rfl (And.intro wd_619 wd_18) wd_616 wd_617 wd_618 cy_X9_node (by omega) (by decide) (Nat.le_of_ble_eq_true rfl) rfl ?_
      obtain ⟨q14, gq14, h⟩ := Option.bind_eq_some_iff.mp h
      refine ax_cS (As := [av_l a4, av_i q13.1]) dX9_mixNode_36 (th_X9_mix gq14) (And.intro wd_610 wd_18) wd_608 wd_609 cy_X9_mix (by omega) (by decide) (Nat.le_of_ble_eq_true rfl) rfl ?_
      refine ax_lstore (i := 4) (L2 := [some (av_r a0), none, none, some (av_i a3), some (av_l q14.1), none, some (av_i a6), some (av_i a7)]) dX9_mixNode_39 (by decide) rfl rfl ?_
      refine ax_iinc (i := 7) (v := (a7 + (1))) (L2 := [some (av_r a0), none, none, some (av_i a3), some (av_l q14.1), none, some (av_i a6), some (av_i (a7 + (1)))]) dX9_mixNode_41 rfl rfl (by decide) rfl rfl ?_
      refine ax_goto (tgt := 20) dX9_mixNode_44 (by decide) ?_
      exact ax_less (L' := [(some (av_r a0)), none, none, (some (av_i a3)), (some (av_l q14.1)), none, (some (av_i a6)), (some (av_i (a7 + (1))))]) ⟨rfl, rfl, rfl, rfl, rfl, trivial⟩ (ih _ _ _ _ _ _ h)
def fn_X9_mixNode (a0 : Option Nat) (a1 : Int64) (a3 : Int32) (s : ax_S) : Option (Int64 × ax_S) :=
  (ax_gr s 6 0 a0).bind fun r15 =>
  (ax_gr s 1 0 r15).bind fun r16 =>
  (ax_ar s 12 r16 a3).bind fun r17 =>
  (ax_gi s 2 0 r17).bind fun x18 =>
  fb_X9_mixNode_20 10000 a0 a3 a1 x18 (0) s
set_option maxRecDepth 100000 in
set_option maxHeartbeats 4000000 in
theorem tw_X9_mixNode {q : Int64 × ax_S} {a0 : Option Nat} {a1 : Int64} {a3 : Int32} {s : ax_S} (h : fn_X9_mixNode a0 a1 a3 s = some q) : AW mm_X9_mixNode 4 0 0 0 [some (av_r a0), some (av_l a1), none, some (av_i a3), none, none, none, none] [] s (some (av_l q.1), q.2) := by
  unfold fn_X9_mixNode at h
  refine ax_lload_n (i := 1) dX9_mixNode_0 rfl rfl ?_
  refine ax_lstore (i := 4) (L2 := [some (av_r a0), some (av_l a1), none, some (av_i a3), some (av_l a1), none, none, none]) dX9_mixNode_1 (by decide) rfl rfl ?_
  refine ax_aload_n (i := 0) dX9_mixNode_3 rfl rfl ?_
  obtain ⟨r15, gr15, h⟩ := Option.bind_eq_some_iff.mp h
  refine ax_getR (q := (RX9, TX9, 6)) (t := 6) (k := 0) dX9_mixNode_4 rfl (by decide) wd_213 rfl gr15 ?_
  obtain ⟨r16, gr16, h⟩ := Option.bind_eq_some_iff.mp h
  refine ax_getR (q := (RX1, TX1, 5)) (t := 1) (k := 0) dX9_mixNode_7 rfl (by decide) wd_86 rfl gr16 ?_
  refine ax_iload_n (i := 3) dX9_mixNode_10 rfl rfl ?_
  obtain ⟨r17, gr17, h⟩ := Option.bind_eq_some_iff.mp h
  refine ax_aald (t := 12) (by decide) dX9_mixNode_11 gr17 ?_
  obtain ⟨x18, gx18, h⟩ := Option.bind_eq_some_iff.mp h
  refine ax_getI (q := (RX3, TX3, 5)) (t := 2) (k := 0) dX9_mixNode_12 rfl (by decide) wd_60 rfl gx18 ?_
  refine ax_istore (i := 6) (L2 := [some (av_r a0), some (av_l a1), none, some (av_i a3), some (av_l a1), none, some (av_i x18), none]) dX9_mixNode_15 (by decide) rfl rfl ?_
  refine ax_iconst (v := (0)) dX9_mixNode_17 rfl ?_
  refine ax_istore (i := 7) (L2 := [some (av_r a0), some (av_l a1), none, some (av_i a3), some (av_l a1), none, some (av_i x18), some (av_i (0))]) dX9_mixNode_18 (by decide) rfl rfl ?_
  exact ax_less (L' := [(some (av_r a0)), none, none, (some (av_i a3)), (some (av_l a1)), none, (some (av_i x18)), (some (av_i (0)))]) ⟨rfl, rfl, rfl, rfl, rfl, trivial⟩ (tb_X9_mixNode_20  _ _ _ _ _ _ _ h)
set_option maxRecDepth 100000 in
set_option maxHeartbeats 4000000 in
theorem th_X9_mixNode {q : Int64 × ax_S} {a0 : Option Nat} {a1 : Int64} {a3 : Int32} {s : ax_S} (h : fn_X9_mixNode a0 a1 a3 s = some q) : AC mm_X9_mixNode yX9_mixNode 4 0 0 [av_r a0, av_l a1, av_i a3] s (some (av_l q.1), q.2) := by
  exact ax_met (L0 := [some (av_r a0), some (av_l a1), none, some (av_i a3), none, none, none, none]) (by decide +kernel) rfl (fun h => absurd h (by decide)) ⟨rfl, rfl, rfl, trivial⟩ (Nat.le_of_ble_eq_true rfl) trivial (tw_X9_mixNode h)
/-! X9_nodes -/
abbrev mm_X9_nodes : ax_M := (RX9, cX9_nodes, (some .int), 1, false)
def fn_X9_nodes (a0 : Option Nat) (s : ax_S) : Option (Int32 × ax_S) :=
  (ax_gr s 6 0 a0).bind fun r1 =>
  (ax_gi s 1 1 r1).bind fun x2 =>
  some (x2, s)
set_option maxRecDepth 100000 in
set_option maxHeartbeats 4000000 in
theorem tw_X9_nodes {q : Int32 × ax_S} {a0 : Option Nat} {s : ax_S} (h : fn_X9_nodes a0 s = some q) : AW mm_X9_nodes 0 0 0 0 [some (av_r a0)] [] s (some (av_i q.1), q.2) := by
  unfold fn_X9_nodes at h
  refine ax_aload_n (i := 0) dX9_nodes_0 rfl rfl ?_
  obtain ⟨r1, gr1, h⟩ := Option.bind_eq_some_iff.mp h
  refine ax_getR (q := (RX9, TX9, 6)) (t := 6) (k := 0) dX9_nodes_1 rfl (by decide) wd_213 rfl gr1 ?_
  obtain ⟨x2, gx2, h⟩ := Option.bind_eq_some_iff.mp h
  refine ax_getI (q := (RX1, TX1, 5)) (t := 1) (k := 1) dX9_nodes_4 rfl (by decide) wd_88 rfl gx2 ?_
  exact ax_reti dX9_nodes_7 h
set_option maxRecDepth 100000 in
set_option maxHeartbeats 4000000 in
theorem th_X9_nodes {q : Int32 × ax_S} {a0 : Option Nat} {s : ax_S} (h : fn_X9_nodes a0 s = some q) : AC mm_X9_nodes yX9_nodes 0 0 0 [av_r a0] s (some (av_i q.1), q.2) := by
  exact ax_met (L0 := [some (av_r a0)]) (by decide +kernel) rfl (fun h => absurd h (by decide)) ⟨rfl, trivial⟩ (Nat.le_of_ble_eq_true rfl) trivial (tw_X9_nodes h)
/-! X9_checksum -/
abbrev mm_X9_checksum : ax_M := (RX9, cX9_checksum, (some .long), 5, false)
def fb_X9_checksum_76 (k62 : Option Nat → Int64 → Int32 → ax_S → Option (Int64 × ax_S)) : Nat → Option Nat → Int64 → Int32 → Int32 → ax_S → Option (Int64 × ax_S)
  | 0, _, _, _, _, _ => none
  | n + 1, a0, a1, a3, a4, s =>
    if (10) ≤ a4 then
      k62 a0 a1 (a3 + (1)) s
    else
      (ax_sh s 6 a0).bind fun w2 =>
      (fn_X9_isCached a0 a3 a4 s).bind fun q3 =>
      (fn_X9_mix a1 q3.1 q3.2).bind fun q4 =>
      (fb_X9_checksum_76 k62 n) a0 q4.1 a3 (a4 + (1)) q4.2
set_option maxRecDepth 100000 in
set_option maxHeartbeats 4000000 in
theorem tb_X9_checksum_76 {q : Int64 × ax_S} {k62 : Option Nat → Int64 → Int32 → ax_S → Option (Int64 × ax_S)} (hk62 : ∀ (a0 : Option Nat) (a1 : Int64) (a3 : Int32) (s : ax_S), k62 a0 a1 a3 s = some q → AW mm_X9_checksum 5 0 0 62 [(some (av_r a0)), (some (av_l a1)), none, (some (av_i a3)), none] [] s (some (av_l q.1), q.2)) : ∀ (n : Nat) (a0 : Option Nat) (a1 : Int64) (a3 : Int32) (a4 : Int32) (s : ax_S) (h : fb_X9_checksum_76 k62 n a0 a1 a3 a4 s = some q), AW mm_X9_checksum 5 0 0 76 [(some (av_r a0)), (some (av_l a1)), none, (some (av_i a3)), (some (av_i a4))] [] s (some (av_l q.1), q.2) := by
  intro n
  induction n with
  | zero =>
    intro a0 a1 a3 a4 s h
    exact ax_no h
  | succ n ih =>
    intro a0 a1 a3 a4 s h
    unfold fb_X9_checksum_76 at h
    refine ax_iload (i := 4) dX9_checksum_76 rfl ?_
    refine ax_bipush (v := (10)) dX9_checksum_78 rfl ?_
    refine ax_icmp_ge (tgt := 101) dX9_checksum_80 (by decide) (fun c1 => ?_) (fun c1 => ?_)
    · rw [if_pos c1] at h
      refine ax_iinc (i := 3) (v := (a3 + (1))) (L2 := [some (av_r a0), some (av_l a1), none, some (av_i (a3 + (1))), some (av_i a4)]) dX9_checksum_101 rfl rfl (by decide) rfl rfl ?_
      refine ax_goto (tgt := 62) dX9_checksum_104 (by decide) ?_
      exact ax_less (L' := [(some (av_r a0)), (some (av_l a1)), none, (some (av_i (a3 + (1)))), none]) ⟨rfl, rfl, rfl, trivial⟩ (hk62 _ _ _ _ h)
    · rw [if_neg c1] at h
      refine ax_lload_n (i := 1) dX9_checksum_83 rfl rfl ?_
      refine ax_aload_n (i := 0) dX9_checksum_84 rfl rfl ?_
      refine ax_iload_n (i := 3) dX9_checksum_85 rfl rfl ?_
      refine ax_iload (i := 4) dX9_checksum_86 rfl ?_
      obtain ⟨w2, gw2, h⟩ := Option.bind_eq_some_iff.mp h
      obtain ⟨q3, gq3, h⟩ := Option.bind_eq_some_iff.mp h
      refine ax_cV (As := [av_i a3, av_i a4]) (t := 6) dX9_checksum_88 gw2 (th_X9_isCached gq3) rfl (And.intro wd_640 wd_18) wd_637 wd_638 wd_639 cy_X9_isCached (by omega) (by decide) (Nat.le_of_ble_eq_true rfl) rfl ?_
      obtain ⟨q4, gq4, h⟩ := Option.bind_eq_some_iff.mp h
      refine ax_cS (As := [av_l a1, av_i q3.1]) dX9_checksum_91 (th_X9_mix gq4) (And.intro wd_610 wd_18) wd_608 wd_609 cy_X9_mix (by omega) (by decide) (Nat.le_of_ble_eq_true rfl) rfl ?_
      refine ax_lstore_n (i := 1) (L2 := [some (av_r a0), some (av_l q4.1), none, some (av_i a3), some (av_i a4)]) dX9_checksum_94 rfl (by decide) rfl rfl ?_
      refine ax_iinc (i := 4) (v := (a4 + (1))) (L2 := [some (av_r a0), some (av_l q4.1), none, some (av_i a3), some (av_i (a4 + (1)))]) dX9_checksum_95 rfl rfl (by decide) rfl rfl ?_
      refine ax_goto (tgt := 76) dX9_checksum_98 (by decide) ?_
      exact ax_less (L' := [(some (av_r a0)), (some (av_l q4.1)), none, (some (av_i a3)), (some (av_i (a4 + (1))))]) ⟨rfl, rfl, rfl, rfl, trivial⟩ (ih _ _ _ _ _ h)
def fb_X9_checksum_62 : Nat → Option Nat → Int64 → Int32 → ax_S → Option (Int64 × ax_S)
  | 0, _, _, _, _ => none
  | n + 1, a0, a1, a3, s =>
    (ax_gr s 6 0 a0).bind fun r5 =>
    (ax_gi s 1 1 r5).bind fun x6 =>
    if x6 ≤ a3 then
      some (a1, s)
    else
      fb_X9_checksum_76 (fb_X9_checksum_62 n) 10000 a0 a1 a3 (0) s
set_option maxRecDepth 100000 in
set_option maxHeartbeats 4000000 in
theorem tb_X9_checksum_62 {q : Int64 × ax_S} : ∀ (n : Nat) (a0 : Option Nat) (a1 : Int64) (a3 : Int32) (s : ax_S) (h : fb_X9_checksum_62 n a0 a1 a3 s = some q), AW mm_X9_checksum 5 0 0 62 [(some (av_r a0)), (some (av_l a1)), none, (some (av_i a3)), none] [] s (some (av_l q.1), q.2) := by
  intro n
  induction n with
  | zero =>
    intro a0 a1 a3 s h
    exact ax_no h
  | succ n ih =>
    intro a0 a1 a3 s h
    unfold fb_X9_checksum_62 at h
    refine ax_iload_n (i := 3) dX9_checksum_62 rfl rfl ?_
    refine ax_aload_n (i := 0) dX9_checksum_63 rfl rfl ?_
    obtain ⟨r5, gr5, h⟩ := Option.bind_eq_some_iff.mp h
    refine ax_getR (q := (RX9, TX9, 6)) (t := 6) (k := 0) dX9_checksum_64 rfl (by decide) wd_213 rfl gr5 ?_
    obtain ⟨x6, gx6, h⟩ := Option.bind_eq_some_iff.mp h
    refine ax_getI (q := (RX1, TX1, 5)) (t := 1) (k := 1) dX9_checksum_67 rfl (by decide) wd_88 rfl gx6 ?_
    refine ax_icmp_ge (tgt := 107) dX9_checksum_70 (by decide) (fun c7 => ?_) (fun c7 => ?_)
    · rw [if_pos c7] at h
      refine ax_lload_n (i := 1) dX9_checksum_107 rfl rfl ?_
      exact ax_retl dX9_checksum_108 h
    · rw [if_neg c7] at h
      refine ax_iconst (v := (0)) dX9_checksum_73 rfl ?_
      refine ax_istore (i := 4) (L2 := [some (av_r a0), some (av_l a1), none, some (av_i a3), some (av_i (0))]) dX9_checksum_74 (by decide) rfl rfl ?_
      exact ax_less (L' := [(some (av_r a0)), (some (av_l a1)), none, (some (av_i a3)), (some (av_i (0)))]) ⟨rfl, rfl, rfl, rfl, trivial⟩ (tb_X9_checksum_76 ih _ _ _ _ _ _ h)
def fb_X9_checksum_39 : Nat → Option Nat → Int64 → Int32 → ax_S → Option (Int64 × ax_S)
  | 0, _, _, _, _ => none
  | n + 1, a0, a1, a3, s =>
    if (5) ≤ a3 then
      fb_X9_checksum_62 10000 a0 a1 (0) s
    else
      (ax_sh s 6 a0).bind fun w9 =>
      (fn_X9_count a0 a3 s).bind fun q10 =>
      (fn_X9_mix a1 q10.1 q10.2).bind fun q11 =>
      (fb_X9_checksum_39 n) a0 q11.1 (a3 + (1)) q11.2
set_option maxRecDepth 100000 in
set_option maxHeartbeats 4000000 in
theorem tb_X9_checksum_39 {q : Int64 × ax_S} : ∀ (n : Nat) (a0 : Option Nat) (a1 : Int64) (a3 : Int32) (s : ax_S) (h : fb_X9_checksum_39 n a0 a1 a3 s = some q), AW mm_X9_checksum 5 0 0 39 [(some (av_r a0)), (some (av_l a1)), none, (some (av_i a3)), none] [] s (some (av_l q.1), q.2) := by
  intro n
  induction n with
  | zero =>
    intro a0 a1 a3 s h
    exact ax_no h
  | succ n ih =>
    intro a0 a1 a3 s h
    unfold fb_X9_checksum_39 at h
    refine ax_iload_n (i := 3) dX9_checksum_39 rfl rfl ?_
    refine ax_iconst (v := (5)) dX9_checksum_40 rfl ?_
    refine ax_icmp_ge (tgt := 60) dX9_checksum_41 (by decide) (fun c8 => ?_) (fun c8 => ?_)
    · rw [if_pos c8] at h
      refine ax_iconst (v := (0)) dX9_checksum_60 rfl ?_
      refine ax_istore_n (i := 3) (L2 := [some (av_r a0), some (av_l a1), none, some (av_i (0)), none]) dX9_checksum_61 rfl (by decide) rfl rfl ?_
      exact ax_less (L' := [(some (av_r a0)), (some (av_l a1)), none, (some (av_i (0))), none]) ⟨rfl, rfl, rfl, trivial⟩ (tb_X9_checksum_62  _ _ _ _ _ h)
    · rw [if_neg c8] at h
      refine ax_lload_n (i := 1) dX9_checksum_44 rfl rfl ?_
      refine ax_aload_n (i := 0) dX9_checksum_45 rfl rfl ?_
      refine ax_iload_n (i := 3) dX9_checksum_46 rfl rfl ?_
      obtain ⟨w9, gw9, h⟩ := Option.bind_eq_some_iff.mp h
      obtain ⟨q10, gq10, h⟩ := Option.bind_eq_some_iff.mp h
      refine ax_cV (As := [av_i a3]) (t := 6) dX9_checksum_47 gw9 (th_X9_count gq10) rfl (And.intro wd_432 wd_18) wd_636 wd_430 wd_431 cy_X9_count (by omega) (by decide) (Nat.le_of_ble_eq_true rfl) rfl ?_
      obtain ⟨q11, gq11, h⟩ := Option.bind_eq_some_iff.mp h
      refine ax_cS (As := [av_l a1, av_i q10.1]) dX9_checksum_50 (th_X9_mix gq11) (And.intro wd_610 wd_18) wd_608 wd_609 cy_X9_mix (by omega) (by decide) (Nat.le_of_ble_eq_true rfl) rfl ?_
      refine ax_lstore_n (i := 1) (L2 := [some (av_r a0), some (av_l q11.1), none, some (av_i a3), none]) dX9_checksum_53 rfl (by decide) rfl rfl ?_
      refine ax_iinc (i := 3) (v := (a3 + (1))) (L2 := [some (av_r a0), some (av_l q11.1), none, some (av_i (a3 + (1))), none]) dX9_checksum_54 rfl rfl (by decide) rfl rfl ?_
      refine ax_goto (tgt := 39) dX9_checksum_57 (by decide) ?_
      exact ax_less (L' := [(some (av_r a0)), (some (av_l q11.1)), none, (some (av_i (a3 + (1)))), none]) ⟨rfl, rfl, rfl, trivial⟩ (ih _ _ _ _ h)
def fb_X9_checksum_13 : Nat → Option Nat → Int64 → Int32 → ax_S → Option (Int64 × ax_S)
  | 0, _, _, _, _ => none
  | n + 1, a0, a1, a3, s =>
    (ax_gr s 6 0 a0).bind fun r12 =>
    (ax_gi s 1 1 r12).bind fun x13 =>
    if x13 ≤ a3 then
      fb_X9_checksum_39 10000 a0 a1 (0) s
    else
      (ax_sh s 6 a0).bind fun w15 =>
      (fn_X9_mixNode a0 a1 a3 s).bind fun q16 =>
      (fb_X9_checksum_13 n) a0 q16.1 (a3 + (1)) q16.2
set_option maxRecDepth 100000 in
set_option maxHeartbeats 4000000 in
theorem tb_X9_checksum_13 {q : Int64 × ax_S} : ∀ (n : Nat) (a0 : Option Nat) (a1 : Int64) (a3 : Int32) (s : ax_S) (h : fb_X9_checksum_13 n a0 a1 a3 s = some q), AW mm_X9_checksum 5 0 0 13 [(some (av_r a0)), (some (av_l a1)), none, (some (av_i a3)), none] [] s (some (av_l q.1), q.2) := by
  intro n
  induction n with
  | zero =>
    intro a0 a1 a3 s h
    exact ax_no h
  | succ n ih =>
    intro a0 a1 a3 s h
    unfold fb_X9_checksum_13 at h
    refine ax_iload_n (i := 3) dX9_checksum_13 rfl rfl ?_
    refine ax_aload_n (i := 0) dX9_checksum_14 rfl rfl ?_
    obtain ⟨r12, gr12, h⟩ := Option.bind_eq_some_iff.mp h
    refine ax_getR (q := (RX9, TX9, 6)) (t := 6) (k := 0) dX9_checksum_15 rfl (by decide) wd_213 rfl gr12 ?_
    obtain ⟨x13, gx13, h⟩ := Option.bind_eq_some_iff.mp h
    refine ax_getI (q := (RX1, TX1, 5)) (t := 1) (k := 1) dX9_checksum_18 rfl (by decide) wd_88 rfl gx13 ?_
    refine ax_icmp_ge (tgt := 37) dX9_checksum_21 (by decide) (fun c14 => ?_) (fun c14 => ?_)
    · rw [if_pos c14] at h
      refine ax_iconst (v := (0)) dX9_checksum_37 rfl ?_
      refine ax_istore_n (i := 3) (L2 := [some (av_r a0), some (av_l a1), none, some (av_i (0)), none]) dX9_checksum_38 rfl (by decide) rfl rfl ?_
      exact ax_less (L' := [(some (av_r a0)), (some (av_l a1)), none, (some (av_i (0))), none]) ⟨rfl, rfl, rfl, trivial⟩ (tb_X9_checksum_39  _ _ _ _ _ h)
    · rw [if_neg c14] at h
      refine ax_aload_n (i := 0) dX9_checksum_24 rfl rfl ?_
      refine ax_lload_n (i := 1) dX9_checksum_25 rfl rfl ?_
      refine ax_iload_n (i := 3) dX9_checksum_26 rfl rfl ?_
      obtain ⟨w15, gw15, h⟩ := Option.bind_eq_some_iff.mp h
      obtain ⟨q16, gq16, h⟩ := Option.bind_eq_some_iff.mp h
      refine ax_cV (As := [av_l a1, av_i a3]) (t := 6) dX9_checksum_27 gw15 (th_X9_mixNode gq16) rfl (And.intro wd_615 wd_18) wd_612 wd_614 wd_16 cy_X9_mixNode (by omega) (by decide) (Nat.le_of_ble_eq_true rfl) rfl ?_
      refine ax_lstore_n (i := 1) (L2 := [some (av_r a0), some (av_l q16.1), none, some (av_i a3), none]) dX9_checksum_30 rfl (by decide) rfl rfl ?_
      refine ax_iinc (i := 3) (v := (a3 + (1))) (L2 := [some (av_r a0), some (av_l q16.1), none, some (av_i (a3 + (1))), none]) dX9_checksum_31 rfl rfl (by decide) rfl rfl ?_
      refine ax_goto (tgt := 13) dX9_checksum_34 (by decide) ?_
      exact ax_less (L' := [(some (av_r a0)), (some (av_l q16.1)), none, (some (av_i (a3 + (1)))), none]) ⟨rfl, rfl, rfl, trivial⟩ (ih _ _ _ _ h)
def fn_X9_checksum (a0 : Option Nat) (s : ax_S) : Option (Int64 × ax_S) :=
  (ax_sh s 6 a0).bind fun w17 =>
  (fn_X9_nodes a0 s).bind fun q18 =>
  (fn_X9_mix (127) q18.1 q18.2).bind fun q19 =>
  fb_X9_checksum_13 10000 a0 q19.1 (0) q19.2
set_option maxRecDepth 100000 in
set_option maxHeartbeats 4000000 in
theorem tw_X9_checksum {q : Int64 × ax_S} {a0 : Option Nat} {s : ax_S} (h : fn_X9_checksum a0 s = some q) : AW mm_X9_checksum 5 0 0 0 [some (av_r a0), none, none, none, none] [] s (some (av_l q.1), q.2) := by
  unfold fn_X9_checksum at h
  refine ax_ldc2 (v := (127)) dX9_checksum_0 wd_606 ?_
  refine ax_aload_n (i := 0) dX9_checksum_3 rfl rfl ?_
  obtain ⟨w17, gw17, h⟩ := Option.bind_eq_some_iff.mp h
  obtain ⟨q18, gq18, h⟩ := Option.bind_eq_some_iff.mp h
  refine ax_cV (As := []) (t := 6) dX9_checksum_4 gw17 (th_X9_nodes gq18) rfl (And.intro wd_350 wd_18) wd_607 wd_348 wd_349 cy_X9_nodes (by omega) (by decide) (Nat.le_of_ble_eq_true rfl) rfl ?_
  obtain ⟨q19, gq19, h⟩ := Option.bind_eq_some_iff.mp h
  refine ax_cS (As := [av_l (127), av_i q18.1]) dX9_checksum_7 (th_X9_mix gq19) (And.intro wd_610 wd_18) wd_608 wd_609 cy_X9_mix (by omega) (by decide) (Nat.le_of_ble_eq_true rfl) rfl ?_
  refine ax_lstore_n (i := 1) (L2 := [some (av_r a0), some (av_l q19.1), none, none, none]) dX9_checksum_10 rfl (by decide) rfl rfl ?_
  refine ax_iconst (v := (0)) dX9_checksum_11 rfl ?_
  refine ax_istore_n (i := 3) (L2 := [some (av_r a0), some (av_l q19.1), none, some (av_i (0)), none]) dX9_checksum_12 rfl (by decide) rfl rfl ?_
  exact ax_less (L' := [(some (av_r a0)), (some (av_l q19.1)), none, (some (av_i (0))), none]) ⟨rfl, rfl, rfl, trivial⟩ (tb_X9_checksum_13  _ _ _ _ _ h)
set_option maxRecDepth 100000 in
set_option maxHeartbeats 4000000 in
theorem th_X9_checksum {q : Int64 × ax_S} {a0 : Option Nat} {s : ax_S} (h : fn_X9_checksum a0 s = some q) : AC mm_X9_checksum yX9_checksum 5 0 0 [av_r a0] s (some (av_l q.1), q.2) := by
  exact ax_met (L0 := [some (av_r a0), none, none, none, none]) (by decide +kernel) rfl (fun h => absurd h (by decide)) ⟨rfl, trivial⟩ (Nat.le_of_ble_eq_true rfl) trivial (tw_X9_checksum h)
/-! X9_compare -/
abbrev mm_X9_compare : ax_M := (RX9, cX9_compare, (some .int), 6, false)
def fn_X9_compare (a0 : Option Nat) (a1 : Int32) (a2 : Int32) (a3 : Int32) (s : ax_S) : Option (Int32 × ax_S) :=
  (ax_gr s 6 0 a0).bind fun r1 =>
  (ax_sh s 1 r1).bind fun w2 =>
  (fn_X1_has r1 a1 s).bind fun q3 =>
  if q3.1 = 0 then
    some ((-1001), q3.2)
  else
    (ax_gr q3.2 6 0 a0).bind fun r5 =>
    (ax_sh q3.2 1 r5).bind fun w6 =>
    (fn_X1_has r5 a2 q3.2).bind fun q7 =>
    if q7.1 = 0 then
      some ((-1001), q7.2)
    else
      (fn_X9_isFrame a3 q7.2).bind fun q9 =>
      if q9.1 = 0 then
        some ((-1001), q9.2)
      else
        (ax_sh q9.2 6 a0).bind fun w11 =>
        (fn_X9_ask a0 a1 a3 (0) q9.2).bind fun q12 =>
        (ax_sh q12.2 6 a0).bind fun w13 =>
        (fn_X9_ask a0 a2 a3 (0) q12.2).bind fun q14 =>
        (fn_X7_greatestDifference q12.1 q14.1 q14.2).bind fun q15 =>
        some (q15.1, q15.2)
set_option maxRecDepth 100000 in
set_option maxHeartbeats 4000000 in
theorem tw_X9_compare {q : Int32 × ax_S} {a0 : Option Nat} {a1 : Int32} {a2 : Int32} {a3 : Int32} {s : ax_S} (h : fn_X9_compare a0 a1 a2 a3 s = some q) : AW mm_X9_compare 71 0 0 0 [some (av_r a0), some (av_i a1), some (av_i a2), some (av_i a3), none, none] [] s (some (av_i q.1), q.2) := by
  unfold fn_X9_compare at h
  refine ax_aload_n (i := 0) dX9_compare_0 rfl rfl ?_
  obtain ⟨r1, gr1, h⟩ := Option.bind_eq_some_iff.mp h
  refine ax_getR (q := (RX9, TX9, 6)) (t := 6) (k := 0) dX9_compare_1 rfl (by decide) wd_213 rfl gr1 ?_
  refine ax_iload_n (i := 1) dX9_compare_4 rfl rfl ?_
  obtain ⟨w2, gw2, h⟩ := Option.bind_eq_some_iff.mp h
  obtain ⟨q3, gq3, h⟩ := Option.bind_eq_some_iff.mp h
  refine ax_cV (As := [av_i a1]) (t := 1) dX9_compare_5 gw2 (th_X1_has gq3) rfl (And.intro wd_256 wd_19) wd_268 wd_254 wd_255 cy_X1_has (by omega) (by decide) (Nat.le_of_ble_eq_true rfl) rfl ?_
  refine ax_if_eq (tgt := 29) dX9_compare_8 (by decide) (fun c4 => ?_) (fun c4 => ?_)
  · rw [if_pos c4] at h
    refine ax_sipush (v := (-1001)) dX9_compare_29 rfl ?_
    exact ax_reti dX9_compare_32 h
  · rw [if_neg c4] at h
    refine ax_aload_n (i := 0) dX9_compare_11 rfl rfl ?_
    obtain ⟨r5, gr5, h⟩ := Option.bind_eq_some_iff.mp h
    refine ax_getR (q := (RX9, TX9, 6)) (t := 6) (k := 0) dX9_compare_12 rfl (by decide) wd_213 rfl gr5 ?_
    refine ax_iload_n (i := 2) dX9_compare_15 rfl rfl ?_
    obtain ⟨w6, gw6, h⟩ := Option.bind_eq_some_iff.mp h
    obtain ⟨q7, gq7, h⟩ := Option.bind_eq_some_iff.mp h
    refine ax_cV (As := [av_i a2]) (t := 1) dX9_compare_16 gw6 (th_X1_has gq7) rfl (And.intro wd_256 wd_19) wd_268 wd_254 wd_255 cy_X1_has (by omega) (by decide) (Nat.le_of_ble_eq_true rfl) rfl ?_
    refine ax_if_eq (tgt := 29) dX9_compare_19 (by decide) (fun c8 => ?_) (fun c8 => ?_)
    · rw [if_pos c8] at h
      refine ax_sipush (v := (-1001)) dX9_compare_29 rfl ?_
      exact ax_reti dX9_compare_32 h
    · rw [if_neg c8] at h
      refine ax_iload_n (i := 3) dX9_compare_22 rfl rfl ?_
      obtain ⟨q9, gq9, h⟩ := Option.bind_eq_some_iff.mp h
      refine ax_cS (As := [av_i a3]) dX9_compare_23 (th_X9_isFrame gq9) (And.intro wd_345 wd_18) wd_343 wd_344 cy_X9_isFrame (by omega) (by decide) (Nat.le_of_ble_eq_true rfl) rfl ?_
      refine ax_if_ne (tgt := 33) dX9_compare_26 (by decide) (fun c10 => ?_) (fun c10 => ?_)
      · rw [if_neg c10] at h
        refine ax_aload_n (i := 0) dX9_compare_33 rfl rfl ?_
        refine ax_iload_n (i := 1) dX9_compare_34 rfl rfl ?_
        refine ax_iload_n (i := 3) dX9_compare_35 rfl rfl ?_
        refine ax_iconst (v := (0)) dX9_compare_36 rfl ?_
        obtain ⟨w11, gw11, h⟩ := Option.bind_eq_some_iff.mp h
        obtain ⟨q12, gq12, h⟩ := Option.bind_eq_some_iff.mp h
        refine ax_cV (As := [av_i a1, av_i a3, av_i (0)]) (t := 6) dX9_compare_37 gw11 (th_X9_ask gq12) rfl (And.intro wd_358 wd_18) wd_355 wd_357 wd_4 cy_X9_ask (by omega) (by decide) (Nat.le_of_ble_eq_true rfl) rfl ?_
        refine ax_astore (i := 4) (L2 := [some (av_r a0), some (av_i a1), some (av_i a2), some (av_i a3), some (av_r q12.1), none]) dX9_compare_40 (by decide) rfl rfl ?_
        refine ax_aload_n (i := 0) dX9_compare_42 rfl rfl ?_
        refine ax_iload_n (i := 2) dX9_compare_43 rfl rfl ?_
        refine ax_iload_n (i := 3) dX9_compare_44 rfl rfl ?_
        refine ax_iconst (v := (0)) dX9_compare_45 rfl ?_
        obtain ⟨w13, gw13, h⟩ := Option.bind_eq_some_iff.mp h
        obtain ⟨q14, gq14, h⟩ := Option.bind_eq_some_iff.mp h
        refine ax_cV (As := [av_i a2, av_i a3, av_i (0)]) (t := 6) dX9_compare_46 gw13 (th_X9_ask gq14) rfl (And.intro wd_358 wd_18) wd_355 wd_357 wd_4 cy_X9_ask (by omega) (by decide) (Nat.le_of_ble_eq_true rfl) rfl ?_
        refine ax_astore (i := 5) (L2 := [some (av_r a0), some (av_i a1), some (av_i a2), some (av_i a3), some (av_r q12.1), some (av_r q14.1)]) dX9_compare_49 (by decide) rfl rfl ?_
        refine ax_aload (i := 4) dX9_compare_51 rfl ?_
        refine ax_aload (i := 5) dX9_compare_53 rfl ?_
        obtain ⟨q15, gq15, h⟩ := Option.bind_eq_some_iff.mp h
        refine ax_cS (As := [av_r q12.1, av_r q14.1]) dX9_compare_55 (th_X7_greatestDifference gq15) (And.intro wd_416 wd_35) wd_414 wd_415 cy_X7_greatestDifference (by omega) (by decide) (Nat.le_of_ble_eq_true rfl) rfl ?_
        exact ax_reti dX9_compare_58 h
      · rw [if_pos c10] at h
        refine ax_sipush (v := (-1001)) dX9_compare_29 rfl ?_
        exact ax_reti dX9_compare_32 h
set_option maxRecDepth 100000 in
set_option maxHeartbeats 4000000 in
theorem th_X9_compare {q : Int32 × ax_S} {a0 : Option Nat} {a1 : Int32} {a2 : Int32} {a3 : Int32} {s : ax_S} (h : fn_X9_compare a0 a1 a2 a3 s = some q) : AC mm_X9_compare yX9_compare 71 0 0 [av_r a0, av_i a1, av_i a2, av_i a3] s (some (av_i q.1), q.2) := by
  exact ax_met (L0 := [some (av_r a0), some (av_i a1), some (av_i a2), some (av_i a3), none, none]) (by decide +kernel) rfl (fun h => absurd h (by decide)) ⟨rfl, rfl, rfl, rfl, trivial⟩ (Nat.le_of_ble_eq_true rfl) trivial (tw_X9_compare h)
/-! X9_connect -/
abbrev mm_X9_connect : ax_M := (RX9, cX9_connect, (some .int), 6, false)
def fb_X9_connect_64 (a0 : Option Nat) (a1 : Int32) (a2 : Int32) (a3 : Int32) (a4 : Int32) (s : ax_S) : Option (Int32 × ax_S) :=
  (ax_gr s 6 0 a0).bind fun r1 =>
  (ax_sh s 1 r1).bind fun w2 =>
  (fn_X1_link r1 a1 a2 a3 s).bind fun q3 =>
  if a2 = 0 then
    (ax_gr q3 6 1 a0).bind fun r13 =>
    (ax_sh q3 0 r13).bind fun w14 =>
    (fn_X0_makeVoid r13 a4 (0) (99) q3).bind fun q15 =>
    some (q15.1, q15.2)
  else
    (ax_gr q3 6 0 a0).bind fun r5 =>
    (ax_gr q3 1 0 r5).bind fun r6 =>
    (ax_ar q3 12 r6 a1).bind fun r7 =>
    (ax_gr q3 6 1 a0).bind fun r8 =>
    (ax_gi q3 2 1 r7).bind fun x9 =>
    (ax_gi q3 2 2 r7).bind fun x10 =>
    (ax_sh q3 0 r8).bind fun w11 =>
    (fn_X0_makeVoid r8 a4 x9 x10 q3).bind fun q12 =>
    some (q12.1, q12.2)
set_option maxRecDepth 100000 in
set_option maxHeartbeats 4000000 in
theorem tb_X9_connect_64 {q : Int32 × ax_S} {a0 : Option Nat} {a1 : Int32} {a2 : Int32} {a3 : Int32} {a4 : Int32} {s : ax_S} (h : fb_X9_connect_64 a0 a1 a2 a3 a4 s = some q) : AW mm_X9_connect 5 0 0 64 [(some (av_r a0)), (some (av_i a1)), (some (av_i a2)), (some (av_i a3)), (some (av_i a4)), none] [] s (some (av_i q.1), q.2) := by
  unfold fb_X9_connect_64 at h
  refine ax_aload_n (i := 0) dX9_connect_64 rfl rfl ?_
  obtain ⟨r1, gr1, h⟩ := Option.bind_eq_some_iff.mp h
  refine ax_getR (q := (RX9, TX9, 6)) (t := 6) (k := 0) dX9_connect_65 rfl (by decide) wd_213 rfl gr1 ?_
  refine ax_iload_n (i := 1) dX9_connect_68 rfl rfl ?_
  refine ax_iload_n (i := 2) dX9_connect_69 rfl rfl ?_
  refine ax_iload_n (i := 3) dX9_connect_70 rfl rfl ?_
  obtain ⟨w2, gw2, h⟩ := Option.bind_eq_some_iff.mp h
  obtain ⟨q3, gq3, h⟩ := Option.bind_eq_some_iff.mp h
  refine ax_cV (As := [av_i a1, av_i a2, av_i a3]) (t := 1) dX9_connect_71 gw2 (th_X1_link gq3) rfl (And.intro wd_284 wd_19) wd_281 wd_282 wd_283 cy_X1_link (by omega) (by decide) (Nat.le_of_ble_eq_true rfl) rfl ?_
  refine ax_iload_n (i := 2) dX9_connect_74 rfl rfl ?_
  refine ax_if_ne (tgt := 91) dX9_connect_75 (by decide) (fun c4 => ?_) (fun c4 => ?_)
  · rw [if_neg c4] at h
    refine ax_aload_n (i := 0) dX9_connect_91 rfl rfl ?_
    obtain ⟨r5, gr5, h⟩ := Option.bind_eq_some_iff.mp h
    refine ax_getR (q := (RX9, TX9, 6)) (t := 6) (k := 0) dX9_connect_92 rfl (by decide) wd_213 rfl gr5 ?_
    obtain ⟨r6, gr6, h⟩ := Option.bind_eq_some_iff.mp h
    refine ax_getR (q := (RX1, TX1, 5)) (t := 1) (k := 0) dX9_connect_95 rfl (by decide) wd_86 rfl gr6 ?_
    refine ax_iload_n (i := 1) dX9_connect_98 rfl rfl ?_
    obtain ⟨r7, gr7, h⟩ := Option.bind_eq_some_iff.mp h
    refine ax_aald (t := 12) (by decide) dX9_connect_99 gr7 ?_
    refine ax_astore (i := 5) (L2 := [some (av_r a0), some (av_i a1), some (av_i a2), some (av_i a3), some (av_i a4), some (av_r r7)]) dX9_connect_100 (by decide) rfl rfl ?_
    refine ax_aload_n (i := 0) dX9_connect_102 rfl rfl ?_
    obtain ⟨r8, gr8, h⟩ := Option.bind_eq_some_iff.mp h
    refine ax_getR (q := (RX9, TX9, 6)) (t := 6) (k := 1) dX9_connect_103 rfl (by decide) wd_214 rfl gr8 ?_
    refine ax_iload (i := 4) dX9_connect_106 rfl ?_
    refine ax_aload (i := 5) dX9_connect_108 rfl ?_
    obtain ⟨x9, gx9, h⟩ := Option.bind_eq_some_iff.mp h
    refine ax_getI (q := (RX3, TX3, 5)) (t := 2) (k := 1) dX9_connect_110 rfl (by decide) wd_62 rfl gx9 ?_
    refine ax_aload (i := 5) dX9_connect_113 rfl ?_
    obtain ⟨x10, gx10, h⟩ := Option.bind_eq_some_iff.mp h
    refine ax_getI (q := (RX3, TX3, 5)) (t := 2) (k := 2) dX9_connect_115 rfl (by decide) wd_64 rfl gx10 ?_
    obtain ⟨w11, gw11, h⟩ := Option.bind_eq_some_iff.mp h
    obtain ⟨q12, gq12, h⟩ := Option.bind_eq_some_iff.mp h
    refine ax_cV (As := [av_i a4, av_i x9, av_i x10]) (t := 0) dX9_connect_118 gw11 (th_X0_makeVoid gq12) rfl (And.intro wd_305 wd_21) wd_302 wd_303 wd_304 cy_X0_makeVoid (by omega) (by decide) (Nat.le_of_ble_eq_true rfl) rfl ?_
    exact ax_reti dX9_connect_121 h
  · rw [if_pos c4] at h
    refine ax_aload_n (i := 0) dX9_connect_78 rfl rfl ?_
    obtain ⟨r13, gr13, h⟩ := Option.bind_eq_some_iff.mp h
    refine ax_getR (q := (RX9, TX9, 6)) (t := 6) (k := 1) dX9_connect_79 rfl (by decide) wd_214 rfl gr13 ?_
    refine ax_iload (i := 4) dX9_connect_82 rfl ?_
    refine ax_iconst (v := (0)) dX9_connect_84 rfl ?_
    refine ax_bipush (v := (99)) dX9_connect_85 rfl ?_
    obtain ⟨w14, gw14, h⟩ := Option.bind_eq_some_iff.mp h
    obtain ⟨q15, gq15, h⟩ := Option.bind_eq_some_iff.mp h
    refine ax_cV (As := [av_i a4, av_i (0), av_i (99)]) (t := 0) dX9_connect_87 gw14 (th_X0_makeVoid gq15) rfl (And.intro wd_305 wd_21) wd_302 wd_303 wd_304 cy_X0_makeVoid (by omega) (by decide) (Nat.le_of_ble_eq_true rfl) rfl ?_
    exact ax_reti dX9_connect_90 h
def fb_X9_connect_34 (a0 : Option Nat) (a1 : Int32) (a2 : Int32) (a3 : Int32) (s : ax_S) : Option (Int32 × ax_S) :=
  (ax_gr s 6 0 a0).bind fun r16 =>
  (ax_sh s 1 r16).bind fun w17 =>
  (fn_X1_dependents r16 a1 s).bind fun q18 =>
  if a3 = (-1005) then
    fb_X9_connect_64 a0 a1 a2 a3 q18.1 q18.2
  else
    (fn_X9_contains q18.1 a3 q18.2).bind fun q20 =>
    if q20.1 = 0 then
      fb_X9_connect_64 a0 a1 a2 a3 q18.1 q20.2
    else
      some ((-1003), q20.2)
set_option maxRecDepth 100000 in
set_option maxHeartbeats 4000000 in
theorem tb_X9_connect_34 {q : Int32 × ax_S} {a0 : Option Nat} {a1 : Int32} {a2 : Int32} {a3 : Int32} {s : ax_S} (h : fb_X9_connect_34 a0 a1 a2 a3 s = some q) : AW mm_X9_connect 5 0 0 34 [(some (av_r a0)), (some (av_i a1)), (some (av_i a2)), (some (av_i a3)), none, none] [] s (some (av_i q.1), q.2) := by
  unfold fb_X9_connect_34 at h
  refine ax_aload_n (i := 0) dX9_connect_34 rfl rfl ?_
  obtain ⟨r16, gr16, h⟩ := Option.bind_eq_some_iff.mp h
  refine ax_getR (q := (RX9, TX9, 6)) (t := 6) (k := 0) dX9_connect_35 rfl (by decide) wd_213 rfl gr16 ?_
  refine ax_iload_n (i := 1) dX9_connect_38 rfl rfl ?_
  obtain ⟨w17, gw17, h⟩ := Option.bind_eq_some_iff.mp h
  obtain ⟨q18, gq18, h⟩ := Option.bind_eq_some_iff.mp h
  refine ax_cV (As := [av_i a1]) (t := 1) dX9_connect_39 gw17 (th_X1_dependents gq18) rfl (And.intro wd_272 wd_19) wd_269 wd_270 wd_271 cy_X1_dependents (by omega) (by decide) (Nat.le_of_ble_eq_true rfl) rfl ?_
  refine ax_istore (i := 4) (L2 := [some (av_r a0), some (av_i a1), some (av_i a2), some (av_i a3), some (av_i q18.1), none]) dX9_connect_42 (by decide) rfl rfl ?_
  refine ax_iload_n (i := 3) dX9_connect_44 rfl rfl ?_
  refine ax_sipush (v := (-1005)) dX9_connect_45 rfl ?_
  refine ax_icmp_eq (tgt := 64) dX9_connect_48 (by decide) (fun c19 => ?_) (fun c19 => ?_)
  · rw [if_pos c19] at h
    exact ax_less (L' := [(some (av_r a0)), (some (av_i a1)), (some (av_i a2)), (some (av_i a3)), (some (av_i q18.1)), none]) ⟨rfl, rfl, rfl, rfl, rfl, trivial⟩ (tb_X9_connect_64  h)
  · rw [if_neg c19] at h
    refine ax_iload (i := 4) dX9_connect_51 rfl ?_
    refine ax_iload_n (i := 3) dX9_connect_53 rfl rfl ?_
    obtain ⟨q20, gq20, h⟩ := Option.bind_eq_some_iff.mp h
    refine ax_cS (As := [av_i q18.1, av_i a3]) dX9_connect_54 (th_X9_contains gq20) (And.intro wd_279 wd_18) wd_277 wd_278 cy_X9_contains (by omega) (by decide) (Nat.le_of_ble_eq_true rfl) rfl ?_
    refine ax_if_eq (tgt := 64) dX9_connect_57 (by decide) (fun c21 => ?_) (fun c21 => ?_)
    · rw [if_pos c21] at h
      exact ax_less (L' := [(some (av_r a0)), (some (av_i a1)), (some (av_i a2)), (some (av_i a3)), (some (av_i q18.1)), none]) ⟨rfl, rfl, rfl, rfl, rfl, trivial⟩ (tb_X9_connect_64  h)
    · rw [if_neg c21] at h
      refine ax_sipush (v := (-1003)) dX9_connect_60 rfl ?_
      exact ax_reti dX9_connect_63 h
def fn_X9_connect (a0 : Option Nat) (a1 : Int32) (a2 : Int32) (a3 : Int32) (s : ax_S) : Option (Int32 × ax_S) :=
  (ax_gr s 6 0 a0).bind fun r22 =>
  (ax_sh s 1 r22).bind fun w23 =>
  (fn_X1_hasInput r22 a1 a2 s).bind fun q24 =>
  if q24.1 = 0 then
    some ((-1001), q24.2)
  else
    if a3 = (-1005) then
      fb_X9_connect_34 a0 a1 a2 a3 q24.2
    else
      (ax_gr q24.2 6 0 a0).bind fun r27 =>
      (ax_sh q24.2 1 r27).bind fun w28 =>
      (fn_X1_has r27 a3 q24.2).bind fun q29 =>
      if q29.1 = 0 then
        some ((-1001), q29.2)
      else
        fb_X9_connect_34 a0 a1 a2 a3 q29.2
set_option maxRecDepth 100000 in
set_option maxHeartbeats 4000000 in
theorem tw_X9_connect {q : Int32 × ax_S} {a0 : Option Nat} {a1 : Int32} {a2 : Int32} {a3 : Int32} {s : ax_S} (h : fn_X9_connect a0 a1 a2 a3 s = some q) : AW mm_X9_connect 5 0 0 0 [some (av_r a0), some (av_i a1), some (av_i a2), some (av_i a3), none, none] [] s (some (av_i q.1), q.2) := by
  unfold fn_X9_connect at h
  refine ax_aload_n (i := 0) dX9_connect_0 rfl rfl ?_
  obtain ⟨r22, gr22, h⟩ := Option.bind_eq_some_iff.mp h
  refine ax_getR (q := (RX9, TX9, 6)) (t := 6) (k := 0) dX9_connect_1 rfl (by decide) wd_213 rfl gr22 ?_
  refine ax_iload_n (i := 1) dX9_connect_4 rfl rfl ?_
  refine ax_iload_n (i := 2) dX9_connect_5 rfl rfl ?_
  obtain ⟨w23, gw23, h⟩ := Option.bind_eq_some_iff.mp h
  obtain ⟨q24, gq24, h⟩ := Option.bind_eq_some_iff.mp h
  refine ax_cV (As := [av_i a1, av_i a2]) (t := 1) dX9_connect_6 gw23 (th_X1_hasInput gq24) rfl (And.intro wd_252 wd_19) wd_249 wd_250 wd_251 cy_X1_hasInput (by omega) (by decide) (Nat.le_of_ble_eq_true rfl) rfl ?_
  refine ax_if_eq (tgt := 30) dX9_connect_9 (by decide) (fun c25 => ?_) (fun c25 => ?_)
  · rw [if_pos c25] at h
    refine ax_sipush (v := (-1001)) dX9_connect_30 rfl ?_
    exact ax_reti dX9_connect_33 h
  · rw [if_neg c25] at h
    refine ax_iload_n (i := 3) dX9_connect_12 rfl rfl ?_
    refine ax_sipush (v := (-1005)) dX9_connect_13 rfl ?_
    refine ax_icmp_eq (tgt := 34) dX9_connect_16 (by decide) (fun c26 => ?_) (fun c26 => ?_)
    · rw [if_pos c26] at h
      exact ax_less (L' := [(some (av_r a0)), (some (av_i a1)), (some (av_i a2)), (some (av_i a3)), none, none]) ⟨rfl, rfl, rfl, rfl, trivial⟩ (tb_X9_connect_34  h)
    · rw [if_neg c26] at h
      refine ax_aload_n (i := 0) dX9_connect_19 rfl rfl ?_
      obtain ⟨r27, gr27, h⟩ := Option.bind_eq_some_iff.mp h
      refine ax_getR (q := (RX9, TX9, 6)) (t := 6) (k := 0) dX9_connect_20 rfl (by decide) wd_213 rfl gr27 ?_
      refine ax_iload_n (i := 3) dX9_connect_23 rfl rfl ?_
      obtain ⟨w28, gw28, h⟩ := Option.bind_eq_some_iff.mp h
      obtain ⟨q29, gq29, h⟩ := Option.bind_eq_some_iff.mp h
      refine ax_cV (As := [av_i a3]) (t := 1) dX9_connect_24 gw28 (th_X1_has gq29) rfl (And.intro wd_256 wd_19) wd_268 wd_254 wd_255 cy_X1_has (by omega) (by decide) (Nat.le_of_ble_eq_true rfl) rfl ?_
      refine ax_if_ne (tgt := 34) dX9_connect_27 (by decide) (fun c30 => ?_) (fun c30 => ?_)
      · rw [if_neg c30] at h
        exact ax_less (L' := [(some (av_r a0)), (some (av_i a1)), (some (av_i a2)), (some (av_i a3)), none, none]) ⟨rfl, rfl, rfl, rfl, trivial⟩ (tb_X9_connect_34  h)
      · rw [if_pos c30] at h
        refine ax_sipush (v := (-1001)) dX9_connect_30 rfl ?_
        exact ax_reti dX9_connect_33 h
set_option maxRecDepth 100000 in
set_option maxHeartbeats 4000000 in
theorem th_X9_connect {q : Int32 × ax_S} {a0 : Option Nat} {a1 : Int32} {a2 : Int32} {a3 : Int32} {s : ax_S} (h : fn_X9_connect a0 a1 a2 a3 s = some q) : AC mm_X9_connect yX9_connect 5 0 0 [av_r a0, av_i a1, av_i a2, av_i a3] s (some (av_i q.1), q.2) := by
  exact ax_met (L0 := [some (av_r a0), some (av_i a1), some (av_i a2), some (av_i a3), none, none]) (by decide +kernel) rfl (fun h => absurd h (by decide)) ⟨rfl, rfl, rfl, rfl, trivial⟩ (Nat.le_of_ble_eq_true rfl) trivial (tw_X9_connect h)
/-! X9_restore -/
abbrev mm_X9_restore : ax_M := (RX9, cX9_restore, (some .int), 2, false)
def fn_X9_restore (a0 : Option Nat) (a1 : Int32) (s : ax_S) : Option (Int32 × ax_S) :=
  (fn_X9_isIn a1 (0) (1) s).bind fun q1 =>
  if q1.1 = 0 then
    some ((-1001), q1.2)
  else
    (ax_gr q1.2 6 4 a0).bind fun r3 =>
    (ax_al q1.2 10 r3 a1).bind fun x4 =>
    if x4 = 0 then
      some ((-1003), q1.2)
    else
      (ax_gr q1.2 6 0 a0).bind fun r6 =>
      (ax_gr q1.2 6 3 a0).bind fun r7 =>
      (ax_ar q1.2 11 r7 a1).bind fun r8 =>
      (ax_sh q1.2 1 r6).bind fun w9 =>
      (fn_X1_copyFrom r6 r8 q1.2).bind fun q10 =>
      (ax_gr q10 6 1 a0).bind fun r11 =>
      (ax_sh q10 0 r11).bind fun w12 =>
      (fn_X0_empty r11 q10).bind fun q13 =>
      (ax_gr q13 6 0 a0).bind fun r14 =>
      (ax_gi q13 1 1 r14).bind fun x15 =>
      some (x15, q13)
set_option maxRecDepth 100000 in
set_option maxHeartbeats 4000000 in
theorem tw_X9_restore {q : Int32 × ax_S} {a0 : Option Nat} {a1 : Int32} {s : ax_S} (h : fn_X9_restore a0 a1 s = some q) : AW mm_X9_restore 6 0 0 0 [some (av_r a0), some (av_i a1)] [] s (some (av_i q.1), q.2) := by
  unfold fn_X9_restore at h
  refine ax_iload_n (i := 1) dX9_restore_0 rfl rfl ?_
  refine ax_iconst (v := (0)) dX9_restore_1 rfl ?_
  refine ax_iconst (v := (1)) dX9_restore_2 rfl ?_
  obtain ⟨q1, gq1, h⟩ := Option.bind_eq_some_iff.mp h
  refine ax_cS (As := [av_i a1, av_i (0), av_i (1)]) dX9_restore_3 (th_X9_isIn gq1) (And.intro wd_259 wd_18) wd_280 wd_258 cy_X9_isIn (by omega) (by decide) (Nat.le_of_ble_eq_true rfl) rfl ?_
  refine ax_if_ne (tgt := 13) dX9_restore_6 (by decide) (fun c2 => ?_) (fun c2 => ?_)
  · rw [if_neg c2] at h
    refine ax_aload_n (i := 0) dX9_restore_13 rfl rfl ?_
    obtain ⟨r3, gr3, h⟩ := Option.bind_eq_some_iff.mp h
    refine ax_getR (q := (RX9, TX9, 6)) (t := 6) (k := 4) dX9_restore_14 rfl (by decide) wd_217 rfl gr3 ?_
    refine ax_iload_n (i := 1) dX9_restore_17 rfl rfl ?_
    obtain ⟨x4, gx4, h⟩ := Option.bind_eq_some_iff.mp h
    refine ax_zald dX9_restore_18 gx4 ?_
    refine ax_if_ne (tgt := 26) dX9_restore_19 (by decide) (fun c5 => ?_) (fun c5 => ?_)
    · rw [if_neg c5] at h
      refine ax_aload_n (i := 0) dX9_restore_26 rfl rfl ?_
      obtain ⟨r6, gr6, h⟩ := Option.bind_eq_some_iff.mp h
      refine ax_getR (q := (RX9, TX9, 6)) (t := 6) (k := 0) dX9_restore_27 rfl (by decide) wd_213 rfl gr6 ?_
      refine ax_aload_n (i := 0) dX9_restore_30 rfl rfl ?_
      obtain ⟨r7, gr7, h⟩ := Option.bind_eq_some_iff.mp h
      refine ax_getR (q := (RX9, TX9, 6)) (t := 6) (k := 3) dX9_restore_31 rfl (by decide) wd_216 rfl gr7 ?_
      refine ax_iload_n (i := 1) dX9_restore_34 rfl rfl ?_
      obtain ⟨r8, gr8, h⟩ := Option.bind_eq_some_iff.mp h
      refine ax_aald (t := 11) (by decide) dX9_restore_35 gr8 ?_
      obtain ⟨w9, gw9, h⟩ := Option.bind_eq_some_iff.mp h
      obtain ⟨q10, gq10, h⟩ := Option.bind_eq_some_iff.mp h
      refine ax_cV (As := [av_r r8]) (t := 1) dX9_restore_36 gw9 (th_X1_copyFrom gq10) rfl (And.intro wd_596 wd_19) wd_593 wd_594 wd_595 cy_X1_copyFrom (by omega) (by decide) (Nat.le_of_ble_eq_true rfl) rfl ?_
      refine ax_aload_n (i := 0) dX9_restore_39 rfl rfl ?_
      obtain ⟨r11, gr11, h⟩ := Option.bind_eq_some_iff.mp h
      refine ax_getR (q := (RX9, TX9, 6)) (t := 6) (k := 1) dX9_restore_40 rfl (by decide) wd_214 rfl gr11 ?_
      obtain ⟨w12, gw12, h⟩ := Option.bind_eq_some_iff.mp h
      obtain ⟨q13, gq13, h⟩ := Option.bind_eq_some_iff.mp h
      refine ax_cV (As := []) (t := 0) dX9_restore_43 gw12 (th_X0_empty gq13) rfl (And.intro wd_244 wd_21) wd_241 wd_242 wd_243 cy_X0_empty (by omega) (by decide) (Nat.le_of_ble_eq_true rfl) rfl ?_
      refine ax_aload_n (i := 0) dX9_restore_46 rfl rfl ?_
      obtain ⟨r14, gr14, h⟩ := Option.bind_eq_some_iff.mp h
      refine ax_getR (q := (RX9, TX9, 6)) (t := 6) (k := 0) dX9_restore_47 rfl (by decide) wd_213 rfl gr14 ?_
      obtain ⟨x15, gx15, h⟩ := Option.bind_eq_some_iff.mp h
      refine ax_getI (q := (RX1, TX1, 5)) (t := 1) (k := 1) dX9_restore_50 rfl (by decide) wd_88 rfl gx15 ?_
      exact ax_reti dX9_restore_53 h
    · rw [if_pos c5] at h
      refine ax_sipush (v := (-1003)) dX9_restore_22 rfl ?_
      exact ax_reti dX9_restore_25 h
  · rw [if_pos c2] at h
    refine ax_sipush (v := (-1001)) dX9_restore_9 rfl ?_
    exact ax_reti dX9_restore_12 h
set_option maxRecDepth 100000 in
set_option maxHeartbeats 4000000 in
theorem th_X9_restore {q : Int32 × ax_S} {a0 : Option Nat} {a1 : Int32} {s : ax_S} (h : fn_X9_restore a0 a1 s = some q) : AC mm_X9_restore yX9_restore 6 0 0 [av_r a0, av_i a1] s (some (av_i q.1), q.2) := by
  exact ax_met (L0 := [some (av_r a0), some (av_i a1)]) (by decide +kernel) rfl (fun h => absurd h (by decide)) ⟨rfl, rfl, trivial⟩ (Nat.le_of_ble_eq_true rfl) trivial (tw_X9_restore h)
/-! X9_save -/
abbrev mm_X9_save : ax_M := (RX9, cX9_save, (some .int), 2, false)
def fn_X9_save (a0 : Option Nat) (a1 : Int32) (s : ax_S) : Option (Int32 × ax_S) :=
  (fn_X9_isIn a1 (0) (1) s).bind fun q1 =>
  if q1.1 = 0 then
    some ((-1001), q1.2)
  else
    (ax_gr q1.2 6 3 a0).bind fun r3 =>
    (ax_ar q1.2 11 r3 a1).bind fun r4 =>
    (ax_gr q1.2 6 0 a0).bind fun r5 =>
    (ax_sh q1.2 1 r4).bind fun w6 =>
    (fn_X1_copyFrom r4 r5 q1.2).bind fun q7 =>
    (ax_gr q7 6 4 a0).bind fun r8 =>
    (ax_as q7 10 r8 a1 (1)).bind fun s9 =>
    (ax_gr s9 6 0 a0).bind fun r10 =>
    (ax_gi s9 1 1 r10).bind fun x11 =>
    some (x11, s9)
set_option maxRecDepth 100000 in
set_option maxHeartbeats 4000000 in
theorem tw_X9_save {q : Int32 × ax_S} {a0 : Option Nat} {a1 : Int32} {s : ax_S} (h : fn_X9_save a0 a1 s = some q) : AW mm_X9_save 6 0 0 0 [some (av_r a0), some (av_i a1)] [] s (some (av_i q.1), q.2) := by
  unfold fn_X9_save at h
  refine ax_iload_n (i := 1) dX9_save_0 rfl rfl ?_
  refine ax_iconst (v := (0)) dX9_save_1 rfl ?_
  refine ax_iconst (v := (1)) dX9_save_2 rfl ?_
  obtain ⟨q1, gq1, h⟩ := Option.bind_eq_some_iff.mp h
  refine ax_cS (As := [av_i a1, av_i (0), av_i (1)]) dX9_save_3 (th_X9_isIn gq1) (And.intro wd_259 wd_18) wd_280 wd_258 cy_X9_isIn (by omega) (by decide) (Nat.le_of_ble_eq_true rfl) rfl ?_
  refine ax_if_ne (tgt := 13) dX9_save_6 (by decide) (fun c2 => ?_) (fun c2 => ?_)
  · rw [if_neg c2] at h
    refine ax_aload_n (i := 0) dX9_save_13 rfl rfl ?_
    obtain ⟨r3, gr3, h⟩ := Option.bind_eq_some_iff.mp h
    refine ax_getR (q := (RX9, TX9, 6)) (t := 6) (k := 3) dX9_save_14 rfl (by decide) wd_216 rfl gr3 ?_
    refine ax_iload_n (i := 1) dX9_save_17 rfl rfl ?_
    obtain ⟨r4, gr4, h⟩ := Option.bind_eq_some_iff.mp h
    refine ax_aald (t := 11) (by decide) dX9_save_18 gr4 ?_
    refine ax_aload_n (i := 0) dX9_save_19 rfl rfl ?_
    obtain ⟨r5, gr5, h⟩ := Option.bind_eq_some_iff.mp h
    refine ax_getR (q := (RX9, TX9, 6)) (t := 6) (k := 0) dX9_save_20 rfl (by decide) wd_213 rfl gr5 ?_
    obtain ⟨w6, gw6, h⟩ := Option.bind_eq_some_iff.mp h
    obtain ⟨q7, gq7, h⟩ := Option.bind_eq_some_iff.mp h
    refine ax_cV (As := [av_r r5]) (t := 1) dX9_save_23 gw6 (th_X1_copyFrom gq7) rfl (And.intro wd_596 wd_19) wd_593 wd_594 wd_595 cy_X1_copyFrom (by omega) (by decide) (Nat.le_of_ble_eq_true rfl) rfl ?_
    refine ax_aload_n (i := 0) dX9_save_26 rfl rfl ?_
    obtain ⟨r8, gr8, h⟩ := Option.bind_eq_some_iff.mp h
    refine ax_getR (q := (RX9, TX9, 6)) (t := 6) (k := 4) dX9_save_27 rfl (by decide) wd_217 rfl gr8 ?_
    refine ax_iload_n (i := 1) dX9_save_30 rfl rfl ?_
    refine ax_iconst (v := (1)) dX9_save_31 rfl ?_
    obtain ⟨s9, gs9, h⟩ := Option.bind_eq_some_iff.mp h
    refine ax_zast dX9_save_32 rfl gs9 ?_
    refine ax_aload_n (i := 0) dX9_save_33 rfl rfl ?_
    obtain ⟨r10, gr10, h⟩ := Option.bind_eq_some_iff.mp h
    refine ax_getR (q := (RX9, TX9, 6)) (t := 6) (k := 0) dX9_save_34 rfl (by decide) wd_213 rfl gr10 ?_
    obtain ⟨x11, gx11, h⟩ := Option.bind_eq_some_iff.mp h
    refine ax_getI (q := (RX1, TX1, 5)) (t := 1) (k := 1) dX9_save_37 rfl (by decide) wd_88 rfl gx11 ?_
    exact ax_reti dX9_save_40 h
  · rw [if_pos c2] at h
    refine ax_sipush (v := (-1001)) dX9_save_9 rfl ?_
    exact ax_reti dX9_save_12 h
set_option maxRecDepth 100000 in
set_option maxHeartbeats 4000000 in
theorem th_X9_save {q : Int32 × ax_S} {a0 : Option Nat} {a1 : Int32} {s : ax_S} (h : fn_X9_save a0 a1 s = some q) : AC mm_X9_save yX9_save 6 0 0 [av_r a0, av_i a1] s (some (av_i q.1), q.2) := by
  exact ax_met (L0 := [some (av_r a0), some (av_i a1)]) (by decide +kernel) rfl (fun h => absurd h (by decide)) ⟨rfl, rfl, trivial⟩ (Nat.le_of_ble_eq_true rfl) trivial (tw_X9_save h)
/-! X9_scope -/
abbrev mm_X9_scope : ax_M := (RX9, cX9_scope, (some .int), 6, false)
def fn_X9_scope (a0 : Option Nat) (a1 : Int32) (a2 : Int32) (a3 : Int32) (a4 : Int32) (s : ax_S) : Option (Int32 × ax_S) :=
  (fn_X9_isIn a4 (0) (15) s).bind fun q1 =>
  (ax_gr q1.2 6 0 a0).bind fun r2 =>
  (ax_sh q1.2 1 r2).bind fun w3 =>
  (fn_X1_has r2 a1 q1.2).bind fun q4 =>
  if q4.1 = 0 then
    some ((-1001), q4.2)
  else
    (fn_X9_isFrame a2 q4.2).bind fun q6 =>
    if q6.1 = 0 then
      some ((-1001), q6.2)
    else
      (fn_X9_isChannel a3 q6.2).bind fun q8 =>
      if q8.1 = 0 then
        some ((-1001), q8.2)
      else
        if q1.1 = 0 then
          some ((-1001), q8.2)
        else
          (ax_sh q8.2 6 a0).bind fun w11 =>
          (fn_X9_ask a0 a1 a2 (0) q8.2).bind fun q12 =>
          (fn_X7_inPart q12.1 a3 a4 q12.2).bind fun q13 =>
          some (q13.1, q13.2)
set_option maxRecDepth 100000 in
set_option maxHeartbeats 4000000 in
theorem tw_X9_scope {q : Int32 × ax_S} {a0 : Option Nat} {a1 : Int32} {a2 : Int32} {a3 : Int32} {a4 : Int32} {s : ax_S} (h : fn_X9_scope a0 a1 a2 a3 a4 s = some q) : AW mm_X9_scope 71 0 0 0 [some (av_r a0), some (av_i a1), some (av_i a2), some (av_i a3), some (av_i a4), none] [] s (some (av_i q.1), q.2) := by
  unfold fn_X9_scope at h
  refine ax_iload (i := 4) dX9_scope_0 rfl ?_
  refine ax_iconst (v := (0)) dX9_scope_2 rfl ?_
  refine ax_bipush (v := (15)) dX9_scope_3 rfl ?_
  obtain ⟨q1, gq1, h⟩ := Option.bind_eq_some_iff.mp h
  refine ax_cS (As := [av_i a4, av_i (0), av_i (15)]) dX9_scope_5 (th_X9_isIn gq1) (And.intro wd_259 wd_18) wd_280 wd_258 cy_X9_isIn (by omega) (by decide) (Nat.le_of_ble_eq_true rfl) rfl ?_
  refine ax_istore (i := 5) (L2 := [some (av_r a0), some (av_i a1), some (av_i a2), some (av_i a3), some (av_i a4), some (av_i q1.1)]) dX9_scope_8 (by decide) rfl rfl ?_
  refine ax_aload_n (i := 0) dX9_scope_10 rfl rfl ?_
  obtain ⟨r2, gr2, h⟩ := Option.bind_eq_some_iff.mp h
  refine ax_getR (q := (RX9, TX9, 6)) (t := 6) (k := 0) dX9_scope_11 rfl (by decide) wd_213 rfl gr2 ?_
  refine ax_iload_n (i := 1) dX9_scope_14 rfl rfl ?_
  obtain ⟨w3, gw3, h⟩ := Option.bind_eq_some_iff.mp h
  obtain ⟨q4, gq4, h⟩ := Option.bind_eq_some_iff.mp h
  refine ax_cV (As := [av_i a1]) (t := 1) dX9_scope_15 gw3 (th_X1_has gq4) rfl (And.intro wd_256 wd_19) wd_268 wd_254 wd_255 cy_X1_has (by omega) (by decide) (Nat.le_of_ble_eq_true rfl) rfl ?_
  refine ax_if_eq (tgt := 40) dX9_scope_18 (by decide) (fun c5 => ?_) (fun c5 => ?_)
  · rw [if_pos c5] at h
    refine ax_sipush (v := (-1001)) dX9_scope_40 rfl ?_
    exact ax_reti dX9_scope_43 h
  · rw [if_neg c5] at h
    refine ax_iload_n (i := 2) dX9_scope_21 rfl rfl ?_
    obtain ⟨q6, gq6, h⟩ := Option.bind_eq_some_iff.mp h
    refine ax_cS (As := [av_i a2]) dX9_scope_22 (th_X9_isFrame gq6) (And.intro wd_345 wd_18) wd_343 wd_344 cy_X9_isFrame (by omega) (by decide) (Nat.le_of_ble_eq_true rfl) rfl ?_
    refine ax_if_eq (tgt := 40) dX9_scope_25 (by decide) (fun c7 => ?_) (fun c7 => ?_)
    · rw [if_pos c7] at h
      refine ax_sipush (v := (-1001)) dX9_scope_40 rfl ?_
      exact ax_reti dX9_scope_43 h
    · rw [if_neg c7] at h
      refine ax_iload_n (i := 3) dX9_scope_28 rfl rfl ?_
      obtain ⟨q8, gq8, h⟩ := Option.bind_eq_some_iff.mp h
      refine ax_cS (As := [av_i a3]) dX9_scope_29 (th_X9_isChannel gq8) (And.intro wd_679 wd_18) wd_677 wd_678 cy_X9_isChannel (by omega) (by decide) (Nat.le_of_ble_eq_true rfl) rfl ?_
      refine ax_if_eq (tgt := 40) dX9_scope_32 (by decide) (fun c9 => ?_) (fun c9 => ?_)
      · rw [if_pos c9] at h
        refine ax_sipush (v := (-1001)) dX9_scope_40 rfl ?_
        exact ax_reti dX9_scope_43 h
      · rw [if_neg c9] at h
        refine ax_iload (i := 5) dX9_scope_35 rfl ?_
        refine ax_if_ne (tgt := 44) dX9_scope_37 (by decide) (fun c10 => ?_) (fun c10 => ?_)
        · rw [if_neg c10] at h
          refine ax_aload_n (i := 0) dX9_scope_44 rfl rfl ?_
          refine ax_iload_n (i := 1) dX9_scope_45 rfl rfl ?_
          refine ax_iload_n (i := 2) dX9_scope_46 rfl rfl ?_
          refine ax_iconst (v := (0)) dX9_scope_47 rfl ?_
          obtain ⟨w11, gw11, h⟩ := Option.bind_eq_some_iff.mp h
          obtain ⟨q12, gq12, h⟩ := Option.bind_eq_some_iff.mp h
          refine ax_cV (As := [av_i a1, av_i a2, av_i (0)]) (t := 6) dX9_scope_48 gw11 (th_X9_ask gq12) rfl (And.intro wd_358 wd_18) wd_355 wd_357 wd_4 cy_X9_ask (by omega) (by decide) (Nat.le_of_ble_eq_true rfl) rfl ?_
          refine ax_iload_n (i := 3) dX9_scope_51 rfl rfl ?_
          refine ax_iload (i := 4) dX9_scope_52 rfl ?_
          obtain ⟨q13, gq13, h⟩ := Option.bind_eq_some_iff.mp h
          refine ax_cS (As := [av_r q12.1, av_i a3, av_i a4]) dX9_scope_54 (th_X7_inPart gq13) (And.intro wd_716 wd_35) wd_714 wd_715 cy_X7_inPart (by omega) (by decide) (Nat.le_of_ble_eq_true rfl) rfl ?_
          exact ax_reti dX9_scope_57 h
        · rw [if_pos c10] at h
          refine ax_sipush (v := (-1001)) dX9_scope_40 rfl ?_
          exact ax_reti dX9_scope_43 h
set_option maxRecDepth 100000 in
set_option maxHeartbeats 4000000 in
theorem th_X9_scope {q : Int32 × ax_S} {a0 : Option Nat} {a1 : Int32} {a2 : Int32} {a3 : Int32} {a4 : Int32} {s : ax_S} (h : fn_X9_scope a0 a1 a2 a3 a4 s = some q) : AC mm_X9_scope yX9_scope 71 0 0 [av_r a0, av_i a1, av_i a2, av_i a3, av_i a4] s (some (av_i q.1), q.2) := by
  exact ax_met (L0 := [some (av_r a0), some (av_i a1), some (av_i a2), some (av_i a3), some (av_i a4), none]) (by decide +kernel) rfl (fun h => absurd h (by decide)) ⟨rfl, rfl, rfl, rfl, rfl, trivial⟩ (Nat.le_of_ble_eq_true rfl) trivial (tw_X9_scope h)
/-! X9_set -/
abbrev mm_X9_set : ax_M := (RX9, cX9_set, (some .int), 6, false)
def fn_X9_set (a0 : Option Nat) (a1 : Int32) (a2 : Int32) (a3 : Int32) (s : ax_S) : Option (Int32 × ax_S) :=
  (ax_gr s 6 0 a0).bind fun r1 =>
  (ax_sh s 1 r1).bind fun w2 =>
  (fn_X1_hasParameter r1 a1 a2 s).bind fun q3 =>
  if q3.1 = 0 then
    some ((-1001), q3.2)
  else
    (ax_gr q3.2 6 0 a0).bind fun r5 =>
    (ax_gr q3.2 1 0 r5).bind fun r6 =>
    (ax_ar q3.2 12 r6 a1).bind fun r7 =>
    (ax_gi q3.2 2 0 r7).bind fun x8 =>
    (fn_X2_lowest x8 a2 q3.2).bind fun q9 =>
    (fn_X2_highest x8 a2 q9.2).bind fun q10 =>
    (fn_X9_isIn a3 q9.1 q10.1 q10.2).bind fun q11 =>
    if q11.1 = 0 then
      some ((-1002), q11.2)
    else
      (ax_gr q11.2 2 4 r7).bind fun r13 =>
      (ax_as q11.2 9 r13 a2 a3).bind fun s14 =>
      (ax_gr s14 6 1 a0).bind fun r15 =>
      (ax_gr s14 6 0 a0).bind fun r16 =>
      (ax_sh s14 1 r16).bind fun w17 =>
      (fn_X1_dependents r16 a1 s14).bind fun q18 =>
      (ax_gi q18.2 2 1 r7).bind fun x19 =>
      (ax_gi q18.2 2 2 r7).bind fun x20 =>
      (ax_sh q18.2 0 r15).bind fun w21 =>
      (fn_X0_makeVoid r15 q18.1 x19 x20 q18.2).bind fun q22 =>
      some (q22.1, q22.2)
set_option maxRecDepth 100000 in
set_option maxHeartbeats 4000000 in
theorem tw_X9_set {q : Int32 × ax_S} {a0 : Option Nat} {a1 : Int32} {a2 : Int32} {a3 : Int32} {s : ax_S} (h : fn_X9_set a0 a1 a2 a3 s = some q) : AW mm_X9_set 4 0 0 0 [some (av_r a0), some (av_i a1), some (av_i a2), some (av_i a3), none, none] [] s (some (av_i q.1), q.2) := by
  unfold fn_X9_set at h
  refine ax_aload_n (i := 0) dX9_set_0 rfl rfl ?_
  obtain ⟨r1, gr1, h⟩ := Option.bind_eq_some_iff.mp h
  refine ax_getR (q := (RX9, TX9, 6)) (t := 6) (k := 0) dX9_set_1 rfl (by decide) wd_213 rfl gr1 ?_
  refine ax_iload_n (i := 1) dX9_set_4 rfl rfl ?_
  refine ax_iload_n (i := 2) dX9_set_5 rfl rfl ?_
  obtain ⟨w2, gw2, h⟩ := Option.bind_eq_some_iff.mp h
  obtain ⟨q3, gq3, h⟩ := Option.bind_eq_some_iff.mp h
  refine ax_cV (As := [av_i a1, av_i a2]) (t := 1) dX9_set_6 gw2 (th_X1_hasParameter gq3) rfl (And.intro wd_323 wd_19) wd_320 wd_321 wd_322 cy_X1_hasParameter (by omega) (by decide) (Nat.le_of_ble_eq_true rfl) rfl ?_
  refine ax_if_ne (tgt := 16) dX9_set_9 (by decide) (fun c4 => ?_) (fun c4 => ?_)
  · rw [if_neg c4] at h
    refine ax_aload_n (i := 0) dX9_set_16 rfl rfl ?_
    obtain ⟨r5, gr5, h⟩ := Option.bind_eq_some_iff.mp h
    refine ax_getR (q := (RX9, TX9, 6)) (t := 6) (k := 0) dX9_set_17 rfl (by decide) wd_213 rfl gr5 ?_
    obtain ⟨r6, gr6, h⟩ := Option.bind_eq_some_iff.mp h
    refine ax_getR (q := (RX1, TX1, 5)) (t := 1) (k := 0) dX9_set_20 rfl (by decide) wd_86 rfl gr6 ?_
    refine ax_iload_n (i := 1) dX9_set_23 rfl rfl ?_
    obtain ⟨r7, gr7, h⟩ := Option.bind_eq_some_iff.mp h
    refine ax_aald (t := 12) (by decide) dX9_set_24 gr7 ?_
    refine ax_astore (i := 4) (L2 := [some (av_r a0), some (av_i a1), some (av_i a2), some (av_i a3), some (av_r r7), none]) dX9_set_25 (by decide) rfl rfl ?_
    refine ax_aload (i := 4) dX9_set_27 rfl ?_
    obtain ⟨x8, gx8, h⟩ := Option.bind_eq_some_iff.mp h
    refine ax_getI (q := (RX3, TX3, 5)) (t := 2) (k := 0) dX9_set_29 rfl (by decide) wd_60 rfl gx8 ?_
    refine ax_istore (i := 5) (L2 := [some (av_r a0), some (av_i a1), some (av_i a2), some (av_i a3), some (av_r r7), some (av_i x8)]) dX9_set_32 (by decide) rfl rfl ?_
    refine ax_iload_n (i := 3) dX9_set_34 rfl rfl ?_
    refine ax_iload (i := 5) dX9_set_35 rfl ?_
    refine ax_iload_n (i := 2) dX9_set_37 rfl rfl ?_
    obtain ⟨q9, gq9, h⟩ := Option.bind_eq_some_iff.mp h
    refine ax_cS (As := [av_i x8, av_i a2]) dX9_set_38 (th_X2_lowest gq9) (And.intro wd_331 wd_32) wd_329 wd_330 cy_X2_lowest (by omega) (by decide) (Nat.le_of_ble_eq_true rfl) rfl ?_
    refine ax_iload (i := 5) dX9_set_41 rfl ?_
    refine ax_iload_n (i := 2) dX9_set_43 rfl rfl ?_
    obtain ⟨q10, gq10, h⟩ := Option.bind_eq_some_iff.mp h
    refine ax_cS (As := [av_i x8, av_i a2]) dX9_set_44 (th_X2_highest gq10) (And.intro wd_336 wd_32) wd_334 wd_335 cy_X2_highest (by omega) (by decide) (Nat.le_of_ble_eq_true rfl) rfl ?_
    obtain ⟨q11, gq11, h⟩ := Option.bind_eq_some_iff.mp h
    refine ax_cS (As := [av_i a3, av_i q9.1, av_i q10.1]) dX9_set_47 (th_X9_isIn gq11) (And.intro wd_259 wd_18) wd_280 wd_258 cy_X9_isIn (by omega) (by decide) (Nat.le_of_ble_eq_true rfl) rfl ?_
    refine ax_if_ne (tgt := 57) dX9_set_50 (by decide) (fun c12 => ?_) (fun c12 => ?_)
    · rw [if_neg c12] at h
      refine ax_aload (i := 4) dX9_set_57 rfl ?_
      obtain ⟨r13, gr13, h⟩ := Option.bind_eq_some_iff.mp h
      refine ax_getR (q := (RX3, TX3, 5)) (t := 2) (k := 4) dX9_set_59 rfl (by decide) wd_71 rfl gr13 ?_
      refine ax_iload_n (i := 2) dX9_set_62 rfl rfl ?_
      refine ax_iload_n (i := 3) dX9_set_63 rfl rfl ?_
      obtain ⟨s14, gs14, h⟩ := Option.bind_eq_some_iff.mp h
      refine ax_iast dX9_set_64 gs14 ?_
      refine ax_aload_n (i := 0) dX9_set_65 rfl rfl ?_
      obtain ⟨r15, gr15, h⟩ := Option.bind_eq_some_iff.mp h
      refine ax_getR (q := (RX9, TX9, 6)) (t := 6) (k := 1) dX9_set_66 rfl (by decide) wd_214 rfl gr15 ?_
      refine ax_aload_n (i := 0) dX9_set_69 rfl rfl ?_
      obtain ⟨r16, gr16, h⟩ := Option.bind_eq_some_iff.mp h
      refine ax_getR (q := (RX9, TX9, 6)) (t := 6) (k := 0) dX9_set_70 rfl (by decide) wd_213 rfl gr16 ?_
      refine ax_iload_n (i := 1) dX9_set_73 rfl rfl ?_
      obtain ⟨w17, gw17, h⟩ := Option.bind_eq_some_iff.mp h
      obtain ⟨q18, gq18, h⟩ := Option.bind_eq_some_iff.mp h
      refine ax_cV (As := [av_i a1]) (t := 1) dX9_set_74 gw17 (th_X1_dependents gq18) rfl (And.intro wd_272 wd_19) wd_269 wd_270 wd_271 cy_X1_dependents (by omega) (by decide) (Nat.le_of_ble_eq_true rfl) rfl ?_
      refine ax_aload (i := 4) dX9_set_77 rfl ?_
      obtain ⟨x19, gx19, h⟩ := Option.bind_eq_some_iff.mp h
      refine ax_getI (q := (RX3, TX3, 5)) (t := 2) (k := 1) dX9_set_79 rfl (by decide) wd_62 rfl gx19 ?_
      refine ax_aload (i := 4) dX9_set_82 rfl ?_
      obtain ⟨x20, gx20, h⟩ := Option.bind_eq_some_iff.mp h
      refine ax_getI (q := (RX3, TX3, 5)) (t := 2) (k := 2) dX9_set_84 rfl (by decide) wd_64 rfl gx20 ?_
      obtain ⟨w21, gw21, h⟩ := Option.bind_eq_some_iff.mp h
      obtain ⟨q22, gq22, h⟩ := Option.bind_eq_some_iff.mp h
      refine ax_cV (As := [av_i q18.1, av_i x19, av_i x20]) (t := 0) dX9_set_87 gw21 (th_X0_makeVoid gq22) rfl (And.intro wd_305 wd_21) wd_302 wd_303 wd_304 cy_X0_makeVoid (by omega) (by decide) (Nat.le_of_ble_eq_true rfl) rfl ?_
      exact ax_reti dX9_set_90 h
    · rw [if_pos c12] at h
      refine ax_sipush (v := (-1002)) dX9_set_53 rfl ?_
      exact ax_reti dX9_set_56 h
  · rw [if_pos c4] at h
    refine ax_sipush (v := (-1001)) dX9_set_12 rfl ?_
    exact ax_reti dX9_set_15 h
set_option maxRecDepth 100000 in
set_option maxHeartbeats 4000000 in
theorem th_X9_set {q : Int32 × ax_S} {a0 : Option Nat} {a1 : Int32} {a2 : Int32} {a3 : Int32} {s : ax_S} (h : fn_X9_set a0 a1 a2 a3 s = some q) : AC mm_X9_set yX9_set 4 0 0 [av_r a0, av_i a1, av_i a2, av_i a3] s (some (av_i q.1), q.2) := by
  exact ax_met (L0 := [some (av_r a0), some (av_i a1), some (av_i a2), some (av_i a3), none, none]) (by decide +kernel) rfl (fun h => absurd h (by decide)) ⟨rfl, rfl, rfl, rfl, trivial⟩ (Nat.le_of_ble_eq_true rfl) trivial (tw_X9_set h)
/-! X9_setRange -/
abbrev mm_X9_setRange : ax_M := (RX9, cX9_setRange, (some .int), 7, false)
def fn_X9_setRange (a0 : Option Nat) (a1 : Int32) (a2 : Int32) (a3 : Int32) (s : ax_S) : Option (Int32 × ax_S) :=
  (ax_gr s 6 0 a0).bind fun r1 =>
  (ax_sh s 1 r1).bind fun w2 =>
  (fn_X1_has r1 a1 s).bind fun q3 =>
  if q3.1 = 0 then
    some ((-1001), q3.2)
  else
    (fn_X9_isFrame a2 q3.2).bind fun q5 =>
    if q5.1 = 0 then
      some ((-1002), q5.2)
    else
      (fn_X9_isIn a3 a2 (99) q5.2).bind fun q7 =>
      if q7.1 = 0 then
        some ((-1002), q7.2)
      else
        (ax_gr q7.2 6 0 a0).bind fun r9 =>
        (ax_gr q7.2 1 0 r9).bind fun r10 =>
        (ax_ar q7.2 12 r10 a1).bind fun r11 =>
        (ax_gi q7.2 2 1 r11).bind fun x12 =>
        (ax_gi q7.2 2 2 r11).bind fun x13 =>
        (ax_pi q7.2 2 1 r11 a2).bind fun s14 =>
        (ax_pi s14 2 2 r11 a3).bind fun s15 =>
        (ax_gr s15 6 1 a0).bind fun r16 =>
        (ax_gr s15 6 0 a0).bind fun r17 =>
        (ax_sh s15 1 r17).bind fun w18 =>
        (fn_X1_dependents r17 a1 s15).bind fun q19 =>
        (ax_sh q19.2 0 r16).bind fun w20 =>
        (fn_X0_makeVoidInOne r16 q19.1 x12 x13 a2 a3 q19.2).bind fun q21 =>
        some (q21.1, q21.2)
set_option maxRecDepth 100000 in
set_option maxHeartbeats 4000000 in
theorem tw_X9_setRange {q : Int32 × ax_S} {a0 : Option Nat} {a1 : Int32} {a2 : Int32} {a3 : Int32} {s : ax_S} (h : fn_X9_setRange a0 a1 a2 a3 s = some q) : AW mm_X9_setRange 3 0 0 0 [some (av_r a0), some (av_i a1), some (av_i a2), some (av_i a3), none, none, none] [] s (some (av_i q.1), q.2) := by
  unfold fn_X9_setRange at h
  refine ax_aload_n (i := 0) dX9_setRange_0 rfl rfl ?_
  obtain ⟨r1, gr1, h⟩ := Option.bind_eq_some_iff.mp h
  refine ax_getR (q := (RX9, TX9, 6)) (t := 6) (k := 0) dX9_setRange_1 rfl (by decide) wd_213 rfl gr1 ?_
  refine ax_iload_n (i := 1) dX9_setRange_4 rfl rfl ?_
  obtain ⟨w2, gw2, h⟩ := Option.bind_eq_some_iff.mp h
  obtain ⟨q3, gq3, h⟩ := Option.bind_eq_some_iff.mp h
  refine ax_cV (As := [av_i a1]) (t := 1) dX9_setRange_5 gw2 (th_X1_has gq3) rfl (And.intro wd_256 wd_19) wd_268 wd_254 wd_255 cy_X1_has (by omega) (by decide) (Nat.le_of_ble_eq_true rfl) rfl ?_
  refine ax_if_ne (tgt := 15) dX9_setRange_8 (by decide) (fun c4 => ?_) (fun c4 => ?_)
  · rw [if_neg c4] at h
    refine ax_iload_n (i := 2) dX9_setRange_15 rfl rfl ?_
    obtain ⟨q5, gq5, h⟩ := Option.bind_eq_some_iff.mp h
    refine ax_cS (As := [av_i a2]) dX9_setRange_16 (th_X9_isFrame gq5) (And.intro wd_345 wd_18) wd_343 wd_344 cy_X9_isFrame (by omega) (by decide) (Nat.le_of_ble_eq_true rfl) rfl ?_
    refine ax_if_eq (tgt := 32) dX9_setRange_19 (by decide) (fun c6 => ?_) (fun c6 => ?_)
    · rw [if_pos c6] at h
      refine ax_sipush (v := (-1002)) dX9_setRange_32 rfl ?_
      exact ax_reti dX9_setRange_35 h
    · rw [if_neg c6] at h
      refine ax_iload_n (i := 3) dX9_setRange_22 rfl rfl ?_
      refine ax_iload_n (i := 2) dX9_setRange_23 rfl rfl ?_
      refine ax_bipush (v := (99)) dX9_setRange_24 rfl ?_
      obtain ⟨q7, gq7, h⟩ := Option.bind_eq_some_iff.mp h
      refine ax_cS (As := [av_i a3, av_i a2, av_i (99)]) dX9_setRange_26 (th_X9_isIn gq7) (And.intro wd_259 wd_18) wd_280 wd_258 cy_X9_isIn (by omega) (by decide) (Nat.le_of_ble_eq_true rfl) rfl ?_
      refine ax_if_ne (tgt := 36) dX9_setRange_29 (by decide) (fun c8 => ?_) (fun c8 => ?_)
      · rw [if_neg c8] at h
        refine ax_aload_n (i := 0) dX9_setRange_36 rfl rfl ?_
        obtain ⟨r9, gr9, h⟩ := Option.bind_eq_some_iff.mp h
        refine ax_getR (q := (RX9, TX9, 6)) (t := 6) (k := 0) dX9_setRange_37 rfl (by decide) wd_213 rfl gr9 ?_
        obtain ⟨r10, gr10, h⟩ := Option.bind_eq_some_iff.mp h
        refine ax_getR (q := (RX1, TX1, 5)) (t := 1) (k := 0) dX9_setRange_40 rfl (by decide) wd_86 rfl gr10 ?_
        refine ax_iload_n (i := 1) dX9_setRange_43 rfl rfl ?_
        obtain ⟨r11, gr11, h⟩ := Option.bind_eq_some_iff.mp h
        refine ax_aald (t := 12) (by decide) dX9_setRange_44 gr11 ?_
        refine ax_astore (i := 4) (L2 := [some (av_r a0), some (av_i a1), some (av_i a2), some (av_i a3), some (av_r r11), none, none]) dX9_setRange_45 (by decide) rfl rfl ?_
        refine ax_aload (i := 4) dX9_setRange_47 rfl ?_
        obtain ⟨x12, gx12, h⟩ := Option.bind_eq_some_iff.mp h
        refine ax_getI (q := (RX3, TX3, 5)) (t := 2) (k := 1) dX9_setRange_49 rfl (by decide) wd_62 rfl gx12 ?_
        refine ax_istore (i := 5) (L2 := [some (av_r a0), some (av_i a1), some (av_i a2), some (av_i a3), some (av_r r11), some (av_i x12), none]) dX9_setRange_52 (by decide) rfl rfl ?_
        refine ax_aload (i := 4) dX9_setRange_54 rfl ?_
        obtain ⟨x13, gx13, h⟩ := Option.bind_eq_some_iff.mp h
        refine ax_getI (q := (RX3, TX3, 5)) (t := 2) (k := 2) dX9_setRange_56 rfl (by decide) wd_64 rfl gx13 ?_
        refine ax_istore (i := 6) (L2 := [some (av_r a0), some (av_i a1), some (av_i a2), some (av_i a3), some (av_r r11), some (av_i x12), some (av_i x13)]) dX9_setRange_59 (by decide) rfl rfl ?_
        refine ax_aload (i := 4) dX9_setRange_61 rfl ?_
        refine ax_iload_n (i := 2) dX9_setRange_63 rfl rfl ?_
        obtain ⟨s14, gs14, h⟩ := Option.bind_eq_some_iff.mp h
        refine ax_putI (q := (RX3, TX3, 5)) (t := 2) (k := 1) dX9_setRange_64 rfl (by decide) wd_62 rfl rfl ⟨rfl, rfl⟩ gs14 ?_
        refine ax_aload (i := 4) dX9_setRange_67 rfl ?_
        refine ax_iload_n (i := 3) dX9_setRange_69 rfl rfl ?_
        obtain ⟨s15, gs15, h⟩ := Option.bind_eq_some_iff.mp h
        refine ax_putI (q := (RX3, TX3, 5)) (t := 2) (k := 2) dX9_setRange_70 rfl (by decide) wd_64 rfl rfl ⟨rfl, rfl⟩ gs15 ?_
        refine ax_aload_n (i := 0) dX9_setRange_73 rfl rfl ?_
        obtain ⟨r16, gr16, h⟩ := Option.bind_eq_some_iff.mp h
        refine ax_getR (q := (RX9, TX9, 6)) (t := 6) (k := 1) dX9_setRange_74 rfl (by decide) wd_214 rfl gr16 ?_
        refine ax_aload_n (i := 0) dX9_setRange_77 rfl rfl ?_
        obtain ⟨r17, gr17, h⟩ := Option.bind_eq_some_iff.mp h
        refine ax_getR (q := (RX9, TX9, 6)) (t := 6) (k := 0) dX9_setRange_78 rfl (by decide) wd_213 rfl gr17 ?_
        refine ax_iload_n (i := 1) dX9_setRange_81 rfl rfl ?_
        obtain ⟨w18, gw18, h⟩ := Option.bind_eq_some_iff.mp h
        obtain ⟨q19, gq19, h⟩ := Option.bind_eq_some_iff.mp h
        refine ax_cV (As := [av_i a1]) (t := 1) dX9_setRange_82 gw18 (th_X1_dependents gq19) rfl (And.intro wd_272 wd_19) wd_269 wd_270 wd_271 cy_X1_dependents (by omega) (by decide) (Nat.le_of_ble_eq_true rfl) rfl ?_
        refine ax_iload (i := 5) dX9_setRange_85 rfl ?_
        refine ax_iload (i := 6) dX9_setRange_87 rfl ?_
        refine ax_iload_n (i := 2) dX9_setRange_89 rfl rfl ?_
        refine ax_iload_n (i := 3) dX9_setRange_90 rfl rfl ?_
        obtain ⟨w20, gw20, h⟩ := Option.bind_eq_some_iff.mp h
        obtain ⟨q21, gq21, h⟩ := Option.bind_eq_some_iff.mp h
        refine ax_cV (As := [av_i q19.1, av_i x12, av_i x13, av_i a2, av_i a3]) (t := 0) dX9_setRange_91 gw20 (th_X0_makeVoidInOne gq21) rfl (And.intro wd_309 wd_21) wd_346 wd_307 wd_308 cy_X0_makeVoidInOne (by omega) (by decide) (Nat.le_of_ble_eq_true rfl) rfl ?_
        exact ax_reti dX9_setRange_94 h
      · rw [if_pos c8] at h
        refine ax_sipush (v := (-1002)) dX9_setRange_32 rfl ?_
        exact ax_reti dX9_setRange_35 h
  · rw [if_pos c4] at h
    refine ax_sipush (v := (-1001)) dX9_setRange_11 rfl ?_
    exact ax_reti dX9_setRange_14 h
set_option maxRecDepth 100000 in
set_option maxHeartbeats 4000000 in
theorem th_X9_setRange {q : Int32 × ax_S} {a0 : Option Nat} {a1 : Int32} {a2 : Int32} {a3 : Int32} {s : ax_S} (h : fn_X9_setRange a0 a1 a2 a3 s = some q) : AC mm_X9_setRange yX9_setRange 3 0 0 [av_r a0, av_i a1, av_i a2, av_i a3] s (some (av_i q.1), q.2) := by
  exact ax_met (L0 := [some (av_r a0), some (av_i a1), some (av_i a2), some (av_i a3), none, none, none]) (by decide +kernel) rfl (fun h => absurd h (by decide)) ⟨rfl, rfl, rfl, rfl, trivial⟩ (Nat.le_of_ble_eq_true rfl) trivial (tw_X9_setRange h)
/-! X9_setRoom -/
abbrev mm_X9_setRoom : ax_M := (RX9, cX9_setRoom, (some .int), 3, false)
def fn_X9_setRoom (a0 : Option Nat) (a1 : Int32) (s : ax_S) : Option (Int32 × ax_S) :=
  (fn_X9_isIn a1 (12) (48) s).bind fun q1 =>
  if q1.1 = 0 then
    some ((-1002), q1.2)
  else
    (ax_gr q1.2 6 1 a0).bind fun r3 =>
    (ax_gi q1.2 0 3 r3).bind fun x4 =>
    (ax_gr q1.2 6 1 a0).bind fun r5 =>
    (ax_sh q1.2 0 r5).bind fun w6 =>
    (fn_X0_changeRoom r5 a1 q1.2).bind fun q7 =>
    some (x4, q7)
set_option maxRecDepth 100000 in
set_option maxHeartbeats 4000000 in
theorem tw_X9_setRoom {q : Int32 × ax_S} {a0 : Option Nat} {a1 : Int32} {s : ax_S} (h : fn_X9_setRoom a0 a1 s = some q) : AW mm_X9_setRoom 4 0 0 0 [some (av_r a0), some (av_i a1), none] [] s (some (av_i q.1), q.2) := by
  unfold fn_X9_setRoom at h
  refine ax_iload_n (i := 1) dX9_setRoom_0 rfl rfl ?_
  refine ax_bipush (v := (12)) dX9_setRoom_1 rfl ?_
  refine ax_bipush (v := (48)) dX9_setRoom_3 rfl ?_
  obtain ⟨q1, gq1, h⟩ := Option.bind_eq_some_iff.mp h
  refine ax_cS (As := [av_i a1, av_i (12), av_i (48)]) dX9_setRoom_5 (th_X9_isIn gq1) (And.intro wd_259 wd_18) wd_280 wd_258 cy_X9_isIn (by omega) (by decide) (Nat.le_of_ble_eq_true rfl) rfl ?_
  refine ax_if_ne (tgt := 15) dX9_setRoom_8 (by decide) (fun c2 => ?_) (fun c2 => ?_)
  · rw [if_neg c2] at h
    refine ax_aload_n (i := 0) dX9_setRoom_15 rfl rfl ?_
    obtain ⟨r3, gr3, h⟩ := Option.bind_eq_some_iff.mp h
    refine ax_getR (q := (RX9, TX9, 6)) (t := 6) (k := 1) dX9_setRoom_16 rfl (by decide) wd_214 rfl gr3 ?_
    obtain ⟨x4, gx4, h⟩ := Option.bind_eq_some_iff.mp h
    refine ax_getI (q := (RX0, TX0, 8)) (t := 0) (k := 3) dX9_setRoom_19 rfl (by decide) wd_137 rfl gx4 ?_
    refine ax_istore_n (i := 2) (L2 := [some (av_r a0), some (av_i a1), some (av_i x4)]) dX9_setRoom_22 rfl (by decide) rfl rfl ?_
    refine ax_aload_n (i := 0) dX9_setRoom_23 rfl rfl ?_
    obtain ⟨r5, gr5, h⟩ := Option.bind_eq_some_iff.mp h
    refine ax_getR (q := (RX9, TX9, 6)) (t := 6) (k := 1) dX9_setRoom_24 rfl (by decide) wd_214 rfl gr5 ?_
    refine ax_iload_n (i := 1) dX9_setRoom_27 rfl rfl ?_
    obtain ⟨w6, gw6, h⟩ := Option.bind_eq_some_iff.mp h
    obtain ⟨q7, gq7, h⟩ := Option.bind_eq_some_iff.mp h
    refine ax_cV (As := [av_i a1]) (t := 0) dX9_setRoom_28 gw6 (th_X0_changeRoom gq7) rfl (And.intro wd_428 wd_21) wd_425 wd_426 wd_427 cy_X0_changeRoom (by omega) (by decide) (Nat.le_of_ble_eq_true rfl) rfl ?_
    refine ax_iload_n (i := 2) dX9_setRoom_31 rfl rfl ?_
    exact ax_reti dX9_setRoom_32 h
  · rw [if_pos c2] at h
    refine ax_sipush (v := (-1002)) dX9_setRoom_11 rfl ?_
    exact ax_reti dX9_setRoom_14 h
set_option maxRecDepth 100000 in
set_option maxHeartbeats 4000000 in
theorem th_X9_setRoom {q : Int32 × ax_S} {a0 : Option Nat} {a1 : Int32} {s : ax_S} (h : fn_X9_setRoom a0 a1 s = some q) : AC mm_X9_setRoom yX9_setRoom 4 0 0 [av_r a0, av_i a1] s (some (av_i q.1), q.2) := by
  exact ax_met (L0 := [some (av_r a0), some (av_i a1), none]) (by decide +kernel) rfl (fun h => absurd h (by decide)) ⟨rfl, rfl, trivial⟩ (Nat.le_of_ble_eq_true rfl) trivial (tw_X9_setRoom h)
/-! X9_sum -/
abbrev mm_X9_sum : ax_M := (RX9, cX9_sum, (some .int), 6, false)
def fn_X9_sum (a0 : Option Nat) (a1 : Int32) (a2 : Int32) (a3 : Int32) (a4 : Int32) (s : ax_S) : Option (Int32 × ax_S) :=
  (ax_gr s 6 0 a0).bind fun r1 =>
  (ax_sh s 1 r1).bind fun w2 =>
  (fn_X1_has r1 a1 s).bind fun q3 =>
  if q3.1 = 0 then
    some ((-1001), q3.2)
  else
    (fn_X9_isFrame a2 q3.2).bind fun q5 =>
    if q5.1 = 0 then
      some ((-1001), q5.2)
    else
      (fn_X9_isChannel a3 q5.2).bind fun q7 =>
      if q7.1 = 0 then
        some ((-1001), q7.2)
      else
        (fn_X9_isIn a4 (0) (3) q7.2).bind fun q9 =>
        if q9.1 = 0 then
          some ((-1002), q9.2)
        else
          (ax_sh q9.2 6 a0).bind fun w11 =>
          (fn_X9_ask a0 a1 a2 (0) q9.2).bind fun q12 =>
          if a4 = 0 then
            (fn_X7_least q12.1 a3 q12.2).bind fun q14 =>
            some (q14.1, q14.2)
          else
          if a4 = 1 then
            (fn_X7_greatest q12.1 a3 q12.2).bind fun q16 =>
            some (q16.1, q16.2)
          else
          if a4 = 2 then
            (fn_X7_total q12.1 a3 q12.2).bind fun q18 =>
            some (q18.1, q18.2)
          else
          (fn_X7_different q12.1 a3 q12.2).bind fun q19 =>
          some (q19.1, q19.2)
set_option maxRecDepth 100000 in
set_option maxHeartbeats 4000000 in
theorem tw_X9_sum {q : Int32 × ax_S} {a0 : Option Nat} {a1 : Int32} {a2 : Int32} {a3 : Int32} {a4 : Int32} {s : ax_S} (h : fn_X9_sum a0 a1 a2 a3 a4 s = some q) : AW mm_X9_sum 71 0 0 0 [some (av_r a0), some (av_i a1), some (av_i a2), some (av_i a3), some (av_i a4), none] [] s (some (av_i q.1), q.2) := by
  unfold fn_X9_sum at h
  refine ax_aload_n (i := 0) dX9_sum_0 rfl rfl ?_
  obtain ⟨r1, gr1, h⟩ := Option.bind_eq_some_iff.mp h
  refine ax_getR (q := (RX9, TX9, 6)) (t := 6) (k := 0) dX9_sum_1 rfl (by decide) wd_213 rfl gr1 ?_
  refine ax_iload_n (i := 1) dX9_sum_4 rfl rfl ?_
  obtain ⟨w2, gw2, h⟩ := Option.bind_eq_some_iff.mp h
  obtain ⟨q3, gq3, h⟩ := Option.bind_eq_some_iff.mp h
  refine ax_cV (As := [av_i a1]) (t := 1) dX9_sum_5 gw2 (th_X1_has gq3) rfl (And.intro wd_256 wd_19) wd_268 wd_254 wd_255 cy_X1_has (by omega) (by decide) (Nat.le_of_ble_eq_true rfl) rfl ?_
  refine ax_if_eq (tgt := 25) dX9_sum_8 (by decide) (fun c4 => ?_) (fun c4 => ?_)
  · rw [if_pos c4] at h
    refine ax_sipush (v := (-1001)) dX9_sum_25 rfl ?_
    exact ax_reti dX9_sum_28 h
  · rw [if_neg c4] at h
    refine ax_iload_n (i := 2) dX9_sum_11 rfl rfl ?_
    obtain ⟨q5, gq5, h⟩ := Option.bind_eq_some_iff.mp h
    refine ax_cS (As := [av_i a2]) dX9_sum_12 (th_X9_isFrame gq5) (And.intro wd_345 wd_18) wd_343 wd_344 cy_X9_isFrame (by omega) (by decide) (Nat.le_of_ble_eq_true rfl) rfl ?_
    refine ax_if_eq (tgt := 25) dX9_sum_15 (by decide) (fun c6 => ?_) (fun c6 => ?_)
    · rw [if_pos c6] at h
      refine ax_sipush (v := (-1001)) dX9_sum_25 rfl ?_
      exact ax_reti dX9_sum_28 h
    · rw [if_neg c6] at h
      refine ax_iload_n (i := 3) dX9_sum_18 rfl rfl ?_
      obtain ⟨q7, gq7, h⟩ := Option.bind_eq_some_iff.mp h
      refine ax_cS (As := [av_i a3]) dX9_sum_19 (th_X9_isChannel gq7) (And.intro wd_679 wd_18) wd_677 wd_678 cy_X9_isChannel (by omega) (by decide) (Nat.le_of_ble_eq_true rfl) rfl ?_
      refine ax_if_ne (tgt := 29) dX9_sum_22 (by decide) (fun c8 => ?_) (fun c8 => ?_)
      · rw [if_neg c8] at h
        refine ax_iload (i := 4) dX9_sum_29 rfl ?_
        refine ax_iconst (v := (0)) dX9_sum_31 rfl ?_
        refine ax_iconst (v := (3)) dX9_sum_32 rfl ?_
        obtain ⟨q9, gq9, h⟩ := Option.bind_eq_some_iff.mp h
        refine ax_cS (As := [av_i a4, av_i (0), av_i (3)]) dX9_sum_33 (th_X9_isIn gq9) (And.intro wd_259 wd_18) wd_280 wd_258 cy_X9_isIn (by omega) (by decide) (Nat.le_of_ble_eq_true rfl) rfl ?_
        refine ax_if_ne (tgt := 43) dX9_sum_36 (by decide) (fun c10 => ?_) (fun c10 => ?_)
        · rw [if_neg c10] at h
          refine ax_aload_n (i := 0) dX9_sum_43 rfl rfl ?_
          refine ax_iload_n (i := 1) dX9_sum_44 rfl rfl ?_
          refine ax_iload_n (i := 2) dX9_sum_45 rfl rfl ?_
          refine ax_iconst (v := (0)) dX9_sum_46 rfl ?_
          obtain ⟨w11, gw11, h⟩ := Option.bind_eq_some_iff.mp h
          obtain ⟨q12, gq12, h⟩ := Option.bind_eq_some_iff.mp h
          refine ax_cV (As := [av_i a1, av_i a2, av_i (0)]) (t := 6) dX9_sum_47 gw11 (th_X9_ask gq12) rfl (And.intro wd_358 wd_18) wd_355 wd_357 wd_4 cy_X9_ask (by omega) (by decide) (Nat.le_of_ble_eq_true rfl) rfl ?_
          refine ax_astore (i := 5) (L2 := [some (av_r a0), some (av_i a1), some (av_i a2), some (av_i a3), some (av_i a4), some (av_r q12.1)]) dX9_sum_50 (by decide) rfl rfl ?_
          refine ax_iload (i := 4) dX9_sum_52 rfl ?_
          by_cases c13 : a4 = 0
          · rw [if_pos c13] at h
            refine ax_swC (c := 0) (off := 26) (tgt := 80) dX9_sum_54 c13 (by decide) (by decide) (by decide) rfl (by decide) ?_
            refine ax_aload (i := 5) dX9_sum_80 rfl ?_
            refine ax_iload_n (i := 3) dX9_sum_82 rfl rfl ?_
            obtain ⟨q14, gq14, h⟩ := Option.bind_eq_some_iff.mp h
            refine ax_cS (As := [av_r q12.1, av_i a3]) dX9_sum_83 (th_X7_least gq14) (And.intro wd_686 wd_35) wd_684 wd_685 cy_X7_least (by omega) (by decide) (Nat.le_of_ble_eq_true rfl) rfl ?_
            exact ax_reti dX9_sum_86 h
          rw [if_neg c13] at h
          by_cases c15 : a4 = 1
          · rw [if_pos c15] at h
            refine ax_swC (c := 1) (off := 33) (tgt := 87) dX9_sum_54 c15 (by decide) (by decide) (by decide) rfl (by decide) ?_
            refine ax_aload (i := 5) dX9_sum_87 rfl ?_
            refine ax_iload_n (i := 3) dX9_sum_89 rfl rfl ?_
            obtain ⟨q16, gq16, h⟩ := Option.bind_eq_some_iff.mp h
            refine ax_cS (As := [av_r q12.1, av_i a3]) dX9_sum_90 (th_X7_greatest gq16) (And.intro wd_690 wd_35) wd_688 wd_689 cy_X7_greatest (by omega) (by decide) (Nat.le_of_ble_eq_true rfl) rfl ?_
            exact ax_reti dX9_sum_93 h
          rw [if_neg c15] at h
          by_cases c17 : a4 = 2
          · rw [if_pos c17] at h
            refine ax_swC (c := 2) (off := 40) (tgt := 94) dX9_sum_54 c17 (by decide) (by decide) (by decide) rfl (by decide) ?_
            refine ax_aload (i := 5) dX9_sum_94 rfl ?_
            refine ax_iload_n (i := 3) dX9_sum_96 rfl rfl ?_
            obtain ⟨q18, gq18, h⟩ := Option.bind_eq_some_iff.mp h
            refine ax_cS (As := [av_r q12.1, av_i a3]) dX9_sum_97 (th_X7_total gq18) (And.intro wd_693 wd_35) wd_691 wd_692 cy_X7_total (by omega) (by decide) (Nat.le_of_ble_eq_true rfl) rfl ?_
            exact ax_reti dX9_sum_100 h
          rw [if_neg c17] at h
          refine ax_swD (tgt := 101) dX9_sum_54 (fun c hc1 hc2 => ?_) (by decide) ?_
          · have hcc : c = 0 ∨ c = 1 ∨ c = 2 := by omega
            rcases hcc with rfl | rfl | rfl
            · exact Or.inr (fun e => c13 (e.trans (by decide)))
            · exact Or.inr (fun e => c15 (e.trans (by decide)))
            · exact Or.inr (fun e => c17 (e.trans (by decide)))
          refine ax_aload (i := 5) dX9_sum_101 rfl ?_
          refine ax_iload_n (i := 3) dX9_sum_103 rfl rfl ?_
          obtain ⟨q19, gq19, h⟩ := Option.bind_eq_some_iff.mp h
          refine ax_cS (As := [av_r q12.1, av_i a3]) dX9_sum_104 (th_X7_different gq19) (And.intro wd_696 wd_35) wd_694 wd_695 cy_X7_different (by omega) (by decide) (Nat.le_of_ble_eq_true rfl) rfl ?_
          exact ax_reti dX9_sum_107 h
        · rw [if_pos c10] at h
          refine ax_sipush (v := (-1002)) dX9_sum_39 rfl ?_
          exact ax_reti dX9_sum_42 h
      · rw [if_pos c8] at h
        refine ax_sipush (v := (-1001)) dX9_sum_25 rfl ?_
        exact ax_reti dX9_sum_28 h
set_option maxRecDepth 100000 in
set_option maxHeartbeats 4000000 in
theorem th_X9_sum {q : Int32 × ax_S} {a0 : Option Nat} {a1 : Int32} {a2 : Int32} {a3 : Int32} {a4 : Int32} {s : ax_S} (h : fn_X9_sum a0 a1 a2 a3 a4 s = some q) : AC mm_X9_sum yX9_sum 71 0 0 [av_r a0, av_i a1, av_i a2, av_i a3, av_i a4] s (some (av_i q.1), q.2) := by
  exact ax_met (L0 := [some (av_r a0), some (av_i a1), some (av_i a2), some (av_i a3), some (av_i a4), none]) (by decide +kernel) rfl (fun h => absurd h (by decide)) ⟨rfl, rfl, rfl, rfl, rfl, trivial⟩ (Nat.le_of_ble_eq_true rfl) trivial (tw_X9_sum h)
/-! X9_value -/
abbrev mm_X9_value : ax_M := (RX9, cX9_value, (some .int), 7, false)
def fb_X9_value_33 (a0 : Option Nat) (a1 : Int32) (a2 : Int32) (a3 : Int32) (a4 : Int32) (a5 : Int32) (b0 : Int32) (s : ax_S) : Option (Int32 × ax_S) :=
  (ax_gr s 6 0 a0).bind fun r1 =>
  (ax_sh s 1 r1).bind fun w2 =>
  (fn_X1_has r1 a1 s).bind fun q3 =>
  if q3.1 = 0 then
    some ((-1001), q3.2)
  else
    (fn_X9_isFrame a2 q3.2).bind fun q5 =>
    if q5.1 = 0 then
      some ((-1001), q5.2)
    else
      if b0 = 0 then
        some ((-1001), q5.2)
      else
        (ax_sh q5.2 6 a0).bind fun w8 =>
        (fn_X9_ask a0 a1 a2 (0) q5.2).bind fun q9 =>
        (ax_al q9.2 9 q9.1 (((a5 * (32)) + (a4 * (8))) + a3)).bind fun x10 =>
        some (x10, q9.2)
set_option maxRecDepth 100000 in
set_option maxHeartbeats 4000000 in
theorem tb_X9_value_33 {q : Int32 × ax_S} {a0 : Option Nat} {a1 : Int32} {a2 : Int32} {a3 : Int32} {a4 : Int32} {a5 : Int32} {b0 : Int32} {s : ax_S} (h : fb_X9_value_33 a0 a1 a2 a3 a4 a5 b0 s = some q) : AW mm_X9_value 71 0 0 33 [(some (av_r a0)), (some (av_i a1)), (some (av_i a2)), (some (av_i a3)), (some (av_i a4)), (some (av_i a5)), none] [av_i b0] s (some (av_i q.1), q.2) := by
  unfold fb_X9_value_33 at h
  refine ax_istore (i := 6) (L2 := [some (av_r a0), some (av_i a1), some (av_i a2), some (av_i a3), some (av_i a4), some (av_i a5), some (av_i b0)]) dX9_value_33 (by decide) rfl rfl ?_
  refine ax_aload_n (i := 0) dX9_value_35 rfl rfl ?_
  obtain ⟨r1, gr1, h⟩ := Option.bind_eq_some_iff.mp h
  refine ax_getR (q := (RX9, TX9, 6)) (t := 6) (k := 0) dX9_value_36 rfl (by decide) wd_213 rfl gr1 ?_
  refine ax_iload_n (i := 1) dX9_value_39 rfl rfl ?_
  obtain ⟨w2, gw2, h⟩ := Option.bind_eq_some_iff.mp h
  obtain ⟨q3, gq3, h⟩ := Option.bind_eq_some_iff.mp h
  refine ax_cV (As := [av_i a1]) (t := 1) dX9_value_40 gw2 (th_X1_has gq3) rfl (And.intro wd_256 wd_19) wd_268 wd_254 wd_255 cy_X1_has (by omega) (by decide) (Nat.le_of_ble_eq_true rfl) rfl ?_
  refine ax_if_eq (tgt := 58) dX9_value_43 (by decide) (fun c4 => ?_) (fun c4 => ?_)
  · rw [if_pos c4] at h
    refine ax_sipush (v := (-1001)) dX9_value_58 rfl ?_
    exact ax_reti dX9_value_61 h
  · rw [if_neg c4] at h
    refine ax_iload_n (i := 2) dX9_value_46 rfl rfl ?_
    obtain ⟨q5, gq5, h⟩ := Option.bind_eq_some_iff.mp h
    refine ax_cS (As := [av_i a2]) dX9_value_47 (th_X9_isFrame gq5) (And.intro wd_345 wd_18) wd_343 wd_344 cy_X9_isFrame (by omega) (by decide) (Nat.le_of_ble_eq_true rfl) rfl ?_
    refine ax_if_eq (tgt := 58) dX9_value_50 (by decide) (fun c6 => ?_) (fun c6 => ?_)
    · rw [if_pos c6] at h
      refine ax_sipush (v := (-1001)) dX9_value_58 rfl ?_
      exact ax_reti dX9_value_61 h
    · rw [if_neg c6] at h
      refine ax_iload (i := 6) dX9_value_53 rfl ?_
      refine ax_if_ne (tgt := 62) dX9_value_55 (by decide) (fun c7 => ?_) (fun c7 => ?_)
      · rw [if_neg c7] at h
        refine ax_aload_n (i := 0) dX9_value_62 rfl rfl ?_
        refine ax_iload_n (i := 1) dX9_value_63 rfl rfl ?_
        refine ax_iload_n (i := 2) dX9_value_64 rfl rfl ?_
        refine ax_iconst (v := (0)) dX9_value_65 rfl ?_
        obtain ⟨w8, gw8, h⟩ := Option.bind_eq_some_iff.mp h
        obtain ⟨q9, gq9, h⟩ := Option.bind_eq_some_iff.mp h
        refine ax_cV (As := [av_i a1, av_i a2, av_i (0)]) (t := 6) dX9_value_66 gw8 (th_X9_ask gq9) rfl (And.intro wd_358 wd_18) wd_355 wd_357 wd_4 cy_X9_ask (by omega) (by decide) (Nat.le_of_ble_eq_true rfl) rfl ?_
        refine ax_iload (i := 5) dX9_value_69 rfl ?_
        refine ax_bipush (v := (32)) dX9_value_71 rfl ?_
        refine ax_imul dX9_value_73 ?_
        refine ax_iload (i := 4) dX9_value_74 rfl ?_
        refine ax_bipush (v := (8)) dX9_value_76 rfl ?_
        refine ax_imul dX9_value_78 ?_
        refine ax_iadd dX9_value_79 ?_
        refine ax_iload_n (i := 3) dX9_value_80 rfl rfl ?_
        refine ax_iadd dX9_value_81 ?_
        obtain ⟨x10, gx10, h⟩ := Option.bind_eq_some_iff.mp h
        refine ax_iald dX9_value_82 gx10 ?_
        exact ax_reti dX9_value_83 h
      · rw [if_pos c7] at h
        refine ax_sipush (v := (-1001)) dX9_value_58 rfl ?_
        exact ax_reti dX9_value_61 h
def fb_X9_value_32 (a0 : Option Nat) (a1 : Int32) (a2 : Int32) (a3 : Int32) (a4 : Int32) (a5 : Int32) (s : ax_S) : Option (Int32 × ax_S) :=
  fb_X9_value_33 a0 a1 a2 a3 a4 a5 (0) s
set_option maxRecDepth 100000 in
set_option maxHeartbeats 4000000 in
theorem tb_X9_value_32 {q : Int32 × ax_S} {a0 : Option Nat} {a1 : Int32} {a2 : Int32} {a3 : Int32} {a4 : Int32} {a5 : Int32} {s : ax_S} (h : fb_X9_value_32 a0 a1 a2 a3 a4 a5 s = some q) : AW mm_X9_value 71 0 0 32 [(some (av_r a0)), (some (av_i a1)), (some (av_i a2)), (some (av_i a3)), (some (av_i a4)), (some (av_i a5)), none] [] s (some (av_i q.1), q.2) := by
  unfold fb_X9_value_32 at h
  refine ax_iconst (v := (0)) dX9_value_32 rfl ?_
  exact ax_less (L' := [(some (av_r a0)), (some (av_i a1)), (some (av_i a2)), (some (av_i a3)), (some (av_i a4)), (some (av_i a5)), none]) ⟨rfl, rfl, rfl, rfl, rfl, rfl, trivial⟩ (tb_X9_value_33  h)
def fn_X9_value (a0 : Option Nat) (a1 : Int32) (a2 : Int32) (a3 : Int32) (a4 : Int32) (a5 : Int32) (s : ax_S) : Option (Int32 × ax_S) :=
  (fn_X9_isIn a3 (0) (7) s).bind fun q11 =>
  if q11.1 = 0 then
    fb_X9_value_32 a0 a1 a2 a3 a4 a5 q11.2
  else
    (fn_X9_isIn a4 (0) (3) q11.2).bind fun q13 =>
    if q13.1 = 0 then
      fb_X9_value_32 a0 a1 a2 a3 a4 a5 q13.2
    else
      (fn_X9_isChannel a5 q13.2).bind fun q15 =>
      if q15.1 = 0 then
        fb_X9_value_32 a0 a1 a2 a3 a4 a5 q15.2
      else
        fb_X9_value_33 a0 a1 a2 a3 a4 a5 (1) q15.2
set_option maxRecDepth 100000 in
set_option maxHeartbeats 4000000 in
theorem tw_X9_value {q : Int32 × ax_S} {a0 : Option Nat} {a1 : Int32} {a2 : Int32} {a3 : Int32} {a4 : Int32} {a5 : Int32} {s : ax_S} (h : fn_X9_value a0 a1 a2 a3 a4 a5 s = some q) : AW mm_X9_value 71 0 0 0 [some (av_r a0), some (av_i a1), some (av_i a2), some (av_i a3), some (av_i a4), some (av_i a5), none] [] s (some (av_i q.1), q.2) := by
  unfold fn_X9_value at h
  refine ax_iload_n (i := 3) dX9_value_0 rfl rfl ?_
  refine ax_iconst (v := (0)) dX9_value_1 rfl ?_
  refine ax_bipush (v := (7)) dX9_value_2 rfl ?_
  obtain ⟨q11, gq11, h⟩ := Option.bind_eq_some_iff.mp h
  refine ax_cS (As := [av_i a3, av_i (0), av_i (7)]) dX9_value_4 (th_X9_isIn gq11) (And.intro wd_259 wd_18) wd_280 wd_258 cy_X9_isIn (by omega) (by decide) (Nat.le_of_ble_eq_true rfl) rfl ?_
  refine ax_if_eq (tgt := 32) dX9_value_7 (by decide) (fun c12 => ?_) (fun c12 => ?_)
  · rw [if_pos c12] at h
    exact ax_less (L' := [(some (av_r a0)), (some (av_i a1)), (some (av_i a2)), (some (av_i a3)), (some (av_i a4)), (some (av_i a5)), none]) ⟨rfl, rfl, rfl, rfl, rfl, rfl, trivial⟩ (tb_X9_value_32  h)
  · rw [if_neg c12] at h
    refine ax_iload (i := 4) dX9_value_10 rfl ?_
    refine ax_iconst (v := (0)) dX9_value_12 rfl ?_
    refine ax_iconst (v := (3)) dX9_value_13 rfl ?_
    obtain ⟨q13, gq13, h⟩ := Option.bind_eq_some_iff.mp h
    refine ax_cS (As := [av_i a4, av_i (0), av_i (3)]) dX9_value_14 (th_X9_isIn gq13) (And.intro wd_259 wd_18) wd_280 wd_258 cy_X9_isIn (by omega) (by decide) (Nat.le_of_ble_eq_true rfl) rfl ?_
    refine ax_if_eq (tgt := 32) dX9_value_17 (by decide) (fun c14 => ?_) (fun c14 => ?_)
    · rw [if_pos c14] at h
      exact ax_less (L' := [(some (av_r a0)), (some (av_i a1)), (some (av_i a2)), (some (av_i a3)), (some (av_i a4)), (some (av_i a5)), none]) ⟨rfl, rfl, rfl, rfl, rfl, rfl, trivial⟩ (tb_X9_value_32  h)
    · rw [if_neg c14] at h
      refine ax_iload (i := 5) dX9_value_20 rfl ?_
      obtain ⟨q15, gq15, h⟩ := Option.bind_eq_some_iff.mp h
      refine ax_cS (As := [av_i a5]) dX9_value_22 (th_X9_isChannel gq15) (And.intro wd_679 wd_18) wd_677 wd_678 cy_X9_isChannel (by omega) (by decide) (Nat.le_of_ble_eq_true rfl) rfl ?_
      refine ax_if_eq (tgt := 32) dX9_value_25 (by decide) (fun c16 => ?_) (fun c16 => ?_)
      · rw [if_pos c16] at h
        exact ax_less (L' := [(some (av_r a0)), (some (av_i a1)), (some (av_i a2)), (some (av_i a3)), (some (av_i a4)), (some (av_i a5)), none]) ⟨rfl, rfl, rfl, rfl, rfl, rfl, trivial⟩ (tb_X9_value_32  h)
      · rw [if_neg c16] at h
        refine ax_iconst (v := (1)) dX9_value_28 rfl ?_
        refine ax_goto (tgt := 33) dX9_value_29 (by decide) ?_
        exact ax_less (L' := [(some (av_r a0)), (some (av_i a1)), (some (av_i a2)), (some (av_i a3)), (some (av_i a4)), (some (av_i a5)), none]) ⟨rfl, rfl, rfl, rfl, rfl, rfl, trivial⟩ (tb_X9_value_33  h)
set_option maxRecDepth 100000 in
set_option maxHeartbeats 4000000 in
theorem th_X9_value {q : Int32 × ax_S} {a0 : Option Nat} {a1 : Int32} {a2 : Int32} {a3 : Int32} {a4 : Int32} {a5 : Int32} {s : ax_S} (h : fn_X9_value a0 a1 a2 a3 a4 a5 s = some q) : AC mm_X9_value yX9_value 71 0 0 [av_r a0, av_i a1, av_i a2, av_i a3, av_i a4, av_i a5] s (some (av_i q.1), q.2) := by
  exact ax_met (L0 := [some (av_r a0), some (av_i a1), some (av_i a2), some (av_i a3), some (av_i a4), some (av_i a5), none]) (by decide +kernel) rfl (fun h => absurd h (by decide)) ⟨rfl, rfl, rfl, rfl, rfl, rfl, trivial⟩ (Nat.le_of_ble_eq_true rfl) trivial (tw_X9_value h)
/-! X9_build -/
abbrev mm_X9_build : ax_M := (RX9, cX9_build, (some .int), 2, false)
def fn_X9_build (a0 : Option Nat) (s : ax_S) : Option (Int32 × ax_S) :=
  (ax_gr s 6 2 a0).bind fun r1 =>
  (ax_gr s 6 0 a0).bind fun r2 =>
  (ax_gi s 1 1 r2).bind fun x3 =>
  (ax_sh s 4 r1).bind fun w4 =>
  (fn_X6_read r1 x3 s).bind fun q5 =>
  (ax_gr q5.2 6 2 a0).bind fun r6 =>
  (ax_gi q5.2 4 6 r6).bind fun x7 =>
  if x7 = 0 then
    (ax_gr q5.2 6 0 a0).bind fun r9 =>
    (ax_gi q5.2 1 1 r9).bind fun x10 =>
    (ax_gr q5.2 6 2 a0).bind fun r11 =>
    (ax_gi q5.2 4 3 r11).bind fun x12 =>
    if (x10 + x12) ≤ (12) then
      (ax_gr q5.2 6 0 a0).bind fun r14 =>
      (ax_gr q5.2 6 2 a0).bind fun r15 =>
      (ax_gr q5.2 4 2 r15).bind fun r16 =>
      (ax_gr q5.2 6 2 a0).bind fun r17 =>
      (ax_gi q5.2 4 3 r17).bind fun x18 =>
      (ax_sh q5.2 1 r14).bind fun w19 =>
      (fn_X1_addAll r14 r16 x18 q5.2).bind fun q20 =>
      some (q5.1, q20)
    else
      some ((-1004), q5.2)
  else
    some ((-1003), q5.2)
set_option maxRecDepth 100000 in
set_option maxHeartbeats 4000000 in
theorem tw_X9_build {q : Int32 × ax_S} {a0 : Option Nat} {s : ax_S} (h : fn_X9_build a0 s = some q) : AW mm_X9_build 52 0 0 0 [some (av_r a0), none] [] s (some (av_i q.1), q.2) := by
  unfold fn_X9_build at h
  refine ax_aload_n (i := 0) dX9_build_0 rfl rfl ?_
  obtain ⟨r1, gr1, h⟩ := Option.bind_eq_some_iff.mp h
  refine ax_getR (q := (RX9, TX9, 6)) (t := 6) (k := 2) dX9_build_1 rfl (by decide) wd_215 rfl gr1 ?_
  refine ax_aload_n (i := 0) dX9_build_4 rfl rfl ?_
  obtain ⟨r2, gr2, h⟩ := Option.bind_eq_some_iff.mp h
  refine ax_getR (q := (RX9, TX9, 6)) (t := 6) (k := 0) dX9_build_5 rfl (by decide) wd_213 rfl gr2 ?_
  obtain ⟨x3, gx3, h⟩ := Option.bind_eq_some_iff.mp h
  refine ax_getI (q := (RX1, TX1, 5)) (t := 1) (k := 1) dX9_build_8 rfl (by decide) wd_88 rfl gx3 ?_
  obtain ⟨w4, gw4, h⟩ := Option.bind_eq_some_iff.mp h
  obtain ⟨q5, gq5, h⟩ := Option.bind_eq_some_iff.mp h
  refine ax_cV (As := [av_i x3]) (t := 4) dX9_build_11 gw4 (th_X6_read gq5) rfl (And.intro wd_440 wd_23) wd_437 wd_438 wd_439 cy_X6_read (by omega) (by decide) (Nat.le_of_ble_eq_true rfl) rfl ?_
  refine ax_istore_n (i := 1) (L2 := [some (av_r a0), some (av_i q5.1)]) dX9_build_14 rfl (by decide) rfl rfl ?_
  refine ax_aload_n (i := 0) dX9_build_15 rfl rfl ?_
  obtain ⟨r6, gr6, h⟩ := Option.bind_eq_some_iff.mp h
  refine ax_getR (q := (RX9, TX9, 6)) (t := 6) (k := 2) dX9_build_16 rfl (by decide) wd_215 rfl gr6 ?_
  obtain ⟨x7, gx7, h⟩ := Option.bind_eq_some_iff.mp h
  refine ax_getI (q := (RX6, TX6, 7)) (t := 4) (k := 6) dX9_build_19 rfl (by decide) wd_196 rfl gx7 ?_
  refine ax_if_eq (tgt := 29) dX9_build_22 (by decide) (fun c8 => ?_) (fun c8 => ?_)
  · rw [if_pos c8] at h
    refine ax_aload_n (i := 0) dX9_build_29 rfl rfl ?_
    obtain ⟨r9, gr9, h⟩ := Option.bind_eq_some_iff.mp h
    refine ax_getR (q := (RX9, TX9, 6)) (t := 6) (k := 0) dX9_build_30 rfl (by decide) wd_213 rfl gr9 ?_
    obtain ⟨x10, gx10, h⟩ := Option.bind_eq_some_iff.mp h
    refine ax_getI (q := (RX1, TX1, 5)) (t := 1) (k := 1) dX9_build_33 rfl (by decide) wd_88 rfl gx10 ?_
    refine ax_aload_n (i := 0) dX9_build_36 rfl rfl ?_
    obtain ⟨r11, gr11, h⟩ := Option.bind_eq_some_iff.mp h
    refine ax_getR (q := (RX9, TX9, 6)) (t := 6) (k := 2) dX9_build_37 rfl (by decide) wd_215 rfl gr11 ?_
    obtain ⟨x12, gx12, h⟩ := Option.bind_eq_some_iff.mp h
    refine ax_getI (q := (RX6, TX6, 7)) (t := 4) (k := 3) dX9_build_40 rfl (by decide) wd_192 rfl gx12 ?_
    refine ax_iadd dX9_build_43 ?_
    refine ax_bipush (v := (12)) dX9_build_44 rfl ?_
    refine ax_icmp_le (tgt := 53) dX9_build_46 (by decide) (fun c13 => ?_) (fun c13 => ?_)
    · rw [if_pos c13] at h
      refine ax_aload_n (i := 0) dX9_build_53 rfl rfl ?_
      obtain ⟨r14, gr14, h⟩ := Option.bind_eq_some_iff.mp h
      refine ax_getR (q := (RX9, TX9, 6)) (t := 6) (k := 0) dX9_build_54 rfl (by decide) wd_213 rfl gr14 ?_
      refine ax_aload_n (i := 0) dX9_build_57 rfl rfl ?_
      obtain ⟨r15, gr15, h⟩ := Option.bind_eq_some_iff.mp h
      refine ax_getR (q := (RX9, TX9, 6)) (t := 6) (k := 2) dX9_build_58 rfl (by decide) wd_215 rfl gr15 ?_
      obtain ⟨r16, gr16, h⟩ := Option.bind_eq_some_iff.mp h
      refine ax_getR (q := (RX6, TX6, 7)) (t := 4) (k := 2) dX9_build_61 rfl (by decide) wd_190 rfl gr16 ?_
      refine ax_aload_n (i := 0) dX9_build_64 rfl rfl ?_
      obtain ⟨r17, gr17, h⟩ := Option.bind_eq_some_iff.mp h
      refine ax_getR (q := (RX9, TX9, 6)) (t := 6) (k := 2) dX9_build_65 rfl (by decide) wd_215 rfl gr17 ?_
      obtain ⟨x18, gx18, h⟩ := Option.bind_eq_some_iff.mp h
      refine ax_getI (q := (RX6, TX6, 7)) (t := 4) (k := 3) dX9_build_68 rfl (by decide) wd_192 rfl gx18 ?_
      obtain ⟨w19, gw19, h⟩ := Option.bind_eq_some_iff.mp h
      obtain ⟨q20, gq20, h⟩ := Option.bind_eq_some_iff.mp h
      refine ax_cV (As := [av_r r16, av_i x18]) (t := 1) dX9_build_71 gw19 (th_X1_addAll gq20) rfl (And.intro wd_583 wd_19) wd_580 wd_581 wd_582 cy_X1_addAll (by omega) (by decide) (Nat.le_of_ble_eq_true rfl) rfl ?_
      refine ax_iload_n (i := 1) dX9_build_74 rfl rfl ?_
      exact ax_reti dX9_build_75 h
    · rw [if_neg c13] at h
      refine ax_sipush (v := (-1004)) dX9_build_49 rfl ?_
      exact ax_reti dX9_build_52 h
  · rw [if_neg c8] at h
    refine ax_sipush (v := (-1003)) dX9_build_25 rfl ?_
    exact ax_reti dX9_build_28 h
set_option maxRecDepth 100000 in
set_option maxHeartbeats 4000000 in
theorem th_X9_build {q : Int32 × ax_S} {a0 : Option Nat} {s : ax_S} (h : fn_X9_build a0 s = some q) : AC mm_X9_build yX9_build 52 0 0 [av_r a0] s (some (av_i q.1), q.2) := by
  exact ax_met (L0 := [some (av_r a0), none]) (by decide +kernel) rfl (fun h => absurd h (by decide)) ⟨rfl, trivial⟩ (Nat.le_of_ble_eq_true rfl) trivial (tw_X9_build h)
/-! X9_clear -/
abbrev mm_X9_clear : ax_M := (RX9, cX9_clear, (some .int), 2, false)
def fn_X9_clear (a0 : Option Nat) (s : ax_S) : Option (Int32 × ax_S) :=
  (ax_gr s 6 0 a0).bind fun r1 =>
  (ax_gi s 1 1 r1).bind fun x2 =>
  (ax_gr s 6 0 a0).bind fun r3 =>
  (ax_sh s 1 r3).bind fun w4 =>
  (fn_X1_removeAll r3 s).bind fun q5 =>
  (ax_gr q5 6 1 a0).bind fun r6 =>
  (ax_sh q5 0 r6).bind fun w7 =>
  (fn_X0_empty r6 q5).bind fun q8 =>
  some (x2, q8)
set_option maxRecDepth 100000 in
set_option maxHeartbeats 4000000 in
theorem tw_X9_clear {q : Int32 × ax_S} {a0 : Option Nat} {s : ax_S} (h : fn_X9_clear a0 s = some q) : AW mm_X9_clear 1 0 0 0 [some (av_r a0), none] [] s (some (av_i q.1), q.2) := by
  unfold fn_X9_clear at h
  refine ax_aload_n (i := 0) dX9_clear_0 rfl rfl ?_
  obtain ⟨r1, gr1, h⟩ := Option.bind_eq_some_iff.mp h
  refine ax_getR (q := (RX9, TX9, 6)) (t := 6) (k := 0) dX9_clear_1 rfl (by decide) wd_213 rfl gr1 ?_
  obtain ⟨x2, gx2, h⟩ := Option.bind_eq_some_iff.mp h
  refine ax_getI (q := (RX1, TX1, 5)) (t := 1) (k := 1) dX9_clear_4 rfl (by decide) wd_88 rfl gx2 ?_
  refine ax_istore_n (i := 1) (L2 := [some (av_r a0), some (av_i x2)]) dX9_clear_7 rfl (by decide) rfl rfl ?_
  refine ax_aload_n (i := 0) dX9_clear_8 rfl rfl ?_
  obtain ⟨r3, gr3, h⟩ := Option.bind_eq_some_iff.mp h
  refine ax_getR (q := (RX9, TX9, 6)) (t := 6) (k := 0) dX9_clear_9 rfl (by decide) wd_213 rfl gr3 ?_
  obtain ⟨w4, gw4, h⟩ := Option.bind_eq_some_iff.mp h
  obtain ⟨q5, gq5, h⟩ := Option.bind_eq_some_iff.mp h
  refine ax_cV (As := []) (t := 1) dX9_clear_12 gw4 (th_X1_removeAll gq5) rfl (And.intro wd_240 wd_19) wd_237 wd_238 wd_239 cy_X1_removeAll (by omega) (by decide) (Nat.le_of_ble_eq_true rfl) rfl ?_
  refine ax_aload_n (i := 0) dX9_clear_15 rfl rfl ?_
  obtain ⟨r6, gr6, h⟩ := Option.bind_eq_some_iff.mp h
  refine ax_getR (q := (RX9, TX9, 6)) (t := 6) (k := 1) dX9_clear_16 rfl (by decide) wd_214 rfl gr6 ?_
  obtain ⟨w7, gw7, h⟩ := Option.bind_eq_some_iff.mp h
  obtain ⟨q8, gq8, h⟩ := Option.bind_eq_some_iff.mp h
  refine ax_cV (As := []) (t := 0) dX9_clear_19 gw7 (th_X0_empty gq8) rfl (And.intro wd_244 wd_21) wd_241 wd_242 wd_243 cy_X0_empty (by omega) (by decide) (Nat.le_of_ble_eq_true rfl) rfl ?_
  refine ax_iload_n (i := 1) dX9_clear_22 rfl rfl ?_
  exact ax_reti dX9_clear_23 h
set_option maxRecDepth 100000 in
set_option maxHeartbeats 4000000 in
theorem th_X9_clear {q : Int32 × ax_S} {a0 : Option Nat} {s : ax_S} (h : fn_X9_clear a0 s = some q) : AC mm_X9_clear yX9_clear 1 0 0 [av_r a0] s (some (av_i q.1), q.2) := by
  exact ax_met (L0 := [some (av_r a0), none]) (by decide +kernel) rfl (fun h => absurd h (by decide)) ⟨rfl, trivial⟩ (Nat.le_of_ble_eq_true rfl) trivial (tw_X9_clear h)
/-! X9_init -/
abbrev mm_X9_init : ax_M := (RX9, cX9_init, none, 2, true)
def fb_X9_init_62 : Nat → Option Nat → Int32 → ax_S → Option (ax_S)
  | 0, _, _, _ => none
  | n + 1, a0, a1, s =>
    if (2) ≤ a1 then
      some s
    else
      (ax_gr s 6 3 a0).bind fun r2 =>
      ax_bd (ax_nw s 1 5) fun s3 =>
      ax_bd (some s.1.length) fun r4 =>
      (ax_sh s3 1 r4).bind fun w5 =>
      (fn_X1_init r4 s3).bind fun q6 =>
      (ax_aw q6 11 r2 a1 r4).bind fun s7 =>
      (fb_X9_init_62 n) a0 (a1 + (1)) s7
set_option maxRecDepth 100000 in
set_option maxHeartbeats 4000000 in
theorem tb_X9_init_62 {q : ax_S} : ∀ (n : Nat) (a0 : Option Nat) (a1 : Int32) (s : ax_S) (h : fb_X9_init_62 n a0 a1 s = some q), AW mm_X9_init 3 (n * 185) (n * 773) 62 [(some (av_r a0)), (some (av_i a1))] [] s (none, q) := by
  intro n
  induction n with
  | zero =>
    intro a0 a1 s h
    exact ax_no h
  | succ n ih =>
    intro a0 a1 s h
    unfold fb_X9_init_62 at h
    refine ax_wide (bc2 := n * 185 + 185) (bs2 := n * 773 + 773) (by rw [Nat.succ_mul]; exact Nat.le_refl _) (by rw [Nat.succ_mul]; exact Nat.le_refl _) ?_
    refine ax_iload_n (i := 1) dX9_init_62 rfl rfl ?_
    refine ax_iconst (v := (2)) dX9_init_63 rfl ?_
    refine ax_icmp_ge (tgt := 86) dX9_init_64 (by decide) (fun c1 => ?_) (fun c1 => ?_)
    · rw [if_pos c1] at h
      exact ax_retv dX9_init_86 h
    · rw [if_neg c1] at h
      refine ax_aload_n (i := 0) dX9_init_67 rfl rfl ?_
      obtain ⟨r2, gr2, h⟩ := Option.bind_eq_some_iff.mp h
      refine ax_getR (q := (RX9, TX9, 6)) (t := 6) (k := 3) dX9_init_68 rfl (by decide) wd_216 rfl gr2 ?_
      refine ax_iload_n (i := 1) dX9_init_71 rfl rfl ?_
      refine ax_newO (t := 1) (q := (RX1, TX1, 5)) (bc := n * 185 + 184) (bs := n * 773 + 768) dX9_init_72 rfl wd_44 wd_45 wd_19 (by decide +kernel) ?_
      refine ax_bdS h (fun s3 h => ?_)
      refine ax_bdR h (fun r4 h => ?_)
      refine ax_dup dX9_init_75 trivial ?_
      obtain ⟨w5, gw5, h⟩ := Option.bind_eq_some_iff.mp h
      obtain ⟨q6, gq6, h⟩ := Option.bind_eq_some_iff.mp h
      refine ax_cI (As := []) (t := 1) (bc := n * 185 + 0) (bs := n * 773 + 0) (kc := 184) (ks := 768) dX9_init_76 gw5 (th_X1_init gq6) rfl rfl (And.intro wd_48 wd_19) wd_46 wd_47 cy_X1_init (by omega) (by decide) (Nat.le_of_ble_eq_true rfl) rfl ?_
      obtain ⟨s7, gs7, h⟩ := Option.bind_eq_some_iff.mp h
      refine ax_aast (t := 11) (by decide) rfl dX9_init_79 gs7 ?_
      refine ax_iinc (i := 1) (v := (a1 + (1))) (L2 := [some (av_r a0), some (av_i (a1 + (1)))]) dX9_init_80 rfl rfl (by decide) rfl rfl ?_
      refine ax_goto (tgt := 62) dX9_init_83 (by decide) ?_
      refine ax_wide (bc2 := n * 185) (bs2 := n * 773) (by omega) (by omega) ?_
      exact ax_less (L' := [(some (av_r a0)), (some (av_i (a1 + (1))))]) ⟨rfl, rfl, trivial⟩ (ih _ _ _ h)
def fn_X9_init (a0 : Option Nat) (s : ax_S) : Option (ax_S) :=
  (ax_sh s 6 a0).bind fun w8 =>
  ax_bd (ax_nw s 1 5) fun s9 =>
  ax_bd (some s.1.length) fun r10 =>
  (ax_sh s9 1 r10).bind fun w11 =>
  (fn_X1_init r10 s9).bind fun q12 =>
  (ax_pr q12 6 0 a0 r10).bind fun s13 =>
  ax_bd (ax_nw s13 0 8) fun s14 =>
  ax_bd (some s13.1.length) fun r15 =>
  (ax_sh s14 0 r15).bind fun w16 =>
  (fn_X0_init r15 s14).bind fun q17 =>
  (ax_pr q17 6 1 a0 r15).bind fun s18 =>
  ax_bd (ax_nw s18 4 7) fun s19 =>
  ax_bd (some s18.1.length) fun r20 =>
  (ax_sh s19 4 r20).bind fun w21 =>
  (fn_X6_init r20 s19).bind fun q22 =>
  (ax_pr q22 6 2 a0 r20).bind fun s23 =>
  ax_bd (ax_nw s23 11 2) fun s24 =>
  ax_bd (some s23.1.length) fun r25 =>
  (ax_pr s24 6 3 a0 r25).bind fun s26 =>
  ax_bd (ax_nw s26 10 2) fun s27 =>
  ax_bd (some s26.1.length) fun r28 =>
  (ax_pr s27 6 4 a0 r28).bind fun s29 =>
  ax_bd (ax_nw s29 9 96) fun s30 =>
  ax_bd (some s29.1.length) fun r31 =>
  (ax_pr s30 6 5 a0 r31).bind fun s32 =>
  fb_X9_init_62 60 a0 (0) s32
set_option maxRecDepth 100000 in
set_option maxHeartbeats 4000000 in
theorem tw_X9_init {q : ax_S} {a0 : Option Nat} {s : ax_S} (h : fn_X9_init a0 s = some q) : AW mm_X9_init 3 11595 54134 0 [some (av_r a0), none] [] s (none, q) := by
  unfold fn_X9_init at h
  refine ax_aload_n (i := 0) dX9_init_0 rfl rfl ?_
  obtain ⟨w8, gw8, h⟩ := Option.bind_eq_some_iff.mp h
  refine ax_cO dX9_init_1 gw8 wd_41 wd_42 wd_43 (by omega) (Nat.le_of_ble_eq_true rfl) ?_
  refine ax_aload_n (i := 0) dX9_init_4 rfl rfl ?_
  refine ax_newO (t := 1) (q := (RX1, TX1, 5)) (bc := 11594) (bs := 54129) dX9_init_5 rfl wd_44 wd_45 wd_19 (by decide +kernel) ?_
  refine ax_bdS h (fun s9 h => ?_)
  refine ax_bdR h (fun r10 h => ?_)
  refine ax_dup dX9_init_8 trivial ?_
  obtain ⟨w11, gw11, h⟩ := Option.bind_eq_some_iff.mp h
  obtain ⟨q12, gq12, h⟩ := Option.bind_eq_some_iff.mp h
  refine ax_cI (As := []) (t := 1) (bc := 11410) (bs := 53361) (kc := 184) (ks := 768) dX9_init_9 gw11 (th_X1_init gq12) rfl rfl (And.intro wd_48 wd_19) wd_46 wd_47 cy_X1_init (by omega) (by decide) (Nat.le_of_ble_eq_true rfl) rfl ?_
  obtain ⟨s13, gs13, h⟩ := Option.bind_eq_some_iff.mp h
  refine ax_putRF (q := (RX9, TX9, 6)) (t := 6) (k := 0) dX9_init_12 rfl (by decide) wd_213 rfl rfl rfl rfl (fun w => by cases w <;> exact ⟨rfl, rfl⟩) gs13 ?_
  refine ax_aload_n (i := 0) dX9_init_15 rfl rfl ?_
  refine ax_newO (t := 0) (q := (RX0, TX0, 8)) (bc := 11409) (bs := 53353) dX9_init_16 rfl wd_105 wd_106 wd_21 (by decide +kernel) ?_
  refine ax_bdS h (fun s14 h => ?_)
  refine ax_bdR h (fun r15 h => ?_)
  refine ax_dup dX9_init_19 trivial ?_
  obtain ⟨w16, gw16, h⟩ := Option.bind_eq_some_iff.mp h
  obtain ⟨q17, gq17, h⟩ := Option.bind_eq_some_iff.mp h
  refine ax_cI (As := []) (t := 0) (bc := 11288) (bs := 47305) (kc := 121) (ks := 6048) dX9_init_20 gw16 (th_X0_init gq17) rfl rfl (And.intro wd_109 wd_21) wd_107 wd_108 cy_X0_init (by omega) (by decide) (Nat.le_of_ble_eq_true rfl) rfl ?_
  obtain ⟨s18, gs18, h⟩ := Option.bind_eq_some_iff.mp h
  refine ax_putRF (q := (RX9, TX9, 6)) (t := 6) (k := 1) dX9_init_23 rfl (by decide) wd_214 rfl rfl rfl rfl (fun w => by cases w <;> exact ⟨rfl, rfl⟩) gs18 ?_
  refine ax_aload_n (i := 0) dX9_init_26 rfl rfl ?_
  refine ax_newO (t := 4) (q := (RX6, TX6, 7)) (bc := 11287) (bs := 47298) dX9_init_27 rfl wd_163 wd_164 wd_23 (by decide +kernel) ?_
  refine ax_bdS h (fun s19 h => ?_)
  refine ax_bdR h (fun r20 h => ?_)
  refine ax_dup dX9_init_30 trivial ?_
  obtain ⟨w21, gw21, h⟩ := Option.bind_eq_some_iff.mp h
  obtain ⟨q22, gq22, h⟩ := Option.bind_eq_some_iff.mp h
  refine ax_cI (As := []) (t := 4) (bc := 11103) (bs := 46480) (kc := 184) (ks := 818) dX9_init_31 gw21 (th_X6_init gq22) rfl rfl (And.intro wd_167 wd_23) wd_165 wd_166 cy_X6_init (by omega) (by decide) (Nat.le_of_ble_eq_true rfl) rfl ?_
  obtain ⟨s23, gs23, h⟩ := Option.bind_eq_some_iff.mp h
  refine ax_putRF (q := (RX9, TX9, 6)) (t := 6) (k := 2) dX9_init_34 rfl (by decide) wd_215 rfl rfl rfl rfl (fun w => by cases w <;> exact ⟨rfl, rfl⟩) gs23 ?_
  refine ax_aload_n (i := 0) dX9_init_37 rfl rfl ?_
  refine ax_iconst (v := (2)) dX9_init_38 rfl ?_
  refine ax_newR (t := 11) (n := 2) (bc := 11102) (bs := 46478) dX9_init_39 (by decide) rfl wd_44 (by decide) (by decide) (by decide) (by decide) ?_
  refine ax_bdS h (fun s24 h => ?_)
  refine ax_bdR h (fun r25 h => ?_)
  obtain ⟨s26, gs26, h⟩ := Option.bind_eq_some_iff.mp h
  refine ax_putRF (q := (RX9, TX9, 6)) (t := 6) (k := 3) dX9_init_42 rfl (by decide) wd_216 rfl rfl rfl rfl (fun w => by cases w <;> exact ⟨rfl, rfl⟩) gs26 ?_
  refine ax_aload_n (i := 0) dX9_init_45 rfl rfl ?_
  refine ax_iconst (v := (2)) dX9_init_46 rfl ?_
  refine ax_newA (t := 10) (n := 2) (bc := 11101) (bs := 46476) dX9_init_47 (by decide) rfl wd_232 (by decide) (by decide) (by decide) ?_
  refine ax_bdS h (fun s27 h => ?_)
  refine ax_bdR h (fun r28 h => ?_)
  obtain ⟨s29, gs29, h⟩ := Option.bind_eq_some_iff.mp h
  refine ax_putRF (q := (RX9, TX9, 6)) (t := 6) (k := 4) dX9_init_49 rfl (by decide) wd_217 rfl rfl rfl rfl (fun w => by cases w <;> exact ⟨rfl, rfl⟩) gs29 ?_
  refine ax_aload_n (i := 0) dX9_init_52 rfl rfl ?_
  refine ax_bipush (v := (96)) dX9_init_53 rfl ?_
  refine ax_newA (t := 9) (n := 96) (bc := 11100) (bs := 46380) dX9_init_55 (by decide) rfl wd_84 (by decide) (by decide) (by decide) ?_
  refine ax_bdS h (fun s30 h => ?_)
  refine ax_bdR h (fun r31 h => ?_)
  obtain ⟨s32, gs32, h⟩ := Option.bind_eq_some_iff.mp h
  refine ax_putRF (q := (RX9, TX9, 6)) (t := 6) (k := 5) dX9_init_57 rfl (by decide) wd_218 rfl rfl rfl rfl (fun w => by cases w <;> exact ⟨rfl, rfl⟩) gs32 ?_
  refine ax_iconst (v := (0)) dX9_init_60 rfl ?_
  refine ax_istore_n (i := 1) (L2 := [some (av_r a0), some (av_i (0))]) dX9_init_61 rfl (by decide) rfl rfl ?_
  refine ax_wide (bc2 := 11100) (bs2 := 46380) (by omega) (by omega) ?_
  exact ax_less (L' := [(some (av_r a0)), (some (av_i (0)))]) ⟨rfl, rfl, trivial⟩ (tb_X9_init_62  _ _ _ _ h)
set_option maxRecDepth 100000 in
set_option maxHeartbeats 4000000 in
theorem th_X9_init {q : ax_S} {a0 : Option Nat} {s : ax_S} (h : fn_X9_init a0 s = some q) : AC mm_X9_init yX9_init 3 11595 54134 [av_r a0] s (none, q) := by
  exact ax_met (L0 := [some (av_r a0), none]) (by decide +kernel) rfl (fun _ => rfl) ⟨rfl, trivial⟩ (Nat.le_of_ble_eq_true rfl) trivial (tw_X9_init h)
