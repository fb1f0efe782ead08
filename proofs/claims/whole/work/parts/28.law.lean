/-! L_law -/
abbrev mm_L_law : ax_M := (RL, cL_law, (some .boolean), 4, false)
def fb_L_law_18 : Nat → Option Nat → Option Nat → Option Nat → Int32 → ax_S → Option (Int32 × ax_S)
  | 0, _, _, _, _, _ => none
  | n + 1, a0, a1, a2, a3, s =>
    (ax_ln s 9 a0).bind fun x1 =>
    if (x1 - (6)) < a3 then
      some ((1), s)
    else
      (ax_al s 9 a0 a3).bind fun x3 =>
      ax_bd ((x3 &&& (31))) fun v4 =>
      if v4 = 0 then
        (ax_sh s 6 a1).bind fun w6 =>
        (fn_X9_clear a1 s).bind fun q7 =>
        (ax_sh q7.2 7 a2).bind fun w8 =>
        (fn_X10_clear a2 q7.2).bind fun q9 =>
        if q7.1 = q9.1 then
          (fb_L_law_18 n) a0 a1 a2 (a3 + (6)) q9.2
        else
          some ((0), q9.2)
      else
      if v4 = 1 then
        (ax_al s 9 a0 (a3 + (1))).bind fun x12 =>
        (ax_sh s 6 a1).bind fun w13 =>
        (fn_X9_addNode a1 x12 s).bind fun q14 =>
        (ax_al q14.2 9 a0 (a3 + (1))).bind fun x15 =>
        (ax_sh q14.2 7 a2).bind fun w16 =>
        (fn_X10_addNode a2 x15 q14.2).bind fun q17 =>
        if q14.1 = q17.1 then
          (fb_L_law_18 n) a0 a1 a2 (a3 + (6)) q17.2
        else
          some ((0), q17.2)
      else
      if v4 = 2 then
        (ax_al s 9 a0 (a3 + (1))).bind fun x20 =>
        (ax_al s 9 a0 (a3 + (2))).bind fun x21 =>
        (ax_al s 9 a0 (a3 + (3))).bind fun x22 =>
        (ax_sh s 6 a1).bind fun w23 =>
        (fn_X9_connect a1 x20 x21 x22 s).bind fun q24 =>
        (ax_al q24.2 9 a0 (a3 + (1))).bind fun x25 =>
        (ax_al q24.2 9 a0 (a3 + (2))).bind fun x26 =>
        (ax_al q24.2 9 a0 (a3 + (3))).bind fun x27 =>
        (ax_sh q24.2 7 a2).bind fun w28 =>
        (fn_X10_connect a2 x25 x26 x27 q24.2).bind fun q29 =>
        if q24.1 = q29.1 then
          (fb_L_law_18 n) a0 a1 a2 (a3 + (6)) q29.2
        else
          some ((0), q29.2)
      else
      if v4 = 3 then
        (ax_al s 9 a0 (a3 + (1))).bind fun x32 =>
        (ax_al s 9 a0 (a3 + (2))).bind fun x33 =>
        (ax_al s 9 a0 (a3 + (3))).bind fun x34 =>
        (ax_sh s 6 a1).bind fun w35 =>
        (fn_X9_set a1 x32 x33 x34 s).bind fun q36 =>
        (ax_al q36.2 9 a0 (a3 + (1))).bind fun x37 =>
        (ax_al q36.2 9 a0 (a3 + (2))).bind fun x38 =>
        (ax_al q36.2 9 a0 (a3 + (3))).bind fun x39 =>
        (ax_sh q36.2 7 a2).bind fun w40 =>
        (fn_X10_set a2 x37 x38 x39 q36.2).bind fun q41 =>
        if q36.1 = q41.1 then
          (fb_L_law_18 n) a0 a1 a2 (a3 + (6)) q41.2
        else
          some ((0), q41.2)
      else
      if v4 = 4 then
        (ax_al s 9 a0 (a3 + (1))).bind fun x44 =>
        (ax_al s 9 a0 (a3 + (2))).bind fun x45 =>
        (ax_al s 9 a0 (a3 + (3))).bind fun x46 =>
        (ax_sh s 6 a1).bind fun w47 =>
        (fn_X9_setRange a1 x44 x45 x46 s).bind fun q48 =>
        (ax_al q48.2 9 a0 (a3 + (1))).bind fun x49 =>
        (ax_al q48.2 9 a0 (a3 + (2))).bind fun x50 =>
        (ax_al q48.2 9 a0 (a3 + (3))).bind fun x51 =>
        (ax_sh q48.2 7 a2).bind fun w52 =>
        (fn_X10_setRange a2 x49 x50 x51 q48.2).bind fun q53 =>
        if q48.1 = q53.1 then
          (fb_L_law_18 n) a0 a1 a2 (a3 + (6)) q53.2
        else
          some ((0), q53.2)
      else
      if v4 = 5 then
        (ax_sh s 6 a1).bind fun w56 =>
        (fn_X9_nodes a1 s).bind fun q57 =>
        (ax_sh q57.2 7 a2).bind fun w58 =>
        (fn_X10_nodes a2 q57.2).bind fun q59 =>
        if q57.1 = q59.1 then
          (fb_L_law_18 n) a0 a1 a2 (a3 + (6)) q59.2
        else
          some ((0), q59.2)
      else
      if v4 = 6 then
        (ax_al s 9 a0 (a3 + (1))).bind fun x62 =>
        (ax_al s 9 a0 (a3 + (2))).bind fun x63 =>
        (ax_sh s 6 a1).bind fun w64 =>
        (fn_X9_node a1 x62 x63 s).bind fun q65 =>
        (ax_al q65.2 9 a0 (a3 + (1))).bind fun x66 =>
        (ax_al q65.2 9 a0 (a3 + (2))).bind fun x67 =>
        (ax_sh q65.2 7 a2).bind fun w68 =>
        (fn_X10_node a2 x66 x67 q65.2).bind fun q69 =>
        if q65.1 = q69.1 then
          (fb_L_law_18 n) a0 a1 a2 (a3 + (6)) q69.2
        else
          some ((0), q69.2)
      else
      if v4 = 7 then
        (ax_al s 9 a0 (a3 + (1))).bind fun x72 =>
        (ax_al s 9 a0 (a3 + (2))).bind fun x73 =>
        (ax_sh s 6 a1).bind fun w74 =>
        (fn_X9_input a1 x72 x73 s).bind fun q75 =>
        (ax_al q75.2 9 a0 (a3 + (1))).bind fun x76 =>
        (ax_al q75.2 9 a0 (a3 + (2))).bind fun x77 =>
        (ax_sh q75.2 7 a2).bind fun w78 =>
        (fn_X10_input a2 x76 x77 q75.2).bind fun q79 =>
        if q75.1 = q79.1 then
          (fb_L_law_18 n) a0 a1 a2 (a3 + (6)) q79.2
        else
          some ((0), q79.2)
      else
      if v4 = 8 then
        (ax_al s 9 a0 (a3 + (1))).bind fun x82 =>
        (ax_al s 9 a0 (a3 + (2))).bind fun x83 =>
        (ax_sh s 6 a1).bind fun w84 =>
        (fn_X9_parameter a1 x82 x83 s).bind fun q85 =>
        (ax_al q85.2 9 a0 (a3 + (1))).bind fun x86 =>
        (ax_al q85.2 9 a0 (a3 + (2))).bind fun x87 =>
        (ax_sh q85.2 7 a2).bind fun w88 =>
        (fn_X10_parameter a2 x86 x87 q85.2).bind fun q89 =>
        if q85.1 = q89.1 then
          (fb_L_law_18 n) a0 a1 a2 (a3 + (6)) q89.2
        else
          some ((0), q89.2)
      else
      if v4 = 9 then
        (ax_al s 9 a0 (a3 + (1))).bind fun x92 =>
        (ax_al s 9 a0 (a3 + (2))).bind fun x93 =>
        (ax_al s 9 a0 (a3 + (3))).bind fun x94 =>
        (ax_al s 9 a0 (a3 + (4))).bind fun x95 =>
        (ax_al s 9 a0 (a3 + (5))).bind fun x96 =>
        (ax_sh s 6 a1).bind fun w97 =>
        (fn_X9_value a1 x92 x93 x94 x95 x96 s).bind fun q98 =>
        (ax_al q98.2 9 a0 (a3 + (1))).bind fun x99 =>
        (ax_al q98.2 9 a0 (a3 + (2))).bind fun x100 =>
        (ax_al q98.2 9 a0 (a3 + (3))).bind fun x101 =>
        (ax_al q98.2 9 a0 (a3 + (4))).bind fun x102 =>
        (ax_al q98.2 9 a0 (a3 + (5))).bind fun x103 =>
        (ax_sh q98.2 7 a2).bind fun w104 =>
        (fn_X10_value a2 x99 x100 x101 x102 x103 q98.2).bind fun q105 =>
        if q98.1 = q105.1 then
          (fb_L_law_18 n) a0 a1 a2 (a3 + (6)) q105.2
        else
          some ((0), q105.2)
      else
      if v4 = 10 then
        (ax_al s 9 a0 (a3 + (1))).bind fun x108 =>
        (ax_al s 9 a0 (a3 + (2))).bind fun x109 =>
        (ax_al s 9 a0 (a3 + (3))).bind fun x110 =>
        (ax_al s 9 a0 (a3 + (4))).bind fun x111 =>
        (ax_sh s 6 a1).bind fun w112 =>
        (fn_X9_scope a1 x108 x109 x110 x111 s).bind fun q113 =>
        (ax_al q113.2 9 a0 (a3 + (1))).bind fun x114 =>
        (ax_al q113.2 9 a0 (a3 + (2))).bind fun x115 =>
        (ax_al q113.2 9 a0 (a3 + (3))).bind fun x116 =>
        (ax_al q113.2 9 a0 (a3 + (4))).bind fun x117 =>
        (ax_sh q113.2 7 a2).bind fun w118 =>
        (fn_X10_scope a2 x114 x115 x116 x117 q113.2).bind fun q119 =>
        if q113.1 = q119.1 then
          (fb_L_law_18 n) a0 a1 a2 (a3 + (6)) q119.2
        else
          some ((0), q119.2)
      else
      if v4 = 11 then
        (ax_al s 9 a0 (a3 + (1))).bind fun x122 =>
        (ax_al s 9 a0 (a3 + (2))).bind fun x123 =>
        (ax_al s 9 a0 (a3 + (3))).bind fun x124 =>
        (ax_al s 9 a0 (a3 + (4))).bind fun x125 =>
        (ax_sh s 6 a1).bind fun w126 =>
        (fn_X9_sum a1 x122 x123 x124 x125 s).bind fun q127 =>
        (ax_al q127.2 9 a0 (a3 + (1))).bind fun x128 =>
        (ax_al q127.2 9 a0 (a3 + (2))).bind fun x129 =>
        (ax_al q127.2 9 a0 (a3 + (3))).bind fun x130 =>
        (ax_al q127.2 9 a0 (a3 + (4))).bind fun x131 =>
        (ax_sh q127.2 7 a2).bind fun w132 =>
        (fn_X10_sum a2 x128 x129 x130 x131 q127.2).bind fun q133 =>
        if q127.1 = q133.1 then
          (fb_L_law_18 n) a0 a1 a2 (a3 + (6)) q133.2
        else
          some ((0), q133.2)
      else
      if v4 = 12 then
        (ax_al s 9 a0 (a3 + (1))).bind fun x136 =>
        (ax_al s 9 a0 (a3 + (2))).bind fun x137 =>
        (ax_al s 9 a0 (a3 + (3))).bind fun x138 =>
        (ax_sh s 6 a1).bind fun w139 =>
        (fn_X9_compare a1 x136 x137 x138 s).bind fun q140 =>
        (ax_al q140.2 9 a0 (a3 + (1))).bind fun x141 =>
        (ax_al q140.2 9 a0 (a3 + (2))).bind fun x142 =>
        (ax_al q140.2 9 a0 (a3 + (3))).bind fun x143 =>
        (ax_sh q140.2 7 a2).bind fun w144 =>
        (fn_X10_compare a2 x141 x142 x143 q140.2).bind fun q145 =>
        if q140.1 = q145.1 then
          (fb_L_law_18 n) a0 a1 a2 (a3 + (6)) q145.2
        else
          some ((0), q145.2)
      else
      if v4 = 13 then
        (ax_al s 9 a0 (a3 + (1))).bind fun x148 =>
        (ax_sh s 6 a1).bind fun w149 =>
        (fn_X9_setRoom a1 x148 s).bind fun q150 =>
        (ax_al q150.2 9 a0 (a3 + (1))).bind fun x151 =>
        (ax_sh q150.2 7 a2).bind fun w152 =>
        (fn_X10_setRoom a2 x151 q150.2).bind fun q153 =>
        if q150.1 = q153.1 then
          (fb_L_law_18 n) a0 a1 a2 (a3 + (6)) q153.2
        else
          some ((0), q153.2)
      else
      if v4 = 14 then
        (ax_al s 9 a0 (a3 + (1))).bind fun x156 =>
        (ax_al s 9 a0 (a3 + (2))).bind fun x157 =>
        (ax_sh s 6 a1).bind fun w158 =>
        (fn_X9_isCached a1 x156 x157 s).bind fun q159 =>
        (ax_al q159.2 9 a0 (a3 + (1))).bind fun x160 =>
        (ax_al q159.2 9 a0 (a3 + (2))).bind fun x161 =>
        (ax_sh q159.2 7 a2).bind fun w162 =>
        (fn_X10_isCached a2 x160 x161 q159.2).bind fun q163 =>
        if q159.1 = q163.1 then
          (fb_L_law_18 n) a0 a1 a2 (a3 + (6)) q163.2
        else
          some ((0), q163.2)
      else
      if v4 = 15 then
        (ax_al s 9 a0 (a3 + (1))).bind fun x166 =>
        (ax_sh s 6 a1).bind fun w167 =>
        (fn_X9_count a1 x166 s).bind fun q168 =>
        (ax_al q168.2 9 a0 (a3 + (1))).bind fun x169 =>
        (ax_sh q168.2 7 a2).bind fun w170 =>
        (fn_X10_count a2 x169 q168.2).bind fun q171 =>
        if q168.1 = q171.1 then
          (fb_L_law_18 n) a0 a1 a2 (a3 + (6)) q171.2
        else
          some ((0), q171.2)
      else
      if v4 = 16 then
        (ax_al s 9 a0 (a3 + (1))).bind fun x174 =>
        (ax_sh s 6 a1).bind fun w175 =>
        (fn_X9_append a1 x174 s).bind fun q176 =>
        (ax_al q176.2 9 a0 (a3 + (1))).bind fun x177 =>
        (ax_sh q176.2 7 a2).bind fun w178 =>
        (fn_X10_append a2 x177 q176.2).bind fun q179 =>
        if q176.1 = q179.1 then
          (fb_L_law_18 n) a0 a1 a2 (a3 + (6)) q179.2
        else
          some ((0), q179.2)
      else
      if v4 = 17 then
        (ax_sh s 6 a1).bind fun w182 =>
        (fn_X9_clearText a1 s).bind fun q183 =>
        (ax_sh q183.2 7 a2).bind fun w184 =>
        (fn_X10_clearText a2 q183.2).bind fun q185 =>
        if q183.1 = q185.1 then
          (fb_L_law_18 n) a0 a1 a2 (a3 + (6)) q185.2
        else
          some ((0), q185.2)
      else
      if v4 = 18 then
        (ax_sh s 6 a1).bind fun w188 =>
        (fn_X9_faultPosition a1 s).bind fun q189 =>
        (ax_sh q189.2 7 a2).bind fun w190 =>
        (fn_X10_faultPosition a2 q189.2).bind fun q191 =>
        if q189.1 = q191.1 then
          (fb_L_law_18 n) a0 a1 a2 (a3 + (6)) q191.2
        else
          some ((0), q191.2)
      else
      if v4 = 19 then
        (ax_sh s 6 a1).bind fun w194 =>
        (fn_X9_faultDepth a1 s).bind fun q195 =>
        (ax_sh q195.2 7 a2).bind fun w196 =>
        (fn_X10_faultDepth a2 q195.2).bind fun q197 =>
        if q195.1 = q197.1 then
          (fb_L_law_18 n) a0 a1 a2 (a3 + (6)) q197.2
        else
          some ((0), q197.2)
      else
      if v4 = 20 then
        (ax_sh s 6 a1).bind fun w200 =>
        (fn_X9_build a1 s).bind fun q201 =>
        (ax_sh q201.2 7 a2).bind fun w202 =>
        (fn_X10_build a2 q201.2).bind fun q203 =>
        if q201.1 = q203.1 then
          (fb_L_law_18 n) a0 a1 a2 (a3 + (6)) q203.2
        else
          some ((0), q203.2)
      else
      if v4 = 21 then
        (ax_al s 9 a0 (a3 + (1))).bind fun x206 =>
        (ax_sh s 6 a1).bind fun w207 =>
        (fn_X9_save a1 x206 s).bind fun q208 =>
        (ax_al q208.2 9 a0 (a3 + (1))).bind fun x209 =>
        (ax_sh q208.2 7 a2).bind fun w210 =>
        (fn_X10_save a2 x209 q208.2).bind fun q211 =>
        if q208.1 = q211.1 then
          (fb_L_law_18 n) a0 a1 a2 (a3 + (6)) q211.2
        else
          some ((0), q211.2)
      else
      if v4 = 22 then
        (ax_al s 9 a0 (a3 + (1))).bind fun x214 =>
        (ax_sh s 6 a1).bind fun w215 =>
        (fn_X9_restore a1 x214 s).bind fun q216 =>
        (ax_al q216.2 9 a0 (a3 + (1))).bind fun x217 =>
        (ax_sh q216.2 7 a2).bind fun w218 =>
        (fn_X10_restore a2 x217 q216.2).bind fun q219 =>
        if q216.1 = q219.1 then
          (fb_L_law_18 n) a0 a1 a2 (a3 + (6)) q219.2
        else
          some ((0), q219.2)
      else
      if v4 = 23 then
        (ax_sh s 6 a1).bind fun w222 =>
        (fn_X9_checksum a1 s).bind fun q223 =>
        (ax_sh q223.2 7 a2).bind fun w224 =>
        (fn_X10_checksum a2 q223.2).bind fun q225 =>
        if (lg_cmp q223.1 q225.1) = 0 then
          (fb_L_law_18 n) a0 a1 a2 (a3 + (6)) q225.2
        else
          some ((0), q225.2)
      else
      (fb_L_law_18 n) a0 a1 a2 (a3 + (6)) s
set_option maxRecDepth 100000 in
set_option maxHeartbeats 4000000 in
theorem tb_L_law_18 {q : Int32 × ax_S} : ∀ (n : Nat) (a0 : Option Nat) (a1 : Option Nat) (a2 : Option Nat) (a3 : Int32) (s : ax_S) (h : fb_L_law_18 n a0 a1 a2 a3 s = some q), AW mm_L_law 72 0 0 18 [(some (av_r a0)), (some (av_r a1)), (some (av_r a2)), (some (av_i a3))] [] s (some (av_i q.1), q.2) := by
  intro n
  induction n with
  | zero =>
    intro a0 a1 a2 a3 s h
    exact ax_no h
  | succ n ih =>
    intro a0 a1 a2 a3 s h
    unfold fb_L_law_18 at h
    refine ax_iload_n (i := 3) dL_law_18 rfl rfl ?_
    refine ax_aload_n (i := 0) dL_law_19 rfl rfl ?_
    obtain ⟨x1, gx1, h⟩ := Option.bind_eq_some_iff.mp h
    refine ax_alen (t := 9) (by decide) dL_law_20 gx1 ?_
    refine ax_bipush (v := (6)) dL_law_21 rfl ?_
    refine ax_isub dL_law_23 ?_
    refine ax_icmp_gt (tgt := 853) dL_law_24 (by decide) (fun c2 => ?_) (fun c2 => ?_)
    · rw [if_pos c2] at h
      refine ax_iconst (v := (1)) dL_law_853 rfl ?_
      exact ax_reti dL_law_854 h
    · rw [if_neg c2] at h
      refine ax_aload_n (i := 0) dL_law_27 rfl rfl ?_
      refine ax_iload_n (i := 3) dL_law_28 rfl rfl ?_
      obtain ⟨x3, gx3, h⟩ := Option.bind_eq_some_iff.mp h
      refine ax_iald dL_law_29 gx3 ?_
      refine ax_bipush (v := (31)) dL_law_30 rfl ?_
      refine ax_iand dL_law_32 ?_
      refine ax_bdI h (fun v4 h => ?_)
      by_cases c5 : v4 = 0
      · rw [if_pos c5] at h
        refine ax_swC (c := 0) (off := 111) (tgt := 144) dL_law_33 c5 (by decide) (by decide) (by decide) rfl (by decide) ?_
        refine ax_aload_n (i := 1) dL_law_144 rfl rfl ?_
        obtain ⟨w6, gw6, h⟩ := Option.bind_eq_some_iff.mp h
        obtain ⟨q7, gq7, h⟩ := Option.bind_eq_some_iff.mp h
        refine ax_cV (As := []) (t := 6) dL_law_145 gw6 (th_X9_clear gq7) rfl (And.intro wd_274 wd_53) wd_271 wd_272 wd_273 cy_X9_clear (by omega) (by decide) (Nat.le_of_ble_eq_true rfl) rfl ?_
        refine ax_aload_n (i := 2) dL_law_148 rfl rfl ?_
        obtain ⟨w8, gw8, h⟩ := Option.bind_eq_some_iff.mp h
        obtain ⟨q9, gq9, h⟩ := Option.bind_eq_some_iff.mp h
        refine ax_cV (As := []) (t := 7) dL_law_149 gw8 (th_X10_clear gq9) rfl (And.intro wd_849 wd_60) wd_846 wd_847 wd_848 cy_X10_clear (by omega) (by decide) (Nat.le_of_ble_eq_true rfl) rfl ?_
        refine ax_icmp_eq (tgt := 847) dL_law_152 (by decide) (fun c10 => ?_) (fun c10 => ?_)
        · rw [if_pos c10] at h
          refine ax_iinc (i := 3) (v := (a3 + (6))) (L2 := [some (av_r a0), some (av_r a1), some (av_r a2), some (av_i (a3 + (6)))]) dL_law_847 rfl rfl (by decide) rfl rfl ?_
          refine ax_goto (tgt := 18) dL_law_850 (by decide) ?_
          exact ax_less (L' := [(some (av_r a0)), (some (av_r a1)), (some (av_r a2)), (some (av_i (a3 + (6))))]) ⟨rfl, rfl, rfl, rfl, trivial⟩ (ih _ _ _ _ _ h)
        · rw [if_neg c10] at h
          refine ax_iconst (v := (0)) dL_law_155 rfl ?_
          exact ax_reti dL_law_156 h
      rw [if_neg c5] at h
      by_cases c11 : v4 = 1
      · rw [if_pos c11] at h
        refine ax_swC (c := 1) (off := 124) (tgt := 157) dL_law_33 c11 (by decide) (by decide) (by decide) rfl (by decide) ?_
        refine ax_aload_n (i := 1) dL_law_157 rfl rfl ?_
        refine ax_aload_n (i := 0) dL_law_158 rfl rfl ?_
        refine ax_iload_n (i := 3) dL_law_159 rfl rfl ?_
        refine ax_iconst (v := (1)) dL_law_160 rfl ?_
        refine ax_iadd dL_law_161 ?_
        obtain ⟨x12, gx12, h⟩ := Option.bind_eq_some_iff.mp h
        refine ax_iald dL_law_162 gx12 ?_
        obtain ⟨w13, gw13, h⟩ := Option.bind_eq_some_iff.mp h
        obtain ⟨q14, gq14, h⟩ := Option.bind_eq_some_iff.mp h
        refine ax_cV (As := [av_i x12]) (t := 6) dL_law_163 gw13 (th_X9_addNode gq14) rfl (And.intro wd_286 wd_53) wd_283 wd_284 wd_285 cy_X9_addNode (by omega) (by decide) (Nat.le_of_ble_eq_true rfl) rfl ?_
        refine ax_aload_n (i := 2) dL_law_166 rfl rfl ?_
        refine ax_aload_n (i := 0) dL_law_167 rfl rfl ?_
        refine ax_iload_n (i := 3) dL_law_168 rfl rfl ?_
        refine ax_iconst (v := (1)) dL_law_169 rfl ?_
        refine ax_iadd dL_law_170 ?_
        obtain ⟨x15, gx15, h⟩ := Option.bind_eq_some_iff.mp h
        refine ax_iald dL_law_171 gx15 ?_
        obtain ⟨w16, gw16, h⟩ := Option.bind_eq_some_iff.mp h
        obtain ⟨q17, gq17, h⟩ := Option.bind_eq_some_iff.mp h
        refine ax_cV (As := [av_i x15]) (t := 7) dL_law_172 gw16 (th_X10_addNode gq17) rfl (And.intro wd_853 wd_60) wd_850 wd_851 wd_852 cy_X10_addNode (by omega) (by decide) (Nat.le_of_ble_eq_true rfl) rfl ?_
        refine ax_icmp_eq (tgt := 847) dL_law_175 (by decide) (fun c18 => ?_) (fun c18 => ?_)
        · rw [if_pos c18] at h
          refine ax_iinc (i := 3) (v := (a3 + (6))) (L2 := [some (av_r a0), some (av_r a1), some (av_r a2), some (av_i (a3 + (6)))]) dL_law_847 rfl rfl (by decide) rfl rfl ?_
          refine ax_goto (tgt := 18) dL_law_850 (by decide) ?_
          exact ax_less (L' := [(some (av_r a0)), (some (av_r a1)), (some (av_r a2)), (some (av_i (a3 + (6))))]) ⟨rfl, rfl, rfl, rfl, trivial⟩ (ih _ _ _ _ _ h)
        · rw [if_neg c18] at h
          refine ax_iconst (v := (0)) dL_law_178 rfl ?_
          exact ax_reti dL_law_179 h
      rw [if_neg c11] at h
      by_cases c19 : v4 = 2
      · rw [if_pos c19] at h
        refine ax_swC (c := 2) (off := 147) (tgt := 180) dL_law_33 c19 (by decide) (by decide) (by decide) rfl (by decide) ?_
        refine ax_aload_n (i := 1) dL_law_180 rfl rfl ?_
        refine ax_aload_n (i := 0) dL_law_181 rfl rfl ?_
        refine ax_iload_n (i := 3) dL_law_182 rfl rfl ?_
        refine ax_iconst (v := (1)) dL_law_183 rfl ?_
        refine ax_iadd dL_law_184 ?_
        obtain ⟨x20, gx20, h⟩ := Option.bind_eq_some_iff.mp h
        refine ax_iald dL_law_185 gx20 ?_
        refine ax_aload_n (i := 0) dL_law_186 rfl rfl ?_
        refine ax_iload_n (i := 3) dL_law_187 rfl rfl ?_
        refine ax_iconst (v := (2)) dL_law_188 rfl ?_
        refine ax_iadd dL_law_189 ?_
        obtain ⟨x21, gx21, h⟩ := Option.bind_eq_some_iff.mp h
        refine ax_iald dL_law_190 gx21 ?_
        refine ax_aload_n (i := 0) dL_law_191 rfl rfl ?_
        refine ax_iload_n (i := 3) dL_law_192 rfl rfl ?_
        refine ax_iconst (v := (3)) dL_law_193 rfl ?_
        refine ax_iadd dL_law_194 ?_
        obtain ⟨x22, gx22, h⟩ := Option.bind_eq_some_iff.mp h
        refine ax_iald dL_law_195 gx22 ?_
        obtain ⟨w23, gw23, h⟩ := Option.bind_eq_some_iff.mp h
        obtain ⟨q24, gq24, h⟩ := Option.bind_eq_some_iff.mp h
        refine ax_cV (As := [av_i x20, av_i x21, av_i x22]) (t := 6) dL_law_196 gw23 (th_X9_connect gq24) rfl (And.intro wd_336 wd_53) wd_333 wd_334 wd_335 cy_X9_connect (by omega) (by decide) (Nat.le_of_ble_eq_true rfl) rfl ?_
        refine ax_aload_n (i := 2) dL_law_199 rfl rfl ?_
        refine ax_aload_n (i := 0) dL_law_200 rfl rfl ?_
        refine ax_iload_n (i := 3) dL_law_201 rfl rfl ?_
        refine ax_iconst (v := (1)) dL_law_202 rfl ?_
        refine ax_iadd dL_law_203 ?_
        obtain ⟨x25, gx25, h⟩ := Option.bind_eq_some_iff.mp h
        refine ax_iald dL_law_204 gx25 ?_
        refine ax_aload_n (i := 0) dL_law_205 rfl rfl ?_
        refine ax_iload_n (i := 3) dL_law_206 rfl rfl ?_
        refine ax_iconst (v := (2)) dL_law_207 rfl ?_
        refine ax_iadd dL_law_208 ?_
        obtain ⟨x26, gx26, h⟩ := Option.bind_eq_some_iff.mp h
        refine ax_iald dL_law_209 gx26 ?_
        refine ax_aload_n (i := 0) dL_law_210 rfl rfl ?_
        refine ax_iload_n (i := 3) dL_law_211 rfl rfl ?_
        refine ax_iconst (v := (3)) dL_law_212 rfl ?_
        refine ax_iadd dL_law_213 ?_
        obtain ⟨x27, gx27, h⟩ := Option.bind_eq_some_iff.mp h
        refine ax_iald dL_law_214 gx27 ?_
        obtain ⟨w28, gw28, h⟩ := Option.bind_eq_some_iff.mp h
        obtain ⟨q29, gq29, h⟩ := Option.bind_eq_some_iff.mp h
        refine ax_cV (As := [av_i x25, av_i x26, av_i x27]) (t := 7) dL_law_215 gw28 (th_X10_connect gq29) rfl (And.intro wd_870 wd_60) wd_867 wd_868 wd_869 cy_X10_connect (by omega) (by decide) (Nat.le_of_ble_eq_true rfl) rfl ?_
        refine ax_icmp_eq (tgt := 847) dL_law_218 (by decide) (fun c30 => ?_) (fun c30 => ?_)
        · rw [if_pos c30] at h
          refine ax_iinc (i := 3) (v := (a3 + (6))) (L2 := [some (av_r a0), some (av_r a1), some (av_r a2), some (av_i (a3 + (6)))]) dL_law_847 rfl rfl (by decide) rfl rfl ?_
          refine ax_goto (tgt := 18) dL_law_850 (by decide) ?_
          exact ax_less (L' := [(some (av_r a0)), (some (av_r a1)), (some (av_r a2)), (some (av_i (a3 + (6))))]) ⟨rfl, rfl, rfl, rfl, trivial⟩ (ih _ _ _ _ _ h)
        · rw [if_neg c30] at h
          refine ax_iconst (v := (0)) dL_law_221 rfl ?_
          exact ax_reti dL_law_222 h
      rw [if_neg c19] at h
      by_cases c31 : v4 = 3
      · rw [if_pos c31] at h
        refine ax_swC (c := 3) (off := 190) (tgt := 223) dL_law_33 c31 (by decide) (by decide) (by decide) rfl (by decide) ?_
        refine ax_aload_n (i := 1) dL_law_223 rfl rfl ?_
        refine ax_aload_n (i := 0) dL_law_224 rfl rfl ?_
        refine ax_iload_n (i := 3) dL_law_225 rfl rfl ?_
        refine ax_iconst (v := (1)) dL_law_226 rfl ?_
        refine ax_iadd dL_law_227 ?_
        obtain ⟨x32, gx32, h⟩ := Option.bind_eq_some_iff.mp h
        refine ax_iald dL_law_228 gx32 ?_
        refine ax_aload_n (i := 0) dL_law_229 rfl rfl ?_
        refine ax_iload_n (i := 3) dL_law_230 rfl rfl ?_
        refine ax_iconst (v := (2)) dL_law_231 rfl ?_
        refine ax_iadd dL_law_232 ?_
        obtain ⟨x33, gx33, h⟩ := Option.bind_eq_some_iff.mp h
        refine ax_iald dL_law_233 gx33 ?_
        refine ax_aload_n (i := 0) dL_law_234 rfl rfl ?_
        refine ax_iload_n (i := 3) dL_law_235 rfl rfl ?_
        refine ax_iconst (v := (3)) dL_law_236 rfl ?_
        refine ax_iadd dL_law_237 ?_
        obtain ⟨x34, gx34, h⟩ := Option.bind_eq_some_iff.mp h
        refine ax_iald dL_law_238 gx34 ?_
        obtain ⟨w35, gw35, h⟩ := Option.bind_eq_some_iff.mp h
        obtain ⟨q36, gq36, h⟩ := Option.bind_eq_some_iff.mp h
        refine ax_cV (As := [av_i x32, av_i x33, av_i x34]) (t := 6) dL_law_239 gw35 (th_X9_set gq36) rfl (And.intro wd_374 wd_53) wd_371 wd_372 wd_373 cy_X9_set (by omega) (by decide) (Nat.le_of_ble_eq_true rfl) rfl ?_
        refine ax_aload_n (i := 2) dL_law_242 rfl rfl ?_
        refine ax_aload_n (i := 0) dL_law_243 rfl rfl ?_
        refine ax_iload_n (i := 3) dL_law_244 rfl rfl ?_
        refine ax_iconst (v := (1)) dL_law_245 rfl ?_
        refine ax_iadd dL_law_246 ?_
        obtain ⟨x37, gx37, h⟩ := Option.bind_eq_some_iff.mp h
        refine ax_iald dL_law_247 gx37 ?_
        refine ax_aload_n (i := 0) dL_law_248 rfl rfl ?_
        refine ax_iload_n (i := 3) dL_law_249 rfl rfl ?_
        refine ax_iconst (v := (2)) dL_law_250 rfl ?_
        refine ax_iadd dL_law_251 ?_
        obtain ⟨x38, gx38, h⟩ := Option.bind_eq_some_iff.mp h
        refine ax_iald dL_law_252 gx38 ?_
        refine ax_aload_n (i := 0) dL_law_253 rfl rfl ?_
        refine ax_iload_n (i := 3) dL_law_254 rfl rfl ?_
        refine ax_iconst (v := (3)) dL_law_255 rfl ?_
        refine ax_iadd dL_law_256 ?_
        obtain ⟨x39, gx39, h⟩ := Option.bind_eq_some_iff.mp h
        refine ax_iald dL_law_257 gx39 ?_
        obtain ⟨w40, gw40, h⟩ := Option.bind_eq_some_iff.mp h
        obtain ⟨q41, gq41, h⟩ := Option.bind_eq_some_iff.mp h
        refine ax_cV (As := [av_i x37, av_i x38, av_i x39]) (t := 7) dL_law_258 gw40 (th_X10_set gq41) rfl (And.intro wd_898 wd_60) wd_895 wd_896 wd_897 cy_X10_set (by omega) (by decide) (Nat.le_of_ble_eq_true rfl) rfl ?_
        refine ax_icmp_eq (tgt := 847) dL_law_261 (by decide) (fun c42 => ?_) (fun c42 => ?_)
        · rw [if_pos c42] at h
          refine ax_iinc (i := 3) (v := (a3 + (6))) (L2 := [some (av_r a0), some (av_r a1), some (av_r a2), some (av_i (a3 + (6)))]) dL_law_847 rfl rfl (by decide) rfl rfl ?_
          refine ax_goto (tgt := 18) dL_law_850 (by decide) ?_
          exact ax_less (L' := [(some (av_r a0)), (some (av_r a1)), (some (av_r a2)), (some (av_i (a3 + (6))))]) ⟨rfl, rfl, rfl, rfl, trivial⟩ (ih _ _ _ _ _ h)
        · rw [if_neg c42] at h
          refine ax_iconst (v := (0)) dL_law_264 rfl ?_
          exact ax_reti dL_law_265 h
      rw [if_neg c31] at h
      by_cases c43 : v4 = 4
      · rw [if_pos c43] at h
        refine ax_swC (c := 4) (off := 233) (tgt := 266) dL_law_33 c43 (by decide) (by decide) (by decide) rfl (by decide) ?_
        refine ax_aload_n (i := 1) dL_law_266 rfl rfl ?_
        refine ax_aload_n (i := 0) dL_law_267 rfl rfl ?_
        refine ax_iload_n (i := 3) dL_law_268 rfl rfl ?_
        refine ax_iconst (v := (1)) dL_law_269 rfl ?_
        refine ax_iadd dL_law_270 ?_
        obtain ⟨x44, gx44, h⟩ := Option.bind_eq_some_iff.mp h
        refine ax_iald dL_law_271 gx44 ?_
        refine ax_aload_n (i := 0) dL_law_272 rfl rfl ?_
        refine ax_iload_n (i := 3) dL_law_273 rfl rfl ?_
        refine ax_iconst (v := (2)) dL_law_274 rfl ?_
        refine ax_iadd dL_law_275 ?_
        obtain ⟨x45, gx45, h⟩ := Option.bind_eq_some_iff.mp h
        refine ax_iald dL_law_276 gx45 ?_
        refine ax_aload_n (i := 0) dL_law_277 rfl rfl ?_
        refine ax_iload_n (i := 3) dL_law_278 rfl rfl ?_
        refine ax_iconst (v := (3)) dL_law_279 rfl ?_
        refine ax_iadd dL_law_280 ?_
        obtain ⟨x46, gx46, h⟩ := Option.bind_eq_some_iff.mp h
        refine ax_iald dL_law_281 gx46 ?_
        obtain ⟨w47, gw47, h⟩ := Option.bind_eq_some_iff.mp h
        obtain ⟨q48, gq48, h⟩ := Option.bind_eq_some_iff.mp h
        refine ax_cV (As := [av_i x44, av_i x45, av_i x46]) (t := 6) dL_law_282 gw47 (th_X9_setRange gq48) rfl (And.intro wd_397 wd_53) wd_394 wd_395 wd_396 cy_X9_setRange (by omega) (by decide) (Nat.le_of_ble_eq_true rfl) rfl ?_
        refine ax_aload_n (i := 2) dL_law_285 rfl rfl ?_
        refine ax_aload_n (i := 0) dL_law_286 rfl rfl ?_
        refine ax_iload_n (i := 3) dL_law_287 rfl rfl ?_
        refine ax_iconst (v := (1)) dL_law_288 rfl ?_
        refine ax_iadd dL_law_289 ?_
        obtain ⟨x49, gx49, h⟩ := Option.bind_eq_some_iff.mp h
        refine ax_iald dL_law_290 gx49 ?_
        refine ax_aload_n (i := 0) dL_law_291 rfl rfl ?_
        refine ax_iload_n (i := 3) dL_law_292 rfl rfl ?_
        refine ax_iconst (v := (2)) dL_law_293 rfl ?_
        refine ax_iadd dL_law_294 ?_
        obtain ⟨x50, gx50, h⟩ := Option.bind_eq_some_iff.mp h
        refine ax_iald dL_law_295 gx50 ?_
        refine ax_aload_n (i := 0) dL_law_296 rfl rfl ?_
        refine ax_iload_n (i := 3) dL_law_297 rfl rfl ?_
        refine ax_iconst (v := (3)) dL_law_298 rfl ?_
        refine ax_iadd dL_law_299 ?_
        obtain ⟨x51, gx51, h⟩ := Option.bind_eq_some_iff.mp h
        refine ax_iald dL_law_300 gx51 ?_
        obtain ⟨w52, gw52, h⟩ := Option.bind_eq_some_iff.mp h
        obtain ⟨q53, gq53, h⟩ := Option.bind_eq_some_iff.mp h
        refine ax_cV (As := [av_i x49, av_i x50, av_i x51]) (t := 7) dL_law_301 gw52 (th_X10_setRange gq53) rfl (And.intro wd_912 wd_60) wd_909 wd_910 wd_911 cy_X10_setRange (by omega) (by decide) (Nat.le_of_ble_eq_true rfl) rfl ?_
        refine ax_icmp_eq (tgt := 847) dL_law_304 (by decide) (fun c54 => ?_) (fun c54 => ?_)
        · rw [if_pos c54] at h
          refine ax_iinc (i := 3) (v := (a3 + (6))) (L2 := [some (av_r a0), some (av_r a1), some (av_r a2), some (av_i (a3 + (6)))]) dL_law_847 rfl rfl (by decide) rfl rfl ?_
          refine ax_goto (tgt := 18) dL_law_850 (by decide) ?_
          exact ax_less (L' := [(some (av_r a0)), (some (av_r a1)), (some (av_r a2)), (some (av_i (a3 + (6))))]) ⟨rfl, rfl, rfl, rfl, trivial⟩ (ih _ _ _ _ _ h)
        · rw [if_neg c54] at h
          refine ax_iconst (v := (0)) dL_law_307 rfl ?_
          exact ax_reti dL_law_308 h
      rw [if_neg c43] at h
      by_cases c55 : v4 = 5
      · rw [if_pos c55] at h
        refine ax_swC (c := 5) (off := 276) (tgt := 309) dL_law_33 c55 (by decide) (by decide) (by decide) rfl (by decide) ?_
        refine ax_aload_n (i := 1) dL_law_309 rfl rfl ?_
        obtain ⟨w56, gw56, h⟩ := Option.bind_eq_some_iff.mp h
        obtain ⟨q57, gq57, h⟩ := Option.bind_eq_some_iff.mp h
        refine ax_cV (As := []) (t := 6) dL_law_310 gw56 (th_X9_nodes gq57) rfl (And.intro wd_405 wd_53) wd_402 wd_403 wd_404 cy_X9_nodes (by omega) (by decide) (Nat.le_of_ble_eq_true rfl) rfl ?_
        refine ax_aload_n (i := 2) dL_law_313 rfl rfl ?_
        obtain ⟨w58, gw58, h⟩ := Option.bind_eq_some_iff.mp h
        obtain ⟨q59, gq59, h⟩ := Option.bind_eq_some_iff.mp h
        refine ax_cV (As := []) (t := 7) dL_law_314 gw58 (th_X10_nodes gq59) rfl (And.intro wd_916 wd_60) wd_913 wd_914 wd_915 cy_X10_nodes (by omega) (by decide) (Nat.le_of_ble_eq_true rfl) rfl ?_
        refine ax_icmp_eq (tgt := 847) dL_law_317 (by decide) (fun c60 => ?_) (fun c60 => ?_)
        · rw [if_pos c60] at h
          refine ax_iinc (i := 3) (v := (a3 + (6))) (L2 := [some (av_r a0), some (av_r a1), some (av_r a2), some (av_i (a3 + (6)))]) dL_law_847 rfl rfl (by decide) rfl rfl ?_
          refine ax_goto (tgt := 18) dL_law_850 (by decide) ?_
          exact ax_less (L' := [(some (av_r a0)), (some (av_r a1)), (some (av_r a2)), (some (av_i (a3 + (6))))]) ⟨rfl, rfl, rfl, rfl, trivial⟩ (ih _ _ _ _ _ h)
        · rw [if_neg c60] at h
          refine ax_iconst (v := (0)) dL_law_320 rfl ?_
          exact ax_reti dL_law_321 h
      rw [if_neg c55] at h
      by_cases c61 : v4 = 6
      · rw [if_pos c61] at h
        refine ax_swC (c := 6) (off := 289) (tgt := 322) dL_law_33 c61 (by decide) (by decide) (by decide) rfl (by decide) ?_
        refine ax_aload_n (i := 1) dL_law_322 rfl rfl ?_
        refine ax_aload_n (i := 0) dL_law_323 rfl rfl ?_
        refine ax_iload_n (i := 3) dL_law_324 rfl rfl ?_
        refine ax_iconst (v := (1)) dL_law_325 rfl ?_
        refine ax_iadd dL_law_326 ?_
        obtain ⟨x62, gx62, h⟩ := Option.bind_eq_some_iff.mp h
        refine ax_iald dL_law_327 gx62 ?_
        refine ax_aload_n (i := 0) dL_law_328 rfl rfl ?_
        refine ax_iload_n (i := 3) dL_law_329 rfl rfl ?_
        refine ax_iconst (v := (2)) dL_law_330 rfl ?_
        refine ax_iadd dL_law_331 ?_
        obtain ⟨x63, gx63, h⟩ := Option.bind_eq_some_iff.mp h
        refine ax_iald dL_law_332 gx63 ?_
        obtain ⟨w64, gw64, h⟩ := Option.bind_eq_some_iff.mp h
        obtain ⟨q65, gq65, h⟩ := Option.bind_eq_some_iff.mp h
        refine ax_cV (As := [av_i x62, av_i x63]) (t := 6) dL_law_333 gw64 (th_X9_node gq65) rfl (And.intro wd_409 wd_53) wd_406 wd_407 wd_408 cy_X9_node (by omega) (by decide) (Nat.le_of_ble_eq_true rfl) rfl ?_
        refine ax_aload_n (i := 2) dL_law_336 rfl rfl ?_
        refine ax_aload_n (i := 0) dL_law_337 rfl rfl ?_
        refine ax_iload_n (i := 3) dL_law_338 rfl rfl ?_
        refine ax_iconst (v := (1)) dL_law_339 rfl ?_
        refine ax_iadd dL_law_340 ?_
        obtain ⟨x66, gx66, h⟩ := Option.bind_eq_some_iff.mp h
        refine ax_iald dL_law_341 gx66 ?_
        refine ax_aload_n (i := 0) dL_law_342 rfl rfl ?_
        refine ax_iload_n (i := 3) dL_law_343 rfl rfl ?_
        refine ax_iconst (v := (2)) dL_law_344 rfl ?_
        refine ax_iadd dL_law_345 ?_
        obtain ⟨x67, gx67, h⟩ := Option.bind_eq_some_iff.mp h
        refine ax_iald dL_law_346 gx67 ?_
        obtain ⟨w68, gw68, h⟩ := Option.bind_eq_some_iff.mp h
        obtain ⟨q69, gq69, h⟩ := Option.bind_eq_some_iff.mp h
        refine ax_cV (As := [av_i x66, av_i x67]) (t := 7) dL_law_347 gw68 (th_X10_node gq69) rfl (And.intro wd_920 wd_60) wd_917 wd_918 wd_919 cy_X10_node (by omega) (by decide) (Nat.le_of_ble_eq_true rfl) rfl ?_
        refine ax_icmp_eq (tgt := 847) dL_law_350 (by decide) (fun c70 => ?_) (fun c70 => ?_)
        · rw [if_pos c70] at h
          refine ax_iinc (i := 3) (v := (a3 + (6))) (L2 := [some (av_r a0), some (av_r a1), some (av_r a2), some (av_i (a3 + (6)))]) dL_law_847 rfl rfl (by decide) rfl rfl ?_
          refine ax_goto (tgt := 18) dL_law_850 (by decide) ?_
          exact ax_less (L' := [(some (av_r a0)), (some (av_r a1)), (some (av_r a2)), (some (av_i (a3 + (6))))]) ⟨rfl, rfl, rfl, rfl, trivial⟩ (ih _ _ _ _ _ h)
        · rw [if_neg c70] at h
          refine ax_iconst (v := (0)) dL_law_353 rfl ?_
          exact ax_reti dL_law_354 h
      rw [if_neg c61] at h
      by_cases c71 : v4 = 7
      · rw [if_pos c71] at h
        refine ax_swC (c := 7) (off := 322) (tgt := 355) dL_law_33 c71 (by decide) (by decide) (by decide) rfl (by decide) ?_
        refine ax_aload_n (i := 1) dL_law_355 rfl rfl ?_
        refine ax_aload_n (i := 0) dL_law_356 rfl rfl ?_
        refine ax_iload_n (i := 3) dL_law_357 rfl rfl ?_
        refine ax_iconst (v := (1)) dL_law_358 rfl ?_
        refine ax_iadd dL_law_359 ?_
        obtain ⟨x72, gx72, h⟩ := Option.bind_eq_some_iff.mp h
        refine ax_iald dL_law_360 gx72 ?_
        refine ax_aload_n (i := 0) dL_law_361 rfl rfl ?_
        refine ax_iload_n (i := 3) dL_law_362 rfl rfl ?_
        refine ax_iconst (v := (2)) dL_law_363 rfl ?_
        refine ax_iadd dL_law_364 ?_
        obtain ⟨x73, gx73, h⟩ := Option.bind_eq_some_iff.mp h
        refine ax_iald dL_law_365 gx73 ?_
        obtain ⟨w74, gw74, h⟩ := Option.bind_eq_some_iff.mp h
        obtain ⟨q75, gq75, h⟩ := Option.bind_eq_some_iff.mp h
        refine ax_cV (As := [av_i x72, av_i x73]) (t := 6) dL_law_366 gw74 (th_X9_input gq75) rfl (And.intro wd_419 wd_53) wd_416 wd_417 wd_418 cy_X9_input (by omega) (by decide) (Nat.le_of_ble_eq_true rfl) rfl ?_
        refine ax_aload_n (i := 2) dL_law_369 rfl rfl ?_
        refine ax_aload_n (i := 0) dL_law_370 rfl rfl ?_
        refine ax_iload_n (i := 3) dL_law_371 rfl rfl ?_
        refine ax_iconst (v := (1)) dL_law_372 rfl ?_
        refine ax_iadd dL_law_373 ?_
        obtain ⟨x76, gx76, h⟩ := Option.bind_eq_some_iff.mp h
        refine ax_iald dL_law_374 gx76 ?_
        refine ax_aload_n (i := 0) dL_law_375 rfl rfl ?_
        refine ax_iload_n (i := 3) dL_law_376 rfl rfl ?_
        refine ax_iconst (v := (2)) dL_law_377 rfl ?_
        refine ax_iadd dL_law_378 ?_
        obtain ⟨x77, gx77, h⟩ := Option.bind_eq_some_iff.mp h
        refine ax_iald dL_law_379 gx77 ?_
        obtain ⟨w78, gw78, h⟩ := Option.bind_eq_some_iff.mp h
        obtain ⟨q79, gq79, h⟩ := Option.bind_eq_some_iff.mp h
        refine ax_cV (As := [av_i x76, av_i x77]) (t := 7) dL_law_380 gw78 (th_X10_input gq79) rfl (And.intro wd_943 wd_60) wd_940 wd_941 wd_942 cy_X10_input (by omega) (by decide) (Nat.le_of_ble_eq_true rfl) rfl ?_
        refine ax_icmp_eq (tgt := 847) dL_law_383 (by decide) (fun c80 => ?_) (fun c80 => ?_)
        · rw [if_pos c80] at h
          refine ax_iinc (i := 3) (v := (a3 + (6))) (L2 := [some (av_r a0), some (av_r a1), some (av_r a2), some (av_i (a3 + (6)))]) dL_law_847 rfl rfl (by decide) rfl rfl ?_
          refine ax_goto (tgt := 18) dL_law_850 (by decide) ?_
          exact ax_less (L' := [(some (av_r a0)), (some (av_r a1)), (some (av_r a2)), (some (av_i (a3 + (6))))]) ⟨rfl, rfl, rfl, rfl, trivial⟩ (ih _ _ _ _ _ h)
        · rw [if_neg c80] at h
          refine ax_iconst (v := (0)) dL_law_386 rfl ?_
          exact ax_reti dL_law_387 h
      rw [if_neg c71] at h
      by_cases c81 : v4 = 8
      · rw [if_pos c81] at h
        refine ax_swC (c := 8) (off := 355) (tgt := 388) dL_law_33 c81 (by decide) (by decide) (by decide) rfl (by decide) ?_
        refine ax_aload_n (i := 1) dL_law_388 rfl rfl ?_
        refine ax_aload_n (i := 0) dL_law_389 rfl rfl ?_
        refine ax_iload_n (i := 3) dL_law_390 rfl rfl ?_
        refine ax_iconst (v := (1)) dL_law_391 rfl ?_
        refine ax_iadd dL_law_392 ?_
        obtain ⟨x82, gx82, h⟩ := Option.bind_eq_some_iff.mp h
        refine ax_iald dL_law_393 gx82 ?_
        refine ax_aload_n (i := 0) dL_law_394 rfl rfl ?_
        refine ax_iload_n (i := 3) dL_law_395 rfl rfl ?_
        refine ax_iconst (v := (2)) dL_law_396 rfl ?_
        refine ax_iadd dL_law_397 ?_
        obtain ⟨x83, gx83, h⟩ := Option.bind_eq_some_iff.mp h
        refine ax_iald dL_law_398 gx83 ?_
        obtain ⟨w84, gw84, h⟩ := Option.bind_eq_some_iff.mp h
        obtain ⟨q85, gq85, h⟩ := Option.bind_eq_some_iff.mp h
        refine ax_cV (As := [av_i x82, av_i x83]) (t := 6) dL_law_399 gw84 (th_X9_parameter gq85) rfl (And.intro wd_423 wd_53) wd_420 wd_421 wd_422 cy_X9_parameter (by omega) (by decide) (Nat.le_of_ble_eq_true rfl) rfl ?_
        refine ax_aload_n (i := 2) dL_law_402 rfl rfl ?_
        refine ax_aload_n (i := 0) dL_law_403 rfl rfl ?_
        refine ax_iload_n (i := 3) dL_law_404 rfl rfl ?_
        refine ax_iconst (v := (1)) dL_law_405 rfl ?_
        refine ax_iadd dL_law_406 ?_
        obtain ⟨x86, gx86, h⟩ := Option.bind_eq_some_iff.mp h
        refine ax_iald dL_law_407 gx86 ?_
        refine ax_aload_n (i := 0) dL_law_408 rfl rfl ?_
        refine ax_iload_n (i := 3) dL_law_409 rfl rfl ?_
        refine ax_iconst (v := (2)) dL_law_410 rfl ?_
        refine ax_iadd dL_law_411 ?_
        obtain ⟨x87, gx87, h⟩ := Option.bind_eq_some_iff.mp h
        refine ax_iald dL_law_412 gx87 ?_
        obtain ⟨w88, gw88, h⟩ := Option.bind_eq_some_iff.mp h
        obtain ⟨q89, gq89, h⟩ := Option.bind_eq_some_iff.mp h
        refine ax_cV (As := [av_i x86, av_i x87]) (t := 7) dL_law_413 gw88 (th_X10_parameter gq89) rfl (And.intro wd_947 wd_60) wd_944 wd_945 wd_946 cy_X10_parameter (by omega) (by decide) (Nat.le_of_ble_eq_true rfl) rfl ?_
        refine ax_icmp_eq (tgt := 847) dL_law_416 (by decide) (fun c90 => ?_) (fun c90 => ?_)
        · rw [if_pos c90] at h
          refine ax_iinc (i := 3) (v := (a3 + (6))) (L2 := [some (av_r a0), some (av_r a1), some (av_r a2), some (av_i (a3 + (6)))]) dL_law_847 rfl rfl (by decide) rfl rfl ?_
          refine ax_goto (tgt := 18) dL_law_850 (by decide) ?_
          exact ax_less (L' := [(some (av_r a0)), (some (av_r a1)), (some (av_r a2)), (some (av_i (a3 + (6))))]) ⟨rfl, rfl, rfl, rfl, trivial⟩ (ih _ _ _ _ _ h)
        · rw [if_neg c90] at h
          refine ax_iconst (v := (0)) dL_law_419 rfl ?_
          exact ax_reti dL_law_420 h
      rw [if_neg c81] at h
      by_cases c91 : v4 = 9
      · rw [if_pos c91] at h
        refine ax_swC (c := 9) (off := 388) (tgt := 421) dL_law_33 c91 (by decide) (by decide) (by decide) rfl (by decide) ?_
        refine ax_aload_n (i := 1) dL_law_421 rfl rfl ?_
        refine ax_aload_n (i := 0) dL_law_422 rfl rfl ?_
        refine ax_iload_n (i := 3) dL_law_423 rfl rfl ?_
        refine ax_iconst (v := (1)) dL_law_424 rfl ?_
        refine ax_iadd dL_law_425 ?_
        obtain ⟨x92, gx92, h⟩ := Option.bind_eq_some_iff.mp h
        refine ax_iald dL_law_426 gx92 ?_
        refine ax_aload_n (i := 0) dL_law_427 rfl rfl ?_
        refine ax_iload_n (i := 3) dL_law_428 rfl rfl ?_
        refine ax_iconst (v := (2)) dL_law_429 rfl ?_
        refine ax_iadd dL_law_430 ?_
        obtain ⟨x93, gx93, h⟩ := Option.bind_eq_some_iff.mp h
        refine ax_iald dL_law_431 gx93 ?_
        refine ax_aload_n (i := 0) dL_law_432 rfl rfl ?_
        refine ax_iload_n (i := 3) dL_law_433 rfl rfl ?_
        refine ax_iconst (v := (3)) dL_law_434 rfl ?_
        refine ax_iadd dL_law_435 ?_
        obtain ⟨x94, gx94, h⟩ := Option.bind_eq_some_iff.mp h
        refine ax_iald dL_law_436 gx94 ?_
        refine ax_aload_n (i := 0) dL_law_437 rfl rfl ?_
        refine ax_iload_n (i := 3) dL_law_438 rfl rfl ?_
        refine ax_iconst (v := (4)) dL_law_439 rfl ?_
        refine ax_iadd dL_law_440 ?_
        obtain ⟨x95, gx95, h⟩ := Option.bind_eq_some_iff.mp h
        refine ax_iald dL_law_441 gx95 ?_
        refine ax_aload_n (i := 0) dL_law_442 rfl rfl ?_
        refine ax_iload_n (i := 3) dL_law_443 rfl rfl ?_
        refine ax_iconst (v := (5)) dL_law_444 rfl ?_
        refine ax_iadd dL_law_445 ?_
        obtain ⟨x96, gx96, h⟩ := Option.bind_eq_some_iff.mp h
        refine ax_iald dL_law_446 gx96 ?_
        obtain ⟨w97, gw97, h⟩ := Option.bind_eq_some_iff.mp h
        obtain ⟨q98, gq98, h⟩ := Option.bind_eq_some_iff.mp h
        refine ax_cV (As := [av_i x92, av_i x93, av_i x94, av_i x95, av_i x96]) (t := 6) dL_law_447 gw97 (th_X9_value gq98) rfl (And.intro wd_427 wd_53) wd_424 wd_425 wd_426 cy_X9_value (by omega) (by decide) (Nat.le_of_ble_eq_true rfl) rfl ?_
        refine ax_aload_n (i := 2) dL_law_450 rfl rfl ?_
        refine ax_aload_n (i := 0) dL_law_451 rfl rfl ?_
        refine ax_iload_n (i := 3) dL_law_452 rfl rfl ?_
        refine ax_iconst (v := (1)) dL_law_453 rfl ?_
        refine ax_iadd dL_law_454 ?_
        obtain ⟨x99, gx99, h⟩ := Option.bind_eq_some_iff.mp h
        refine ax_iald dL_law_455 gx99 ?_
        refine ax_aload_n (i := 0) dL_law_456 rfl rfl ?_
        refine ax_iload_n (i := 3) dL_law_457 rfl rfl ?_
        refine ax_iconst (v := (2)) dL_law_458 rfl ?_
        refine ax_iadd dL_law_459 ?_
        obtain ⟨x100, gx100, h⟩ := Option.bind_eq_some_iff.mp h
        refine ax_iald dL_law_460 gx100 ?_
        refine ax_aload_n (i := 0) dL_law_461 rfl rfl ?_
        refine ax_iload_n (i := 3) dL_law_462 rfl rfl ?_
        refine ax_iconst (v := (3)) dL_law_463 rfl ?_
        refine ax_iadd dL_law_464 ?_
        obtain ⟨x101, gx101, h⟩ := Option.bind_eq_some_iff.mp h
        refine ax_iald dL_law_465 gx101 ?_
        refine ax_aload_n (i := 0) dL_law_466 rfl rfl ?_
        refine ax_iload_n (i := 3) dL_law_467 rfl rfl ?_
        refine ax_iconst (v := (4)) dL_law_468 rfl ?_
        refine ax_iadd dL_law_469 ?_
        obtain ⟨x102, gx102, h⟩ := Option.bind_eq_some_iff.mp h
        refine ax_iald dL_law_470 gx102 ?_
        refine ax_aload_n (i := 0) dL_law_471 rfl rfl ?_
        refine ax_iload_n (i := 3) dL_law_472 rfl rfl ?_
        refine ax_iconst (v := (5)) dL_law_473 rfl ?_
        refine ax_iadd dL_law_474 ?_
        obtain ⟨x103, gx103, h⟩ := Option.bind_eq_some_iff.mp h
        refine ax_iald dL_law_475 gx103 ?_
        obtain ⟨w104, gw104, h⟩ := Option.bind_eq_some_iff.mp h
        obtain ⟨q105, gq105, h⟩ := Option.bind_eq_some_iff.mp h
        refine ax_cV (As := [av_i x99, av_i x100, av_i x101, av_i x102, av_i x103]) (t := 7) dL_law_476 gw104 (th_X10_value gq105) rfl (And.intro wd_951 wd_60) wd_948 wd_949 wd_950 cy_X10_value (by omega) (by decide) (Nat.le_of_ble_eq_true rfl) rfl ?_
        refine ax_icmp_eq (tgt := 847) dL_law_479 (by decide) (fun c106 => ?_) (fun c106 => ?_)
        · rw [if_pos c106] at h
          refine ax_iinc (i := 3) (v := (a3 + (6))) (L2 := [some (av_r a0), some (av_r a1), some (av_r a2), some (av_i (a3 + (6)))]) dL_law_847 rfl rfl (by decide) rfl rfl ?_
          refine ax_goto (tgt := 18) dL_law_850 (by decide) ?_
          exact ax_less (L' := [(some (av_r a0)), (some (av_r a1)), (some (av_r a2)), (some (av_i (a3 + (6))))]) ⟨rfl, rfl, rfl, rfl, trivial⟩ (ih _ _ _ _ _ h)
        · rw [if_neg c106] at h
          refine ax_iconst (v := (0)) dL_law_482 rfl ?_
          exact ax_reti dL_law_483 h
      rw [if_neg c91] at h
      by_cases c107 : v4 = 10
      · rw [if_pos c107] at h
        refine ax_swC (c := 10) (off := 451) (tgt := 484) dL_law_33 c107 (by decide) (by decide) (by decide) rfl (by decide) ?_
        refine ax_aload_n (i := 1) dL_law_484 rfl rfl ?_
        refine ax_aload_n (i := 0) dL_law_485 rfl rfl ?_
        refine ax_iload_n (i := 3) dL_law_486 rfl rfl ?_
        refine ax_iconst (v := (1)) dL_law_487 rfl ?_
        refine ax_iadd dL_law_488 ?_
        obtain ⟨x108, gx108, h⟩ := Option.bind_eq_some_iff.mp h
        refine ax_iald dL_law_489 gx108 ?_
        refine ax_aload_n (i := 0) dL_law_490 rfl rfl ?_
        refine ax_iload_n (i := 3) dL_law_491 rfl rfl ?_
        refine ax_iconst (v := (2)) dL_law_492 rfl ?_
        refine ax_iadd dL_law_493 ?_
        obtain ⟨x109, gx109, h⟩ := Option.bind_eq_some_iff.mp h
        refine ax_iald dL_law_494 gx109 ?_
        refine ax_aload_n (i := 0) dL_law_495 rfl rfl ?_
        refine ax_iload_n (i := 3) dL_law_496 rfl rfl ?_
        refine ax_iconst (v := (3)) dL_law_497 rfl ?_
        refine ax_iadd dL_law_498 ?_
        obtain ⟨x110, gx110, h⟩ := Option.bind_eq_some_iff.mp h
        refine ax_iald dL_law_499 gx110 ?_
        refine ax_aload_n (i := 0) dL_law_500 rfl rfl ?_
        refine ax_iload_n (i := 3) dL_law_501 rfl rfl ?_
        refine ax_iconst (v := (4)) dL_law_502 rfl ?_
        refine ax_iadd dL_law_503 ?_
        obtain ⟨x111, gx111, h⟩ := Option.bind_eq_some_iff.mp h
        refine ax_iald dL_law_504 gx111 ?_
        obtain ⟨w112, gw112, h⟩ := Option.bind_eq_some_iff.mp h
        obtain ⟨q113, gq113, h⟩ := Option.bind_eq_some_iff.mp h
        refine ax_cV (As := [av_i x108, av_i x109, av_i x110, av_i x111]) (t := 6) dL_law_505 gw112 (th_X9_scope gq113) rfl (And.intro wd_493 wd_53) wd_490 wd_491 wd_492 cy_X9_scope (by omega) (by decide) (Nat.le_of_ble_eq_true rfl) rfl ?_
        refine ax_aload_n (i := 2) dL_law_508 rfl rfl ?_
        refine ax_aload_n (i := 0) dL_law_509 rfl rfl ?_
        refine ax_iload_n (i := 3) dL_law_510 rfl rfl ?_
        refine ax_iconst (v := (1)) dL_law_511 rfl ?_
        refine ax_iadd dL_law_512 ?_
        obtain ⟨x114, gx114, h⟩ := Option.bind_eq_some_iff.mp h
        refine ax_iald dL_law_513 gx114 ?_
        refine ax_aload_n (i := 0) dL_law_514 rfl rfl ?_
        refine ax_iload_n (i := 3) dL_law_515 rfl rfl ?_
        refine ax_iconst (v := (2)) dL_law_516 rfl ?_
        refine ax_iadd dL_law_517 ?_
        obtain ⟨x115, gx115, h⟩ := Option.bind_eq_some_iff.mp h
        refine ax_iald dL_law_518 gx115 ?_
        refine ax_aload_n (i := 0) dL_law_519 rfl rfl ?_
        refine ax_iload_n (i := 3) dL_law_520 rfl rfl ?_
        refine ax_iconst (v := (3)) dL_law_521 rfl ?_
        refine ax_iadd dL_law_522 ?_
        obtain ⟨x116, gx116, h⟩ := Option.bind_eq_some_iff.mp h
        refine ax_iald dL_law_523 gx116 ?_
        refine ax_aload_n (i := 0) dL_law_524 rfl rfl ?_
        refine ax_iload_n (i := 3) dL_law_525 rfl rfl ?_
        refine ax_iconst (v := (4)) dL_law_526 rfl ?_
        refine ax_iadd dL_law_527 ?_
        obtain ⟨x117, gx117, h⟩ := Option.bind_eq_some_iff.mp h
        refine ax_iald dL_law_528 gx117 ?_
        obtain ⟨w118, gw118, h⟩ := Option.bind_eq_some_iff.mp h
        obtain ⟨q119, gq119, h⟩ := Option.bind_eq_some_iff.mp h
        refine ax_cV (As := [av_i x114, av_i x115, av_i x116, av_i x117]) (t := 7) dL_law_529 gw118 (th_X10_scope gq119) rfl (And.intro wd_1009 wd_60) wd_1006 wd_1007 wd_1008 cy_X10_scope (by omega) (by decide) (Nat.le_of_ble_eq_true rfl) rfl ?_
        refine ax_icmp_eq (tgt := 847) dL_law_532 (by decide) (fun c120 => ?_) (fun c120 => ?_)
        · rw [if_pos c120] at h
          refine ax_iinc (i := 3) (v := (a3 + (6))) (L2 := [some (av_r a0), some (av_r a1), some (av_r a2), some (av_i (a3 + (6)))]) dL_law_847 rfl rfl (by decide) rfl rfl ?_
          refine ax_goto (tgt := 18) dL_law_850 (by decide) ?_
          exact ax_less (L' := [(some (av_r a0)), (some (av_r a1)), (some (av_r a2)), (some (av_i (a3 + (6))))]) ⟨rfl, rfl, rfl, rfl, trivial⟩ (ih _ _ _ _ _ h)
        · rw [if_neg c120] at h
          refine ax_iconst (v := (0)) dL_law_535 rfl ?_
          exact ax_reti dL_law_536 h
      rw [if_neg c107] at h
      by_cases c121 : v4 = 11
      · rw [if_pos c121] at h
        refine ax_swC (c := 11) (off := 504) (tgt := 537) dL_law_33 c121 (by decide) (by decide) (by decide) rfl (by decide) ?_
        refine ax_aload_n (i := 1) dL_law_537 rfl rfl ?_
        refine ax_aload_n (i := 0) dL_law_538 rfl rfl ?_
        refine ax_iload_n (i := 3) dL_law_539 rfl rfl ?_
        refine ax_iconst (v := (1)) dL_law_540 rfl ?_
        refine ax_iadd dL_law_541 ?_
        obtain ⟨x122, gx122, h⟩ := Option.bind_eq_some_iff.mp h
        refine ax_iald dL_law_542 gx122 ?_
        refine ax_aload_n (i := 0) dL_law_543 rfl rfl ?_
        refine ax_iload_n (i := 3) dL_law_544 rfl rfl ?_
        refine ax_iconst (v := (2)) dL_law_545 rfl ?_
        refine ax_iadd dL_law_546 ?_
        obtain ⟨x123, gx123, h⟩ := Option.bind_eq_some_iff.mp h
        refine ax_iald dL_law_547 gx123 ?_
        refine ax_aload_n (i := 0) dL_law_548 rfl rfl ?_
        refine ax_iload_n (i := 3) dL_law_549 rfl rfl ?_
        refine ax_iconst (v := (3)) dL_law_550 rfl ?_
        refine ax_iadd dL_law_551 ?_
        obtain ⟨x124, gx124, h⟩ := Option.bind_eq_some_iff.mp h
        refine ax_iald dL_law_552 gx124 ?_
        refine ax_aload_n (i := 0) dL_law_553 rfl rfl ?_
        refine ax_iload_n (i := 3) dL_law_554 rfl rfl ?_
        refine ax_iconst (v := (4)) dL_law_555 rfl ?_
        refine ax_iadd dL_law_556 ?_
        obtain ⟨x125, gx125, h⟩ := Option.bind_eq_some_iff.mp h
        refine ax_iald dL_law_557 gx125 ?_
        obtain ⟨w126, gw126, h⟩ := Option.bind_eq_some_iff.mp h
        obtain ⟨q127, gq127, h⟩ := Option.bind_eq_some_iff.mp h
        refine ax_cV (As := [av_i x122, av_i x123, av_i x124, av_i x125]) (t := 6) dL_law_558 gw126 (th_X9_sum gq127) rfl (And.intro wd_500 wd_53) wd_497 wd_498 wd_499 cy_X9_sum (by omega) (by decide) (Nat.le_of_ble_eq_true rfl) rfl ?_
        refine ax_aload_n (i := 2) dL_law_561 rfl rfl ?_
        refine ax_aload_n (i := 0) dL_law_562 rfl rfl ?_
        refine ax_iload_n (i := 3) dL_law_563 rfl rfl ?_
        refine ax_iconst (v := (1)) dL_law_564 rfl ?_
        refine ax_iadd dL_law_565 ?_
        obtain ⟨x128, gx128, h⟩ := Option.bind_eq_some_iff.mp h
        refine ax_iald dL_law_566 gx128 ?_
        refine ax_aload_n (i := 0) dL_law_567 rfl rfl ?_
        refine ax_iload_n (i := 3) dL_law_568 rfl rfl ?_
        refine ax_iconst (v := (2)) dL_law_569 rfl ?_
        refine ax_iadd dL_law_570 ?_
        obtain ⟨x129, gx129, h⟩ := Option.bind_eq_some_iff.mp h
        refine ax_iald dL_law_571 gx129 ?_
        refine ax_aload_n (i := 0) dL_law_572 rfl rfl ?_
        refine ax_iload_n (i := 3) dL_law_573 rfl rfl ?_
        refine ax_iconst (v := (3)) dL_law_574 rfl ?_
        refine ax_iadd dL_law_575 ?_
        obtain ⟨x130, gx130, h⟩ := Option.bind_eq_some_iff.mp h
        refine ax_iald dL_law_576 gx130 ?_
        refine ax_aload_n (i := 0) dL_law_577 rfl rfl ?_
        refine ax_iload_n (i := 3) dL_law_578 rfl rfl ?_
        refine ax_iconst (v := (4)) dL_law_579 rfl ?_
        refine ax_iadd dL_law_580 ?_
        obtain ⟨x131, gx131, h⟩ := Option.bind_eq_some_iff.mp h
        refine ax_iald dL_law_581 gx131 ?_
        obtain ⟨w132, gw132, h⟩ := Option.bind_eq_some_iff.mp h
        obtain ⟨q133, gq133, h⟩ := Option.bind_eq_some_iff.mp h
        refine ax_cV (As := [av_i x128, av_i x129, av_i x130, av_i x131]) (t := 7) dL_law_582 gw132 (th_X10_sum gq133) rfl (And.intro wd_1013 wd_60) wd_1010 wd_1011 wd_1012 cy_X10_sum (by omega) (by decide) (Nat.le_of_ble_eq_true rfl) rfl ?_
        refine ax_icmp_eq (tgt := 847) dL_law_585 (by decide) (fun c134 => ?_) (fun c134 => ?_)
        · rw [if_pos c134] at h
          refine ax_iinc (i := 3) (v := (a3 + (6))) (L2 := [some (av_r a0), some (av_r a1), some (av_r a2), some (av_i (a3 + (6)))]) dL_law_847 rfl rfl (by decide) rfl rfl ?_
          refine ax_goto (tgt := 18) dL_law_850 (by decide) ?_
          exact ax_less (L' := [(some (av_r a0)), (some (av_r a1)), (some (av_r a2)), (some (av_i (a3 + (6))))]) ⟨rfl, rfl, rfl, rfl, trivial⟩ (ih _ _ _ _ _ h)
        · rw [if_neg c134] at h
          refine ax_iconst (v := (0)) dL_law_588 rfl ?_
          exact ax_reti dL_law_589 h
      rw [if_neg c121] at h
      by_cases c135 : v4 = 12
      · rw [if_pos c135] at h
        refine ax_swC (c := 12) (off := 557) (tgt := 590) dL_law_33 c135 (by decide) (by decide) (by decide) rfl (by decide) ?_
        refine ax_aload_n (i := 1) dL_law_590 rfl rfl ?_
        refine ax_aload_n (i := 0) dL_law_591 rfl rfl ?_
        refine ax_iload_n (i := 3) dL_law_592 rfl rfl ?_
        refine ax_iconst (v := (1)) dL_law_593 rfl ?_
        refine ax_iadd dL_law_594 ?_
        obtain ⟨x136, gx136, h⟩ := Option.bind_eq_some_iff.mp h
        refine ax_iald dL_law_595 gx136 ?_
        refine ax_aload_n (i := 0) dL_law_596 rfl rfl ?_
        refine ax_iload_n (i := 3) dL_law_597 rfl rfl ?_
        refine ax_iconst (v := (2)) dL_law_598 rfl ?_
        refine ax_iadd dL_law_599 ?_
        obtain ⟨x137, gx137, h⟩ := Option.bind_eq_some_iff.mp h
        refine ax_iald dL_law_600 gx137 ?_
        refine ax_aload_n (i := 0) dL_law_601 rfl rfl ?_
        refine ax_iload_n (i := 3) dL_law_602 rfl rfl ?_
        refine ax_iconst (v := (3)) dL_law_603 rfl ?_
        refine ax_iadd dL_law_604 ?_
        obtain ⟨x138, gx138, h⟩ := Option.bind_eq_some_iff.mp h
        refine ax_iald dL_law_605 gx138 ?_
        obtain ⟨w139, gw139, h⟩ := Option.bind_eq_some_iff.mp h
        obtain ⟨q140, gq140, h⟩ := Option.bind_eq_some_iff.mp h
        refine ax_cV (As := [av_i x136, av_i x137, av_i x138]) (t := 6) dL_law_606 gw139 (th_X9_compare gq140) rfl (And.intro wd_521 wd_53) wd_518 wd_519 wd_520 cy_X9_compare (by omega) (by decide) (Nat.le_of_ble_eq_true rfl) rfl ?_
        refine ax_aload_n (i := 2) dL_law_609 rfl rfl ?_
        refine ax_aload_n (i := 0) dL_law_610 rfl rfl ?_
        refine ax_iload_n (i := 3) dL_law_611 rfl rfl ?_
        refine ax_iconst (v := (1)) dL_law_612 rfl ?_
        refine ax_iadd dL_law_613 ?_
        obtain ⟨x141, gx141, h⟩ := Option.bind_eq_some_iff.mp h
        refine ax_iald dL_law_614 gx141 ?_
        refine ax_aload_n (i := 0) dL_law_615 rfl rfl ?_
        refine ax_iload_n (i := 3) dL_law_616 rfl rfl ?_
        refine ax_iconst (v := (2)) dL_law_617 rfl ?_
        refine ax_iadd dL_law_618 ?_
        obtain ⟨x142, gx142, h⟩ := Option.bind_eq_some_iff.mp h
        refine ax_iald dL_law_619 gx142 ?_
        refine ax_aload_n (i := 0) dL_law_620 rfl rfl ?_
        refine ax_iload_n (i := 3) dL_law_621 rfl rfl ?_
        refine ax_iconst (v := (3)) dL_law_622 rfl ?_
        refine ax_iadd dL_law_623 ?_
        obtain ⟨x143, gx143, h⟩ := Option.bind_eq_some_iff.mp h
        refine ax_iald dL_law_624 gx143 ?_
        obtain ⟨w144, gw144, h⟩ := Option.bind_eq_some_iff.mp h
        obtain ⟨q145, gq145, h⟩ := Option.bind_eq_some_iff.mp h
        refine ax_cV (As := [av_i x141, av_i x142, av_i x143]) (t := 7) dL_law_625 gw144 (th_X10_compare gq145) rfl (And.intro wd_1021 wd_60) wd_1018 wd_1019 wd_1020 cy_X10_compare (by omega) (by decide) (Nat.le_of_ble_eq_true rfl) rfl ?_
        refine ax_icmp_eq (tgt := 847) dL_law_628 (by decide) (fun c146 => ?_) (fun c146 => ?_)
        · rw [if_pos c146] at h
          refine ax_iinc (i := 3) (v := (a3 + (6))) (L2 := [some (av_r a0), some (av_r a1), some (av_r a2), some (av_i (a3 + (6)))]) dL_law_847 rfl rfl (by decide) rfl rfl ?_
          refine ax_goto (tgt := 18) dL_law_850 (by decide) ?_
          exact ax_less (L' := [(some (av_r a0)), (some (av_r a1)), (some (av_r a2)), (some (av_i (a3 + (6))))]) ⟨rfl, rfl, rfl, rfl, trivial⟩ (ih _ _ _ _ _ h)
        · rw [if_neg c146] at h
          refine ax_iconst (v := (0)) dL_law_631 rfl ?_
          exact ax_reti dL_law_632 h
      rw [if_neg c135] at h
      by_cases c147 : v4 = 13
      · rw [if_pos c147] at h
        refine ax_swC (c := 13) (off := 600) (tgt := 633) dL_law_33 c147 (by decide) (by decide) (by decide) rfl (by decide) ?_
        refine ax_aload_n (i := 1) dL_law_633 rfl rfl ?_
        refine ax_aload_n (i := 0) dL_law_634 rfl rfl ?_
        refine ax_iload_n (i := 3) dL_law_635 rfl rfl ?_
        refine ax_iconst (v := (1)) dL_law_636 rfl ?_
        refine ax_iadd dL_law_637 ?_
        obtain ⟨x148, gx148, h⟩ := Option.bind_eq_some_iff.mp h
        refine ax_iald dL_law_638 gx148 ?_
        obtain ⟨w149, gw149, h⟩ := Option.bind_eq_some_iff.mp h
        obtain ⟨q150, gq150, h⟩ := Option.bind_eq_some_iff.mp h
        refine ax_cV (As := [av_i x148]) (t := 6) dL_law_639 gw149 (th_X9_setRoom gq150) rfl (And.intro wd_531 wd_53) wd_528 wd_529 wd_530 cy_X9_setRoom (by omega) (by decide) (Nat.le_of_ble_eq_true rfl) rfl ?_
        refine ax_aload_n (i := 2) dL_law_642 rfl rfl ?_
        refine ax_aload_n (i := 0) dL_law_643 rfl rfl ?_
        refine ax_iload_n (i := 3) dL_law_644 rfl rfl ?_
        refine ax_iconst (v := (1)) dL_law_645 rfl ?_
        refine ax_iadd dL_law_646 ?_
        obtain ⟨x151, gx151, h⟩ := Option.bind_eq_some_iff.mp h
        refine ax_iald dL_law_647 gx151 ?_
        obtain ⟨w152, gw152, h⟩ := Option.bind_eq_some_iff.mp h
        obtain ⟨q153, gq153, h⟩ := Option.bind_eq_some_iff.mp h
        refine ax_cV (As := [av_i x151]) (t := 7) dL_law_648 gw152 (th_X10_setRoom gq153) rfl (And.intro wd_1025 wd_60) wd_1022 wd_1023 wd_1024 cy_X10_setRoom (by omega) (by decide) (Nat.le_of_ble_eq_true rfl) rfl ?_
        refine ax_icmp_eq (tgt := 847) dL_law_651 (by decide) (fun c154 => ?_) (fun c154 => ?_)
        · rw [if_pos c154] at h
          refine ax_iinc (i := 3) (v := (a3 + (6))) (L2 := [some (av_r a0), some (av_r a1), some (av_r a2), some (av_i (a3 + (6)))]) dL_law_847 rfl rfl (by decide) rfl rfl ?_
          refine ax_goto (tgt := 18) dL_law_850 (by decide) ?_
          exact ax_less (L' := [(some (av_r a0)), (some (av_r a1)), (some (av_r a2)), (some (av_i (a3 + (6))))]) ⟨rfl, rfl, rfl, rfl, trivial⟩ (ih _ _ _ _ _ h)
        · rw [if_neg c154] at h
          refine ax_iconst (v := (0)) dL_law_654 rfl ?_
          exact ax_reti dL_law_655 h
      rw [if_neg c147] at h
      by_cases c155 : v4 = 14
      · rw [if_pos c155] at h
        refine ax_swC (c := 14) (off := 623) (tgt := 656) dL_law_33 c155 (by decide) (by decide) (by decide) rfl (by decide) ?_
        refine ax_aload_n (i := 1) dL_law_656 rfl rfl ?_
        refine ax_aload_n (i := 0) dL_law_657 rfl rfl ?_
        refine ax_iload_n (i := 3) dL_law_658 rfl rfl ?_
        refine ax_iconst (v := (1)) dL_law_659 rfl ?_
        refine ax_iadd dL_law_660 ?_
        obtain ⟨x156, gx156, h⟩ := Option.bind_eq_some_iff.mp h
        refine ax_iald dL_law_661 gx156 ?_
        refine ax_aload_n (i := 0) dL_law_662 rfl rfl ?_
        refine ax_iload_n (i := 3) dL_law_663 rfl rfl ?_
        refine ax_iconst (v := (2)) dL_law_664 rfl ?_
        refine ax_iadd dL_law_665 ?_
        obtain ⟨x157, gx157, h⟩ := Option.bind_eq_some_iff.mp h
        refine ax_iald dL_law_666 gx157 ?_
        obtain ⟨w158, gw158, h⟩ := Option.bind_eq_some_iff.mp h
        obtain ⟨q159, gq159, h⟩ := Option.bind_eq_some_iff.mp h
        refine ax_cV (As := [av_i x156, av_i x157]) (t := 6) dL_law_667 gw158 (th_X9_isCached gq159) rfl (And.intro wd_539 wd_53) wd_536 wd_537 wd_538 cy_X9_isCached (by omega) (by decide) (Nat.le_of_ble_eq_true rfl) rfl ?_
        refine ax_aload_n (i := 2) dL_law_670 rfl rfl ?_
        refine ax_aload_n (i := 0) dL_law_671 rfl rfl ?_
        refine ax_iload_n (i := 3) dL_law_672 rfl rfl ?_
        refine ax_iconst (v := (1)) dL_law_673 rfl ?_
        refine ax_iadd dL_law_674 ?_
        obtain ⟨x160, gx160, h⟩ := Option.bind_eq_some_iff.mp h
        refine ax_iald dL_law_675 gx160 ?_
        refine ax_aload_n (i := 0) dL_law_676 rfl rfl ?_
        refine ax_iload_n (i := 3) dL_law_677 rfl rfl ?_
        refine ax_iconst (v := (2)) dL_law_678 rfl ?_
        refine ax_iadd dL_law_679 ?_
        obtain ⟨x161, gx161, h⟩ := Option.bind_eq_some_iff.mp h
        refine ax_iald dL_law_680 gx161 ?_
        obtain ⟨w162, gw162, h⟩ := Option.bind_eq_some_iff.mp h
        obtain ⟨q163, gq163, h⟩ := Option.bind_eq_some_iff.mp h
        refine ax_cV (As := [av_i x160, av_i x161]) (t := 7) dL_law_681 gw162 (th_X10_isCached gq163) rfl (And.intro wd_1029 wd_60) wd_1026 wd_1027 wd_1028 cy_X10_isCached (by omega) (by decide) (Nat.le_of_ble_eq_true rfl) rfl ?_
        refine ax_icmp_eq (tgt := 847) dL_law_684 (by decide) (fun c164 => ?_) (fun c164 => ?_)
        · rw [if_pos c164] at h
          refine ax_iinc (i := 3) (v := (a3 + (6))) (L2 := [some (av_r a0), some (av_r a1), some (av_r a2), some (av_i (a3 + (6)))]) dL_law_847 rfl rfl (by decide) rfl rfl ?_
          refine ax_goto (tgt := 18) dL_law_850 (by decide) ?_
          exact ax_less (L' := [(some (av_r a0)), (some (av_r a1)), (some (av_r a2)), (some (av_i (a3 + (6))))]) ⟨rfl, rfl, rfl, rfl, trivial⟩ (ih _ _ _ _ _ h)
        · rw [if_neg c164] at h
          refine ax_iconst (v := (0)) dL_law_687 rfl ?_
          exact ax_reti dL_law_688 h
      rw [if_neg c155] at h
      by_cases c165 : v4 = 15
      · rw [if_pos c165] at h
        refine ax_swC (c := 15) (off := 656) (tgt := 689) dL_law_33 c165 (by decide) (by decide) (by decide) rfl (by decide) ?_
        refine ax_aload_n (i := 1) dL_law_689 rfl rfl ?_
        refine ax_aload_n (i := 0) dL_law_690 rfl rfl ?_
        refine ax_iload_n (i := 3) dL_law_691 rfl rfl ?_
        refine ax_iconst (v := (1)) dL_law_692 rfl ?_
        refine ax_iadd dL_law_693 ?_
        obtain ⟨x166, gx166, h⟩ := Option.bind_eq_some_iff.mp h
        refine ax_iald dL_law_694 gx166 ?_
        obtain ⟨w167, gw167, h⟩ := Option.bind_eq_some_iff.mp h
        obtain ⟨q168, gq168, h⟩ := Option.bind_eq_some_iff.mp h
        refine ax_cV (As := [av_i x166]) (t := 6) dL_law_695 gw167 (th_X9_count gq168) rfl (And.intro wd_543 wd_53) wd_540 wd_541 wd_542 cy_X9_count (by omega) (by decide) (Nat.le_of_ble_eq_true rfl) rfl ?_
        refine ax_aload_n (i := 2) dL_law_698 rfl rfl ?_
        refine ax_aload_n (i := 0) dL_law_699 rfl rfl ?_
        refine ax_iload_n (i := 3) dL_law_700 rfl rfl ?_
        refine ax_iconst (v := (1)) dL_law_701 rfl ?_
        refine ax_iadd dL_law_702 ?_
        obtain ⟨x169, gx169, h⟩ := Option.bind_eq_some_iff.mp h
        refine ax_iald dL_law_703 gx169 ?_
        obtain ⟨w170, gw170, h⟩ := Option.bind_eq_some_iff.mp h
        obtain ⟨q171, gq171, h⟩ := Option.bind_eq_some_iff.mp h
        refine ax_cV (As := [av_i x169]) (t := 7) dL_law_704 gw170 (th_X10_count gq171) rfl (And.intro wd_1033 wd_60) wd_1030 wd_1031 wd_1032 cy_X10_count (by omega) (by decide) (Nat.le_of_ble_eq_true rfl) rfl ?_
        refine ax_icmp_eq (tgt := 847) dL_law_707 (by decide) (fun c172 => ?_) (fun c172 => ?_)
        · rw [if_pos c172] at h
          refine ax_iinc (i := 3) (v := (a3 + (6))) (L2 := [some (av_r a0), some (av_r a1), some (av_r a2), some (av_i (a3 + (6)))]) dL_law_847 rfl rfl (by decide) rfl rfl ?_
          refine ax_goto (tgt := 18) dL_law_850 (by decide) ?_
          exact ax_less (L' := [(some (av_r a0)), (some (av_r a1)), (some (av_r a2)), (some (av_i (a3 + (6))))]) ⟨rfl, rfl, rfl, rfl, trivial⟩ (ih _ _ _ _ _ h)
        · rw [if_neg c172] at h
          refine ax_iconst (v := (0)) dL_law_710 rfl ?_
          exact ax_reti dL_law_711 h
      rw [if_neg c165] at h
      by_cases c173 : v4 = 16
      · rw [if_pos c173] at h
        refine ax_swC (c := 16) (off := 679) (tgt := 712) dL_law_33 c173 (by decide) (by decide) (by decide) rfl (by decide) ?_
        refine ax_aload_n (i := 1) dL_law_712 rfl rfl ?_
        refine ax_aload_n (i := 0) dL_law_713 rfl rfl ?_
        refine ax_iload_n (i := 3) dL_law_714 rfl rfl ?_
        refine ax_iconst (v := (1)) dL_law_715 rfl ?_
        refine ax_iadd dL_law_716 ?_
        obtain ⟨x174, gx174, h⟩ := Option.bind_eq_some_iff.mp h
        refine ax_iald dL_law_717 gx174 ?_
        obtain ⟨w175, gw175, h⟩ := Option.bind_eq_some_iff.mp h
        obtain ⟨q176, gq176, h⟩ := Option.bind_eq_some_iff.mp h
        refine ax_cV (As := [av_i x174]) (t := 6) dL_law_718 gw175 (th_X9_append gq176) rfl (And.intro wd_547 wd_53) wd_544 wd_545 wd_546 cy_X9_append (by omega) (by decide) (Nat.le_of_ble_eq_true rfl) rfl ?_
        refine ax_aload_n (i := 2) dL_law_721 rfl rfl ?_
        refine ax_aload_n (i := 0) dL_law_722 rfl rfl ?_
        refine ax_iload_n (i := 3) dL_law_723 rfl rfl ?_
        refine ax_iconst (v := (1)) dL_law_724 rfl ?_
        refine ax_iadd dL_law_725 ?_
        obtain ⟨x177, gx177, h⟩ := Option.bind_eq_some_iff.mp h
        refine ax_iald dL_law_726 gx177 ?_
        obtain ⟨w178, gw178, h⟩ := Option.bind_eq_some_iff.mp h
        obtain ⟨q179, gq179, h⟩ := Option.bind_eq_some_iff.mp h
        refine ax_cV (As := [av_i x177]) (t := 7) dL_law_727 gw178 (th_X10_append gq179) rfl (And.intro wd_1041 wd_60) wd_1038 wd_1039 wd_1040 cy_X10_append (by omega) (by decide) (Nat.le_of_ble_eq_true rfl) rfl ?_
        refine ax_icmp_eq (tgt := 847) dL_law_730 (by decide) (fun c180 => ?_) (fun c180 => ?_)
        · rw [if_pos c180] at h
          refine ax_iinc (i := 3) (v := (a3 + (6))) (L2 := [some (av_r a0), some (av_r a1), some (av_r a2), some (av_i (a3 + (6)))]) dL_law_847 rfl rfl (by decide) rfl rfl ?_
          refine ax_goto (tgt := 18) dL_law_850 (by decide) ?_
          exact ax_less (L' := [(some (av_r a0)), (some (av_r a1)), (some (av_r a2)), (some (av_i (a3 + (6))))]) ⟨rfl, rfl, rfl, rfl, trivial⟩ (ih _ _ _ _ _ h)
        · rw [if_neg c180] at h
          refine ax_iconst (v := (0)) dL_law_733 rfl ?_
          exact ax_reti dL_law_734 h
      rw [if_neg c173] at h
      by_cases c181 : v4 = 17
      · rw [if_pos c181] at h
        refine ax_swC (c := 17) (off := 702) (tgt := 735) dL_law_33 c181 (by decide) (by decide) (by decide) rfl (by decide) ?_
        refine ax_aload_n (i := 1) dL_law_735 rfl rfl ?_
        obtain ⟨w182, gw182, h⟩ := Option.bind_eq_some_iff.mp h
        obtain ⟨q183, gq183, h⟩ := Option.bind_eq_some_iff.mp h
        refine ax_cV (As := []) (t := 6) dL_law_736 gw182 (th_X9_clearText gq183) rfl (And.intro wd_555 wd_53) wd_552 wd_553 wd_554 cy_X9_clearText (by omega) (by decide) (Nat.le_of_ble_eq_true rfl) rfl ?_
        refine ax_aload_n (i := 2) dL_law_739 rfl rfl ?_
        obtain ⟨w184, gw184, h⟩ := Option.bind_eq_some_iff.mp h
        obtain ⟨q185, gq185, h⟩ := Option.bind_eq_some_iff.mp h
        refine ax_cV (As := []) (t := 7) dL_law_740 gw184 (th_X10_clearText gq185) rfl (And.intro wd_1045 wd_60) wd_1042 wd_1043 wd_1044 cy_X10_clearText (by omega) (by decide) (Nat.le_of_ble_eq_true rfl) rfl ?_
        refine ax_icmp_eq (tgt := 847) dL_law_743 (by decide) (fun c186 => ?_) (fun c186 => ?_)
        · rw [if_pos c186] at h
          refine ax_iinc (i := 3) (v := (a3 + (6))) (L2 := [some (av_r a0), some (av_r a1), some (av_r a2), some (av_i (a3 + (6)))]) dL_law_847 rfl rfl (by decide) rfl rfl ?_
          refine ax_goto (tgt := 18) dL_law_850 (by decide) ?_
          exact ax_less (L' := [(some (av_r a0)), (some (av_r a1)), (some (av_r a2)), (some (av_i (a3 + (6))))]) ⟨rfl, rfl, rfl, rfl, trivial⟩ (ih _ _ _ _ _ h)
        · rw [if_neg c186] at h
          refine ax_iconst (v := (0)) dL_law_746 rfl ?_
          exact ax_reti dL_law_747 h
      rw [if_neg c181] at h
      by_cases c187 : v4 = 18
      · rw [if_pos c187] at h
        refine ax_swC (c := 18) (off := 715) (tgt := 748) dL_law_33 c187 (by decide) (by decide) (by decide) rfl (by decide) ?_
        refine ax_aload_n (i := 1) dL_law_748 rfl rfl ?_
        obtain ⟨w188, gw188, h⟩ := Option.bind_eq_some_iff.mp h
        obtain ⟨q189, gq189, h⟩ := Option.bind_eq_some_iff.mp h
        refine ax_cV (As := []) (t := 6) dL_law_749 gw188 (th_X9_faultPosition gq189) rfl (And.intro wd_563 wd_53) wd_560 wd_561 wd_562 cy_X9_faultPosition (by omega) (by decide) (Nat.le_of_ble_eq_true rfl) rfl ?_
        refine ax_aload_n (i := 2) dL_law_752 rfl rfl ?_
        obtain ⟨w190, gw190, h⟩ := Option.bind_eq_some_iff.mp h
        obtain ⟨q191, gq191, h⟩ := Option.bind_eq_some_iff.mp h
        refine ax_cV (As := []) (t := 7) dL_law_753 gw190 (th_X10_faultPosition gq191) rfl (And.intro wd_1049 wd_60) wd_1046 wd_1047 wd_1048 cy_X10_faultPosition (by omega) (by decide) (Nat.le_of_ble_eq_true rfl) rfl ?_
        refine ax_icmp_eq (tgt := 847) dL_law_756 (by decide) (fun c192 => ?_) (fun c192 => ?_)
        · rw [if_pos c192] at h
          refine ax_iinc (i := 3) (v := (a3 + (6))) (L2 := [some (av_r a0), some (av_r a1), some (av_r a2), some (av_i (a3 + (6)))]) dL_law_847 rfl rfl (by decide) rfl rfl ?_
          refine ax_goto (tgt := 18) dL_law_850 (by decide) ?_
          exact ax_less (L' := [(some (av_r a0)), (some (av_r a1)), (some (av_r a2)), (some (av_i (a3 + (6))))]) ⟨rfl, rfl, rfl, rfl, trivial⟩ (ih _ _ _ _ _ h)
        · rw [if_neg c192] at h
          refine ax_iconst (v := (0)) dL_law_759 rfl ?_
          exact ax_reti dL_law_760 h
      rw [if_neg c187] at h
      by_cases c193 : v4 = 19
      · rw [if_pos c193] at h
        refine ax_swC (c := 19) (off := 728) (tgt := 761) dL_law_33 c193 (by decide) (by decide) (by decide) rfl (by decide) ?_
        refine ax_aload_n (i := 1) dL_law_761 rfl rfl ?_
        obtain ⟨w194, gw194, h⟩ := Option.bind_eq_some_iff.mp h
        obtain ⟨q195, gq195, h⟩ := Option.bind_eq_some_iff.mp h
        refine ax_cV (As := []) (t := 6) dL_law_762 gw194 (th_X9_faultDepth gq195) rfl (And.intro wd_702 wd_53) wd_699 wd_700 wd_701 cy_X9_faultDepth (by omega) (by decide) (Nat.le_of_ble_eq_true rfl) rfl ?_
        refine ax_aload_n (i := 2) dL_law_765 rfl rfl ?_
        obtain ⟨w196, gw196, h⟩ := Option.bind_eq_some_iff.mp h
        obtain ⟨q197, gq197, h⟩ := Option.bind_eq_some_iff.mp h
        refine ax_cV (As := []) (t := 7) dL_law_766 gw196 (th_X10_faultDepth gq197) rfl (And.intro wd_1089 wd_60) wd_1086 wd_1087 wd_1088 cy_X10_faultDepth (by omega) (by decide) (Nat.le_of_ble_eq_true rfl) rfl ?_
        refine ax_icmp_eq (tgt := 847) dL_law_769 (by decide) (fun c198 => ?_) (fun c198 => ?_)
        · rw [if_pos c198] at h
          refine ax_iinc (i := 3) (v := (a3 + (6))) (L2 := [some (av_r a0), some (av_r a1), some (av_r a2), some (av_i (a3 + (6)))]) dL_law_847 rfl rfl (by decide) rfl rfl ?_
          refine ax_goto (tgt := 18) dL_law_850 (by decide) ?_
          exact ax_less (L' := [(some (av_r a0)), (some (av_r a1)), (some (av_r a2)), (some (av_i (a3 + (6))))]) ⟨rfl, rfl, rfl, rfl, trivial⟩ (ih _ _ _ _ _ h)
        · rw [if_neg c198] at h
          refine ax_iconst (v := (0)) dL_law_772 rfl ?_
          exact ax_reti dL_law_773 h
      rw [if_neg c193] at h
      by_cases c199 : v4 = 20
      · rw [if_pos c199] at h
        refine ax_swC (c := 20) (off := 741) (tgt := 774) dL_law_33 c199 (by decide) (by decide) (by decide) rfl (by decide) ?_
        refine ax_aload_n (i := 1) dL_law_774 rfl rfl ?_
        obtain ⟨w200, gw200, h⟩ := Option.bind_eq_some_iff.mp h
        obtain ⟨q201, gq201, h⟩ := Option.bind_eq_some_iff.mp h
        refine ax_cV (As := []) (t := 6) dL_law_775 gw200 (th_X9_build gq201) rfl (And.intro wd_711 wd_53) wd_708 wd_709 wd_710 cy_X9_build (by omega) (by decide) (Nat.le_of_ble_eq_true rfl) rfl ?_
        refine ax_aload_n (i := 2) dL_law_778 rfl rfl ?_
        obtain ⟨w202, gw202, h⟩ := Option.bind_eq_some_iff.mp h
        obtain ⟨q203, gq203, h⟩ := Option.bind_eq_some_iff.mp h
        refine ax_cV (As := []) (t := 7) dL_law_779 gw202 (th_X10_build gq203) rfl (And.intro wd_1093 wd_60) wd_1090 wd_1091 wd_1092 cy_X10_build (by omega) (by decide) (Nat.le_of_ble_eq_true rfl) rfl ?_
        refine ax_icmp_eq (tgt := 847) dL_law_782 (by decide) (fun c204 => ?_) (fun c204 => ?_)
        · rw [if_pos c204] at h
          refine ax_iinc (i := 3) (v := (a3 + (6))) (L2 := [some (av_r a0), some (av_r a1), some (av_r a2), some (av_i (a3 + (6)))]) dL_law_847 rfl rfl (by decide) rfl rfl ?_
          refine ax_goto (tgt := 18) dL_law_850 (by decide) ?_
          exact ax_less (L' := [(some (av_r a0)), (some (av_r a1)), (some (av_r a2)), (some (av_i (a3 + (6))))]) ⟨rfl, rfl, rfl, rfl, trivial⟩ (ih _ _ _ _ _ h)
        · rw [if_neg c204] at h
          refine ax_iconst (v := (0)) dL_law_785 rfl ?_
          exact ax_reti dL_law_786 h
      rw [if_neg c199] at h
      by_cases c205 : v4 = 21
      · rw [if_pos c205] at h
        refine ax_swC (c := 21) (off := 754) (tgt := 787) dL_law_33 c205 (by decide) (by decide) (by decide) rfl (by decide) ?_
        refine ax_aload_n (i := 1) dL_law_787 rfl rfl ?_
        refine ax_aload_n (i := 0) dL_law_788 rfl rfl ?_
        refine ax_iload_n (i := 3) dL_law_789 rfl rfl ?_
        refine ax_iconst (v := (1)) dL_law_790 rfl ?_
        refine ax_iadd dL_law_791 ?_
        obtain ⟨x206, gx206, h⟩ := Option.bind_eq_some_iff.mp h
        refine ax_iald dL_law_792 gx206 ?_
        obtain ⟨w207, gw207, h⟩ := Option.bind_eq_some_iff.mp h
        obtain ⟨q208, gq208, h⟩ := Option.bind_eq_some_iff.mp h
        refine ax_cV (As := [av_i x206]) (t := 6) dL_law_793 gw207 (th_X9_save gq208) rfl (And.intro wd_724 wd_53) wd_721 wd_722 wd_723 cy_X9_save (by omega) (by decide) (Nat.le_of_ble_eq_true rfl) rfl ?_
        refine ax_aload_n (i := 2) dL_law_796 rfl rfl ?_
        refine ax_aload_n (i := 0) dL_law_797 rfl rfl ?_
        refine ax_iload_n (i := 3) dL_law_798 rfl rfl ?_
        refine ax_iconst (v := (1)) dL_law_799 rfl ?_
        refine ax_iadd dL_law_800 ?_
        obtain ⟨x209, gx209, h⟩ := Option.bind_eq_some_iff.mp h
        refine ax_iald dL_law_801 gx209 ?_
        obtain ⟨w210, gw210, h⟩ := Option.bind_eq_some_iff.mp h
        obtain ⟨q211, gq211, h⟩ := Option.bind_eq_some_iff.mp h
        refine ax_cV (As := [av_i x209]) (t := 7) dL_law_802 gw210 (th_X10_save gq211) rfl (And.intro wd_1097 wd_60) wd_1094 wd_1095 wd_1096 cy_X10_save (by omega) (by decide) (Nat.le_of_ble_eq_true rfl) rfl ?_
        refine ax_icmp_eq (tgt := 847) dL_law_805 (by decide) (fun c212 => ?_) (fun c212 => ?_)
        · rw [if_pos c212] at h
          refine ax_iinc (i := 3) (v := (a3 + (6))) (L2 := [some (av_r a0), some (av_r a1), some (av_r a2), some (av_i (a3 + (6)))]) dL_law_847 rfl rfl (by decide) rfl rfl ?_
          refine ax_goto (tgt := 18) dL_law_850 (by decide) ?_
          exact ax_less (L' := [(some (av_r a0)), (some (av_r a1)), (some (av_r a2)), (some (av_i (a3 + (6))))]) ⟨rfl, rfl, rfl, rfl, trivial⟩ (ih _ _ _ _ _ h)
        · rw [if_neg c212] at h
          refine ax_iconst (v := (0)) dL_law_808 rfl ?_
          exact ax_reti dL_law_809 h
      rw [if_neg c205] at h
      by_cases c213 : v4 = 22
      · rw [if_pos c213] at h
        refine ax_swC (c := 22) (off := 777) (tgt := 810) dL_law_33 c213 (by decide) (by decide) (by decide) rfl (by decide) ?_
        refine ax_aload_n (i := 1) dL_law_810 rfl rfl ?_
        refine ax_aload_n (i := 0) dL_law_811 rfl rfl ?_
        refine ax_iload_n (i := 3) dL_law_812 rfl rfl ?_
        refine ax_iconst (v := (1)) dL_law_813 rfl ?_
        refine ax_iadd dL_law_814 ?_
        obtain ⟨x214, gx214, h⟩ := Option.bind_eq_some_iff.mp h
        refine ax_iald dL_law_815 gx214 ?_
        obtain ⟨w215, gw215, h⟩ := Option.bind_eq_some_iff.mp h
        obtain ⟨q216, gq216, h⟩ := Option.bind_eq_some_iff.mp h
        refine ax_cV (As := [av_i x214]) (t := 6) dL_law_816 gw215 (th_X9_restore gq216) rfl (And.intro wd_733 wd_53) wd_730 wd_731 wd_732 cy_X9_restore (by omega) (by decide) (Nat.le_of_ble_eq_true rfl) rfl ?_
        refine ax_aload_n (i := 2) dL_law_819 rfl rfl ?_
        refine ax_aload_n (i := 0) dL_law_820 rfl rfl ?_
        refine ax_iload_n (i := 3) dL_law_821 rfl rfl ?_
        refine ax_iconst (v := (1)) dL_law_822 rfl ?_
        refine ax_iadd dL_law_823 ?_
        obtain ⟨x217, gx217, h⟩ := Option.bind_eq_some_iff.mp h
        refine ax_iald dL_law_824 gx217 ?_
        obtain ⟨w218, gw218, h⟩ := Option.bind_eq_some_iff.mp h
        obtain ⟨q219, gq219, h⟩ := Option.bind_eq_some_iff.mp h
        refine ax_cV (As := [av_i x217]) (t := 7) dL_law_825 gw218 (th_X10_restore gq219) rfl (And.intro wd_1101 wd_60) wd_1098 wd_1099 wd_1100 cy_X10_restore (by omega) (by decide) (Nat.le_of_ble_eq_true rfl) rfl ?_
        refine ax_icmp_eq (tgt := 847) dL_law_828 (by decide) (fun c220 => ?_) (fun c220 => ?_)
        · rw [if_pos c220] at h
          refine ax_iinc (i := 3) (v := (a3 + (6))) (L2 := [some (av_r a0), some (av_r a1), some (av_r a2), some (av_i (a3 + (6)))]) dL_law_847 rfl rfl (by decide) rfl rfl ?_
          refine ax_goto (tgt := 18) dL_law_850 (by decide) ?_
          exact ax_less (L' := [(some (av_r a0)), (some (av_r a1)), (some (av_r a2)), (some (av_i (a3 + (6))))]) ⟨rfl, rfl, rfl, rfl, trivial⟩ (ih _ _ _ _ _ h)
        · rw [if_neg c220] at h
          refine ax_iconst (v := (0)) dL_law_831 rfl ?_
          exact ax_reti dL_law_832 h
      rw [if_neg c213] at h
      by_cases c221 : v4 = 23
      · rw [if_pos c221] at h
        refine ax_swC (c := 23) (off := 800) (tgt := 833) dL_law_33 c221 (by decide) (by decide) (by decide) rfl (by decide) ?_
        refine ax_aload_n (i := 1) dL_law_833 rfl rfl ?_
        obtain ⟨w222, gw222, h⟩ := Option.bind_eq_some_iff.mp h
        obtain ⟨q223, gq223, h⟩ := Option.bind_eq_some_iff.mp h
        refine ax_cV (As := []) (t := 6) dL_law_834 gw222 (th_X9_checksum gq223) rfl (And.intro wd_737 wd_53) wd_734 wd_735 wd_736 cy_X9_checksum (by omega) (by decide) (Nat.le_of_ble_eq_true rfl) rfl ?_
        refine ax_aload_n (i := 2) dL_law_837 rfl rfl ?_
        obtain ⟨w224, gw224, h⟩ := Option.bind_eq_some_iff.mp h
        obtain ⟨q225, gq225, h⟩ := Option.bind_eq_some_iff.mp h
        refine ax_cV (As := []) (t := 7) dL_law_838 gw224 (th_X10_checksum gq225) rfl (And.intro wd_1105 wd_60) wd_1102 wd_1103 wd_1104 cy_X10_checksum (by omega) (by decide) (Nat.le_of_ble_eq_true rfl) rfl ?_
        refine ax_lcmp dL_law_841 ?_
        refine ax_if_eq (tgt := 847) dL_law_842 (by decide) (fun c226 => ?_) (fun c226 => ?_)
        · rw [if_pos c226] at h
          refine ax_iinc (i := 3) (v := (a3 + (6))) (L2 := [some (av_r a0), some (av_r a1), some (av_r a2), some (av_i (a3 + (6)))]) dL_law_847 rfl rfl (by decide) rfl rfl ?_
          refine ax_goto (tgt := 18) dL_law_850 (by decide) ?_
          exact ax_less (L' := [(some (av_r a0)), (some (av_r a1)), (some (av_r a2)), (some (av_i (a3 + (6))))]) ⟨rfl, rfl, rfl, rfl, trivial⟩ (ih _ _ _ _ _ h)
        · rw [if_neg c226] at h
          refine ax_iconst (v := (0)) dL_law_845 rfl ?_
          exact ax_reti dL_law_846 h
      rw [if_neg c221] at h
      refine ax_swD (tgt := 847) dL_law_33 (fun c hc1 hc2 => ?_) (by decide) ?_
      · have hcc : c = 0 ∨ c = 1 ∨ c = 2 ∨ c = 3 ∨ c = 4 ∨ c = 5 ∨ c = 6 ∨ c = 7 ∨ c = 8 ∨ c = 9 ∨ c = 10 ∨ c = 11 ∨ c = 12 ∨ c = 13 ∨ c = 14 ∨ c = 15 ∨ c = 16 ∨ c = 17 ∨ c = 18 ∨ c = 19 ∨ c = 20 ∨ c = 21 ∨ c = 22 ∨ c = 23 := by omega
        rcases hcc with rfl | rfl | rfl | rfl | rfl | rfl | rfl | rfl | rfl | rfl | rfl | rfl | rfl | rfl | rfl | rfl | rfl | rfl | rfl | rfl | rfl | rfl | rfl | rfl
        · exact Or.inr (fun e => c5 (e.trans (by decide)))
        · exact Or.inr (fun e => c11 (e.trans (by decide)))
        · exact Or.inr (fun e => c19 (e.trans (by decide)))
        · exact Or.inr (fun e => c31 (e.trans (by decide)))
        · exact Or.inr (fun e => c43 (e.trans (by decide)))
        · exact Or.inr (fun e => c55 (e.trans (by decide)))
        · exact Or.inr (fun e => c61 (e.trans (by decide)))
        · exact Or.inr (fun e => c71 (e.trans (by decide)))
        · exact Or.inr (fun e => c81 (e.trans (by decide)))
        · exact Or.inr (fun e => c91 (e.trans (by decide)))
        · exact Or.inr (fun e => c107 (e.trans (by decide)))
        · exact Or.inr (fun e => c121 (e.trans (by decide)))
        · exact Or.inr (fun e => c135 (e.trans (by decide)))
        · exact Or.inr (fun e => c147 (e.trans (by decide)))
        · exact Or.inr (fun e => c155 (e.trans (by decide)))
        · exact Or.inr (fun e => c165 (e.trans (by decide)))
        · exact Or.inr (fun e => c173 (e.trans (by decide)))
        · exact Or.inr (fun e => c181 (e.trans (by decide)))
        · exact Or.inr (fun e => c187 (e.trans (by decide)))
        · exact Or.inr (fun e => c193 (e.trans (by decide)))
        · exact Or.inr (fun e => c199 (e.trans (by decide)))
        · exact Or.inr (fun e => c205 (e.trans (by decide)))
        · exact Or.inr (fun e => c213 (e.trans (by decide)))
        · exact Or.inr (fun e => c221 (e.trans (by decide)))
      refine ax_iinc (i := 3) (v := (a3 + (6))) (L2 := [some (av_r a0), some (av_r a1), some (av_r a2), some (av_i (a3 + (6)))]) dL_law_847 rfl rfl (by decide) rfl rfl ?_
      refine ax_goto (tgt := 18) dL_law_850 (by decide) ?_
      exact ax_less (L' := [(some (av_r a0)), (some (av_r a1)), (some (av_r a2)), (some (av_i (a3 + (6))))]) ⟨rfl, rfl, rfl, rfl, trivial⟩ (ih _ _ _ _ _ h)
def fi_L_law (a0 : Option Nat) (s : ax_S) : Option (Int32 × ax_S) :=
  ax_bd (ax_nw s 6 6) fun s227 =>
  ax_bd (some s.1.length) fun r228 =>
  (ax_sh s227 6 r228).bind fun w229 =>
  (fn_X9_init r228 s227).bind fun q230 =>
  ax_bd (ax_nw q230 7 28) fun s231 =>
  ax_bd (some q230.1.length) fun r232 =>
  (ax_sh s231 7 r232).bind fun w233 =>
  (fn_X10_init r232 s231).bind fun q234 =>
  fb_L_law_18 10000 a0 r228 r232 (0) q234
set_option maxRecDepth 100000 in
set_option maxHeartbeats 4000000 in
theorem tw_L_law {q : Int32 × ax_S} {a0 : Option Nat} {s : ax_S} (h : fi_L_law a0 s = some q) : AW mm_L_law 72 11615 59716 0 [some (av_r a0), none, none, none] [] s (some (av_i q.1), q.2) := by
  unfold fi_L_law at h
  refine ax_newO (t := 6) (q := (RX9, TX9, 6)) (bc := 11614) (bs := 59710) dL_law_0 rfl wd_72 wd_73 wd_53 (by decide +kernel) ?_
  refine ax_bdS h (fun s227 h => ?_)
  refine ax_bdR h (fun r228 h => ?_)
  refine ax_dup dL_law_3 trivial ?_
  obtain ⟨w229, gw229, h⟩ := Option.bind_eq_some_iff.mp h
  obtain ⟨q230, gq230, h⟩ := Option.bind_eq_some_iff.mp h
  refine ax_cI (As := []) (t := 6) (bc := 19) (bs := 5576) (kc := 11595) (ks := 54134) dL_law_4 gw229 (th_X9_init gq230) rfl rfl (And.intro wd_76 wd_53) wd_74 wd_75 cy_X9_init (by omega) (by decide) (Nat.le_of_ble_eq_true rfl) rfl ?_
  refine ax_astore_n (i := 1) (L2 := [some (av_r a0), some (av_r r228), none, none]) dL_law_7 rfl (by decide) rfl rfl ?_
  refine ax_newO (t := 7) (q := (RX10, TX10, 28)) (bc := 18) (bs := 5548) dL_law_8 rfl wd_755 wd_756 wd_60 (by decide +kernel) ?_
  refine ax_bdS h (fun s231 h => ?_)
  refine ax_bdR h (fun r232 h => ?_)
  refine ax_dup dL_law_11 trivial ?_
  obtain ⟨w233, gw233, h⟩ := Option.bind_eq_some_iff.mp h
  obtain ⟨q234, gq234, h⟩ := Option.bind_eq_some_iff.mp h
  refine ax_cI (As := []) (t := 7) (bc := 0) (bs := 0) (kc := 18) (ks := 5548) dL_law_12 gw233 (th_X10_init gq234) rfl rfl (And.intro wd_759 wd_60) wd_757 wd_758 cy_X10_init (by omega) (by decide) (Nat.le_of_ble_eq_true rfl) rfl ?_
  refine ax_astore_n (i := 2) (L2 := [some (av_r a0), some (av_r r228), some (av_r r232), none]) dL_law_15 rfl (by decide) rfl rfl ?_
  refine ax_iconst (v := (0)) dL_law_16 rfl ?_
  refine ax_istore_n (i := 3) (L2 := [some (av_r a0), some (av_r r228), some (av_r r232), some (av_i (0))]) dL_law_17 rfl (by decide) rfl rfl ?_
  refine ax_wide (bc2 := 0) (bs2 := 0) (by omega) (by omega) ?_
  exact ax_less (L' := [(some (av_r a0)), (some (av_r r228)), (some (av_r r232)), (some (av_i (0)))]) ⟨rfl, rfl, rfl, rfl, trivial⟩ (tb_L_law_18  _ _ _ _ _ _ h)
def fn_L_law (a0 : Option Nat) (s : ax_S) : Option (Int32 × ax_S) := ax_bz (fi_L_law a0 s)
