def m_J9_floorDiv_f86c9 (q0 : Int64) (q2 : Int64) (s : zSt) : Option (Int64 × zSt) :=
  (if q2 = 0 then none else (if q0 ^^^ q2 < 0 then
  (if (q0 / q2) * q2 = q0 then
    some (q0 / q2, s)
    else
    some ((q0 / q2) - 1, s))
  else
  some (q0 / q2, s)))
set_option maxRecDepth 100000 in
theorem c_J9_floorDiv_f86c9 {w : zWC} {q0 : Int64} {q2 : Int64} {s : zSt}  {a : Int64 × zSt} (hm : m_J9_floorDiv_f86c9 q0 q2 s = some a) : zCn w 0 yJ9_floorDiv_f86c9 cJ9_floorDiv_f86c9 6 (some .long) [.long q0, .long q2] s (zeL a).1 (zeL a).2 :=
  zCn_of (own := RJ9) (lv := [some (.long q0), none, some (.long q2), none, none, none]) (by decide +kernel) rfl (Nat.le_of_ble_eq_true rfl) rfl (fun x hr => by
    unfold m_J9_floorDiv_f86c9
    refine zj_lload_n dJ9_floorDiv_f86c9_0 rfl ?_
    refine zj_lload_n dJ9_floorDiv_f86c9_1 rfl ?_
    refine zj_ldiv dJ9_floorDiv_f86c9_2 ?_
    refine zj_lstore (lv' := [some (.long q0), none, some (.long q2), none, some (.long (q0 / q2)), none]) dJ9_floorDiv_f86c9_3 (by decide) rfl rfl ?_
    refine zj_lload_n dJ9_floorDiv_f86c9_5 rfl ?_
    refine zj_lload_n dJ9_floorDiv_f86c9_6 rfl ?_
    refine zj_lxor dJ9_floorDiv_f86c9_7 ?_
    refine zj_lconst (v := 0) dJ9_floorDiv_f86c9_8 rfl ?_
    refine zj_lcmp_ge (tgt := 27) dJ9_floorDiv_f86c9_9 dJ9_floorDiv_f86c9_10 (by decide) ?_ ?_
    · refine zj_lload dJ9_floorDiv_f86c9_13 rfl ?_
      refine zj_lload_n dJ9_floorDiv_f86c9_15 rfl ?_
      refine zj_lmul dJ9_floorDiv_f86c9_16 ?_
      refine zj_lload_n dJ9_floorDiv_f86c9_17 rfl ?_
      refine zj_lcmp_eq (tgt := 27) dJ9_floorDiv_f86c9_18 dJ9_floorDiv_f86c9_19 (by decide) ?_ ?_
      · refine zj_lload dJ9_floorDiv_f86c9_27 rfl ?_
        exact zj_lret hr dJ9_floorDiv_f86c9_29
      · refine zj_lload dJ9_floorDiv_f86c9_22 rfl ?_
        refine zj_lconst (v := 1) dJ9_floorDiv_f86c9_24 rfl ?_
        refine zj_lsub dJ9_floorDiv_f86c9_25 ?_
        exact zj_lret hr dJ9_floorDiv_f86c9_26
    · refine zj_lload dJ9_floorDiv_f86c9_27 rfl ?_
      exact zj_lret hr dJ9_floorDiv_f86c9_29) hm
def m_X8_floorOf (q0 : Int64) (q2 : Int64) (s : zSt) : Option (Int64 × zSt) :=
  (if q2 = 0 then
  some (0, s)
  else
  zcl (m_J9_floorDiv_f86c9 q0 q2 s) (fun r2 s1 => some (r2, s1)))
set_option maxRecDepth 100000 in
theorem c_X8_floorOf {w : zWC} {q0 : Int64} {q2 : Int64} {s : zSt}  {a : Int64 × zSt} (hm : m_X8_floorOf q0 q2 s = some a) : zCn w 1 yX8_floorOf cX8_floorOf 4 (some .long) [.long q0, .long q2] s (zeL a).1 (zeL a).2 :=
  zCn_of (own := RX8) (lv := [some (.long q0), none, some (.long q2), none]) (by decide +kernel) rfl (Nat.le_of_ble_eq_true rfl) rfl (fun x hr => by
    unfold m_X8_floorOf
    refine zj_lload_n dX8_floorOf_0 rfl ?_
    refine zj_lconst (v := 0) dX8_floorOf_1 rfl ?_
    refine zj_lcmp_ne (tgt := 10) dX8_floorOf_2 dX8_floorOf_3 (by decide) ?_ ?_
    · refine zj_lconst (v := 0) dX8_floorOf_6 rfl ?_
      refine zj_goto (tgt := 15) dX8_floorOf_7 (by decide) ?_
      exact zj_lret hr dX8_floorOf_15
    · refine zj_lload_n dX8_floorOf_10 rfl ?_
      refine zj_lload_n dX8_floorOf_11 rfl ?_
      refine zj_cSL2 ml_X8_229 (fun a h => c_J9_floorDiv_f86c9  h) (Nat.le_of_ble_eq_true rfl) (Nat.le_of_ble_eq_true rfl) dX8_floorOf_12 (fun r2 s1 => ?_)
      exact zj_lret hr dX8_floorOf_15) hm
def bd_X8_turning_96 (o0 : Nat) (p1 : Int32) (p2 : Int32) (p3 : Int32) (p4 : Int32) (rec96 : Int64 → Int64 → Int64 → Int32 → zSt → Option (Int64 × zSt)) (k132 : Int64 → zSt → Option (Int64 × zSt)) (l5 : Int64) (l7 : Int64) (l9 : Int64) (l11 : Int32) (s : zSt) : Option (Int64 × zSt) :=
  (if l11 < p4 then
  zcl (m_X8_floorOf (((100 : Int64) * l5) - ((l9 - l5) * l7)) 100 s) (fun r21 s20 => rec96 l5 l7 r21 (l11 + 1) s20)
  else
  k132 l9 s)
def lp_X8_turning_96 (o0 : Nat) (p1 : Int32) (p2 : Int32) (p3 : Int32) (p4 : Int32) (k132 : Int64 → zSt → Option (Int64 × zSt)) : Nat → Int64 → Int64 → Int64 → Int32 → zSt → Option (Int64 × zSt)
  | 0, _, _, _, _, _ => none
  | n + 1, l5, l7, l9, l11, s => bd_X8_turning_96 o0 p1 p2 p3 p4 (fun l5 l7 l9 l11 s => lp_X8_turning_96 o0 p1 p2 p3 p4 k132 n l5 l7 l9 l11 s) k132 l5 l7 l9 l11 s
set_option maxRecDepth 100000 in
theorem jb_X8_turning_96 {o0 : Nat} {p1 : Int32} {p2 : Int32} {p3 : Int32} {p4 : Int32} {rec96 : Int64 → Int64 → Int64 → Int32 → zSt → Option (Int64 × zSt)} {k132 : Int64 → zSt → Option (Int64 × zSt)} {l5 : Int64} {l7 : Int64} {l9 : Int64} {l11 : Int32} {s : zSt} {w : zWC} {x : zCX} (hr : zrt x = (some .long))  (h_o0 : zC o0 = 8) (h_rec96 : ∀ (l5 : Int64) (l7 : Int64) (l9 : Int64) (l11 : Int32) (s : zSt), zJ (zQf w x zeL) w x RX8 cX8_turning 13 3 (rec96 l5 l7 l9 l11 s) 96 [some (.ref (zb w + o0)), none, none, none, some (.int p4), some (.long l5), none, some (.long l7), none, some (.long l9), none, some (.int l11), none] [] s) (h_k132 : ∀ (l9 : Int64) (s : zSt), zJ (zQf w x zeL) w x RX8 cX8_turning 13 3 (k132 l9 s) 132 [some (.ref (zb w + o0)), none, none, none, none, none, none, none, none, some (.long l9), none, none, none] [] s) : zJ (zQf w x zeL) w x RX8 cX8_turning 13 3 (bd_X8_turning_96 o0 p1 p2 p3 p4 rec96 k132 l5 l7 l9 l11 s) 96 [some (.ref (zb w + o0)), none, none, none, some (.int p4), some (.long l5), none, some (.long l7), none, some (.long l9), none, some (.int l11), none] [] s := by
  unfold bd_X8_turning_96
  refine zj_iload dX8_turning_96 rfl ?_
  refine zj_iload dX8_turning_98 rfl ?_
  refine zj_icmp_ge (tgt := 132) dX8_turning_100 (by decide) ?_ ?_
  · refine zj_ldc2 dX8_turning_103 kcL_X8_132 ?_
    refine zj_lload dX8_turning_106 rfl ?_
    refine zj_lmul dX8_turning_108 ?_
    refine zj_lload dX8_turning_109 rfl ?_
    refine zj_lload dX8_turning_111 rfl ?_
    refine zj_lsub dX8_turning_113 ?_
    refine zj_lload dX8_turning_114 rfl ?_
    refine zj_lmul dX8_turning_116 ?_
    refine zj_lsub dX8_turning_117 ?_
    refine zj_ldc2 dX8_turning_118 kcL_X8_132 ?_
    refine zj_cSL2 ml_X8_124 (fun a h => c_X8_floorOf  h) (Nat.le_of_ble_eq_true rfl) (Nat.le_of_ble_eq_true rfl) dX8_turning_121 (fun r21 s20 => ?_)
    refine zj_lstore (lv' := [some (.ref (zb w + o0)), none, none, none, some (.int p4), some (.long l5), none, some (.long l7), none, some (.long r21), none, some (.int l11), none]) dX8_turning_124 (by decide) rfl rfl ?_
    refine zj_iinc (v2 := l11 + 1) (lv' := [some (.ref (zb w + o0)), none, none, none, some (.int p4), some (.long l5), none, some (.long l7), none, some (.long r21), none, some (.int (l11 + 1)), none]) dX8_turning_126 rfl (by rw [zic_1]) (by decide) rfl rfl ?_
    refine zj_goto (tgt := 96) dX8_turning_129 (by decide) ?_
    exact h_rec96 _ _ _ _ _
  · refine zj_weak [true, false, false, false, false, false, false, false, false, true, false, false, false] rfl ?_
    exact h_k132 _ _
set_option maxRecDepth 100000 in
theorem jl_X8_turning_96 {o0 : Nat} {p1 : Int32} {p2 : Int32} {p3 : Int32} {p4 : Int32} {k132 : Int64 → zSt → Option (Int64 × zSt)} {w : zWC} {x : zCX} (hr : zrt x = (some .long))  (h_o0 : zC o0 = 8) (h_k132 : ∀ (l9 : Int64) (s : zSt), zJ (zQf w x zeL) w x RX8 cX8_turning 13 3 (k132 l9 s) 132 [some (.ref (zb w + o0)), none, none, none, none, none, none, none, none, some (.long l9), none, none, none] [] s) : ∀ (n : Nat) (l5 : Int64) (l7 : Int64) (l9 : Int64) (l11 : Int32) (s : zSt), zJ (zQf w x zeL) w x RX8 cX8_turning 13 3 (lp_X8_turning_96 o0 p1 p2 p3 p4 k132 n l5 l7 l9 l11 s) 96 [some (.ref (zb w + o0)), none, none, none, some (.int p4), some (.long l5), none, some (.long l7), none, some (.long l9), none, some (.int l11), none] [] s := by
  intro n
  induction n with
  | zero => intro l5 l7 l9 l11 s; exact zj_none
  | succ n ih => intro l5 l7 l9 l11 s; exact jb_X8_turning_96 hr h_o0 (fun l5 l7 l9 l11 s => ih l5 l7 l9 l11 s) h_k132
def m_X8_turning (o0 : Nat) (p1 : Int32) (p2 : Int32) (p3 : Int32) (p4 : Int32) (s : zSt) : Option (Int64 × zSt) :=
  zcl (m_X8_within p1 (-1) 1 s) (fun r2 s1 => (if r2 = 0 then
  some ((-1000000000000), s1)
  else
  zcl (m_X8_within p2 0 999 s1) (fun r4 s3 => (if r4 = 0 then
    some ((-1000000000000), s3)
    else
    zcl (m_X8_within p3 (-9999) 9999 s3) (fun r6 s5 => (if r6 = 0 then
      some ((-1000000000000), s5)
      else
      zcl (m_X8_within p4 0 19 s5) (fun r8 s7 => (if r8 = 0 then
        some ((-1000000000000), s7)
        else
        (if zC (zR s7 o0 2) = 5 then zcl (m_X5_restUpper (zR s7 o0 2) p1 p2 s7) (fun r11 s10 => (if zC (zR s10 o0 2) = 5 then zcl (m_X5_lower (zR s10 o0 2) s10) (fun r14 s13 => zcl (m_X8_floorOf (r11 * 1000) r14 s13) (fun r16 s15 => (if zC (zR s15 o0 2) = 5 then zcl (m_X5_setting (zR s15 o0 2) 261 s15) (fun r19 s18 => lp_X8_turning_96 o0 p1 p2 p3 p4 (fun l9_22 s_22 => (if zC (zR s_22 o0 2) = 5 then zcl (m_X5_setting (zR s_22 o0 2) 262 s_22) (fun r25 s24 => zcl (m_X8_floorOf l9_22 (r25 * 1000) s24) (fun r27 s26 => some (r27 * r25, s26))) else none)) zFuel r16 r19 (p3.toInt64 * 1000) 0 s18) else none))) else none)) else none)))))))))
set_option maxRecDepth 100000 in
theorem c_X8_turning {w : zWC} {o0 : Nat} {p1 : Int32} {p2 : Int32} {p3 : Int32} {p4 : Int32} {s : zSt} (h_o0 : zC o0 = 8) {a : Int64 × zSt} (hm : m_X8_turning o0 p1 p2 p3 p4 s = some a) : zCn w 3 yX8_turning cX8_turning 13 (some .long) [.ref (zb w + o0), .int p1, .int p2, .int p3, .int p4] s (zeL a).1 (zeL a).2 :=
  zCn_of (own := RX8) (lv := [some (.ref (zb w + o0)), some (.int p1), some (.int p2), some (.int p3), some (.int p4), none, none, none, none, none, none, none, none]) (by decide +kernel) rfl (Nat.le_of_ble_eq_true rfl) rfl (fun x hr => by
    unfold m_X8_turning
    refine zj_iload_n dX8_turning_0 rfl ?_
    refine zj_iconst dX8_turning_1 zic_m1 ?_
    refine zj_iconst dX8_turning_2 zic_1 ?_
    refine zj_cSI3 ml_X8_104 (fun a h => c_X8_within  h) (Nat.le_of_ble_eq_true rfl) (Nat.le_of_ble_eq_true rfl) dX8_turning_3 (fun r2 s1 => ?_)
    refine zj_if_eq (tgt := 44) dX8_turning_6 (by decide) ?_ ?_
    · refine zj_ldc2 dX8_turning_44 kcL_X8_108 ?_
      exact zj_lret hr dX8_turning_47
    · refine zj_iload_n dX8_turning_9 rfl ?_
      refine zj_iconst dX8_turning_10 zic_0 ?_
      refine zj_sipush dX8_turning_11 zsi_999 ?_
      refine zj_cSI3 ml_X8_104 (fun a h => c_X8_within  h) (Nat.le_of_ble_eq_true rfl) (Nat.le_of_ble_eq_true rfl) dX8_turning_14 (fun r4 s3 => ?_)
      refine zj_if_eq (tgt := 44) dX8_turning_17 (by decide) ?_ ?_
      · refine zj_ldc2 dX8_turning_44 kcL_X8_108 ?_
        exact zj_lret hr dX8_turning_47
      · refine zj_iload_n dX8_turning_20 rfl ?_
        refine zj_sipush dX8_turning_21 zsi_m9999 ?_
        refine zj_sipush dX8_turning_24 zsi_9999 ?_
        refine zj_cSI3 ml_X8_104 (fun a h => c_X8_within  h) (Nat.le_of_ble_eq_true rfl) (Nat.le_of_ble_eq_true rfl) dX8_turning_27 (fun r6 s5 => ?_)
        refine zj_if_eq (tgt := 44) dX8_turning_30 (by decide) ?_ ?_
        · refine zj_ldc2 dX8_turning_44 kcL_X8_108 ?_
          exact zj_lret hr dX8_turning_47
        · refine zj_iload dX8_turning_33 rfl ?_
          refine zj_iconst dX8_turning_35 zic_0 ?_
          refine zj_bipush dX8_turning_36 zbi_19 ?_
          refine zj_cSI3 ml_X8_104 (fun a h => c_X8_within  h) (Nat.le_of_ble_eq_true rfl) (Nat.le_of_ble_eq_true rfl) dX8_turning_38 (fun r8 s7 => ?_)
          refine zj_if_ne (tgt := 48) dX8_turning_41 (by decide) ?_ ?_
          · refine zj_ldc2 dX8_turning_44 kcL_X8_108 ?_
            exact zj_lret hr dX8_turning_47
          · refine zj_aload_n dX8_turning_48 rfl ?_
            refine zj_getR dX8_turning_49 fl_X8_28 rfl h_o0 ?_
            refine zj_split (fun hq9 => ?_) (fun _ => zj_none)
            refine zj_iload_n dX8_turning_52 rfl ?_
            refine zj_iload_n dX8_turning_53 rfl ?_
            refine zj_cVL2 ml_X8_110 (fun a h => c_X5_restUpper hq9 h) hq9 rfl (Nat.le_of_ble_eq_true rfl) (Nat.le_of_ble_eq_true rfl) dX8_turning_54 (fun r11 s10 => ?_)
            refine zj_ldc2 dX8_turning_57 kcL_X8_122 ?_
            refine zj_lmul dX8_turning_60 ?_
            refine zj_aload_n dX8_turning_61 rfl ?_
            refine zj_getR dX8_turning_62 fl_X8_28 rfl h_o0 ?_
            refine zj_split (fun hq12 => ?_) (fun _ => zj_none)
            refine zj_cVL0 ml_X8_114 (fun a h => c_X5_lower hq12 h) hq12 rfl (Nat.le_of_ble_eq_true rfl) (Nat.le_of_ble_eq_true rfl) dX8_turning_65 (fun r14 s13 => ?_)
            refine zj_cSL2 ml_X8_124 (fun a h => c_X8_floorOf  h) (Nat.le_of_ble_eq_true rfl) (Nat.le_of_ble_eq_true rfl) dX8_turning_68 (fun r16 s15 => ?_)
            refine zj_lstore (lv' := [some (.ref (zb w + o0)), some (.int p1), some (.int p2), some (.int p3), some (.int p4), some (.long r16), none, none, none, none, none, none, none]) dX8_turning_71 (by decide) rfl rfl ?_
            refine zj_aload_n dX8_turning_73 rfl ?_
            refine zj_getR dX8_turning_74 fl_X8_28 rfl h_o0 ?_
            refine zj_split (fun hq17 => ?_) (fun _ => zj_none)
            refine zj_sipush dX8_turning_77 zsi_261 ?_
            refine zj_cVL1 ml_X8_128 (fun a h => c_X5_setting hq17 h) hq17 rfl (Nat.le_of_ble_eq_true rfl) (Nat.le_of_ble_eq_true rfl) dX8_turning_80 (fun r19 s18 => ?_)
            refine zj_lstore (lv' := [some (.ref (zb w + o0)), some (.int p1), some (.int p2), some (.int p3), some (.int p4), some (.long r16), none, some (.long r19), none, none, none, none, none]) dX8_turning_83 (by decide) rfl rfl ?_
            refine zj_iload_n dX8_turning_85 rfl ?_
            refine zj_i2l dX8_turning_86 ?_
            refine zj_ldc2 dX8_turning_87 kcL_X8_122 ?_
            refine zj_lmul dX8_turning_90 ?_
            refine zj_lstore (lv' := [some (.ref (zb w + o0)), some (.int p1), some (.int p2), some (.int p3), some (.int p4), some (.long r16), none, some (.long r19), none, some (.long (p3.toInt64 * 1000)), none, none, none]) dX8_turning_91 (by decide) rfl rfl ?_
            refine zj_iconst dX8_turning_93 zic_0 ?_
            refine zj_istore (lv' := [some (.ref (zb w + o0)), some (.int p1), some (.int p2), some (.int p3), some (.int p4), some (.long r16), none, some (.long r19), none, some (.long (p3.toInt64 * 1000)), none, some (.int 0), none]) dX8_turning_94 (by decide) rfl rfl ?_
            refine zj_weak [true, false, false, false, true, true, false, true, false, true, false, true, false] rfl ?_
            refine jl_X8_turning_96 hr h_o0 (fun l9_22 s_22 => ?_) zFuel _ _ _ _ _
            refine zj_aload_n dX8_turning_132 rfl ?_
            refine zj_getR dX8_turning_133 fl_X8_28 rfl h_o0 ?_
            refine zj_split (fun hq23 => ?_) (fun _ => zj_none)
            refine zj_sipush dX8_turning_136 zsi_262 ?_
            refine zj_cVL1 ml_X8_128 (fun a h => c_X5_setting hq23 h) hq23 rfl (Nat.le_of_ble_eq_true rfl) (Nat.le_of_ble_eq_true rfl) dX8_turning_139 (fun r25 s24 => ?_)
            refine zj_lstore (lv' := [some (.ref (zb w + o0)), none, none, none, none, none, none, none, none, some (.long l9_22), none, some (.long r25), none]) dX8_turning_142 (by decide) rfl rfl ?_
            refine zj_lload dX8_turning_144 rfl ?_
            refine zj_lload dX8_turning_146 rfl ?_
            refine zj_ldc2 dX8_turning_148 kcL_X8_122 ?_
            refine zj_lmul dX8_turning_151 ?_
            refine zj_cSL2 ml_X8_124 (fun a h => c_X8_floorOf  h) (Nat.le_of_ble_eq_true rfl) (Nat.le_of_ble_eq_true rfl) dX8_turning_152 (fun r27 s26 => ?_)
            refine zj_lload dX8_turning_155 rfl ?_
            refine zj_lmul dX8_turning_157 ?_
            exact zj_lret hr dX8_turning_158) hm
def m_X8_had (o0 : Nat) (p1 : Int32) (p2 : Int32) (p3 : Int32) (p4 : Int32) (p5 : Int32) (s : zSt) : Option (Int64 × zSt) :=
  zcl (m_X8_within p1 (-9999) 9999 s) (fun r2 s1 => (if r2 = 0 then
  some ((-1000000000000), s1)
  else
  zcl (m_X8_within p2 (-9999) 9999 s1) (fun r4 s3 => (if r4 = 0 then
    some ((-1000000000000), s3)
    else
    zcl (m_X8_within p3 (-9999) 9999 s3) (fun r6 s5 => (if r6 = 0 then
      some ((-1000000000000), s5)
      else
      zcl (m_X8_within p4 0 1 s5) (fun r8 s7 => (if r8 = 0 then
        some ((-1000000000000), s7)
        else
        zcl (m_X8_within p5 0 1 s7) (fun r10 s9 => (if r10 = 0 then
          some ((-1000000000000), s9)
          else
          (if p4 = 0 then
            zcl (m_X8_lowest ((p1.toInt64 * p3.toInt64) - (p2.toInt64 * p2.toInt64)) ((p1.toInt64 + p3.toInt64) - ((2 : Int64) * p2.toInt64)) p5 s9) (fun r12 s11 => some (r12, s11))
            else
            zcl (m_X8_lowest (p2.toInt64 - p3.toInt64) (p2.toInt64 - p1.toInt64) p5 s9) (fun r14 s13 => some (r14, s13)))))))))))))
set_option maxRecDepth 100000 in
theorem c_X8_had {w : zWC} {o0 : Nat} {p1 : Int32} {p2 : Int32} {p3 : Int32} {p4 : Int32} {p5 : Int32} {s : zSt} (h_o0 : zC o0 = 8) {a : Int64 × zSt} (hm : m_X8_had o0 p1 p2 p3 p4 p5 s = some a) : zCn w 2 yX8_had cX8_had 6 (some .long) [.ref (zb w + o0), .int p1, .int p2, .int p3, .int p4, .int p5] s (zeL a).1 (zeL a).2 :=
  zCn_of (own := RX8) (lv := [some (.ref (zb w + o0)), some (.int p1), some (.int p2), some (.int p3), some (.int p4), some (.int p5)]) (by decide +kernel) rfl (Nat.le_of_ble_eq_true rfl) rfl (fun x hr => by
    unfold m_X8_had
    refine zj_iload_n dX8_had_0 rfl ?_
    refine zj_sipush dX8_had_1 zsi_m9999 ?_
    refine zj_sipush dX8_had_4 zsi_9999 ?_
    refine zj_cSI3 ml_X8_104 (fun a h => c_X8_within  h) (Nat.le_of_ble_eq_true rfl) (Nat.le_of_ble_eq_true rfl) dX8_had_7 (fun r2 s1 => ?_)
    refine zj_if_eq (tgt := 59) dX8_had_10 (by decide) ?_ ?_
    · refine zj_ldc2 dX8_had_59 kcL_X8_108 ?_
      exact zj_lret hr dX8_had_62
    · refine zj_iload_n dX8_had_13 rfl ?_
      refine zj_sipush dX8_had_14 zsi_m9999 ?_
      refine zj_sipush dX8_had_17 zsi_9999 ?_
      refine zj_cSI3 ml_X8_104 (fun a h => c_X8_within  h) (Nat.le_of_ble_eq_true rfl) (Nat.le_of_ble_eq_true rfl) dX8_had_20 (fun r4 s3 => ?_)
      refine zj_if_eq (tgt := 59) dX8_had_23 (by decide) ?_ ?_
      · refine zj_ldc2 dX8_had_59 kcL_X8_108 ?_
        exact zj_lret hr dX8_had_62
      · refine zj_iload_n dX8_had_26 rfl ?_
        refine zj_sipush dX8_had_27 zsi_m9999 ?_
        refine zj_sipush dX8_had_30 zsi_9999 ?_
        refine zj_cSI3 ml_X8_104 (fun a h => c_X8_within  h) (Nat.le_of_ble_eq_true rfl) (Nat.le_of_ble_eq_true rfl) dX8_had_33 (fun r6 s5 => ?_)
        refine zj_if_eq (tgt := 59) dX8_had_36 (by decide) ?_ ?_
        · refine zj_ldc2 dX8_had_59 kcL_X8_108 ?_
          exact zj_lret hr dX8_had_62
        · refine zj_iload dX8_had_39 rfl ?_
          refine zj_iconst dX8_had_41 zic_0 ?_
          refine zj_iconst dX8_had_42 zic_1 ?_
          refine zj_cSI3 ml_X8_104 (fun a h => c_X8_within  h) (Nat.le_of_ble_eq_true rfl) (Nat.le_of_ble_eq_true rfl) dX8_had_43 (fun r8 s7 => ?_)
          refine zj_if_eq (tgt := 59) dX8_had_46 (by decide) ?_ ?_
          · refine zj_ldc2 dX8_had_59 kcL_X8_108 ?_
            exact zj_lret hr dX8_had_62
          · refine zj_iload dX8_had_49 rfl ?_
            refine zj_iconst dX8_had_51 zic_0 ?_
            refine zj_iconst dX8_had_52 zic_1 ?_
            refine zj_cSI3 ml_X8_104 (fun a h => c_X8_within  h) (Nat.le_of_ble_eq_true rfl) (Nat.le_of_ble_eq_true rfl) dX8_had_53 (fun r10 s9 => ?_)
            refine zj_if_ne (tgt := 63) dX8_had_56 (by decide) ?_ ?_
            · refine zj_ldc2 dX8_had_59 kcL_X8_108 ?_
              exact zj_lret hr dX8_had_62
            · refine zj_iload dX8_had_63 rfl ?_
              refine zj_if_ne (tgt := 97) dX8_had_65 (by decide) ?_ ?_
              · refine zj_iload_n dX8_had_68 rfl ?_
                refine zj_i2l dX8_had_69 ?_
                refine zj_iload_n dX8_had_70 rfl ?_
                refine zj_i2l dX8_had_71 ?_
                refine zj_lmul dX8_had_72 ?_
                refine zj_iload_n dX8_had_73 rfl ?_
                refine zj_i2l dX8_had_74 ?_
                refine zj_iload_n dX8_had_75 rfl ?_
                refine zj_i2l dX8_had_76 ?_
                refine zj_lmul dX8_had_77 ?_
                refine zj_lsub dX8_had_78 ?_
                refine zj_iload_n dX8_had_79 rfl ?_
                refine zj_i2l dX8_had_80 ?_
                refine zj_iload_n dX8_had_81 rfl ?_
                refine zj_i2l dX8_had_82 ?_
                refine zj_ladd dX8_had_83 ?_
                refine zj_ldc2 dX8_had_84 kcL_X8_134 ?_
                refine zj_iload_n dX8_had_87 rfl ?_
                refine zj_i2l dX8_had_88 ?_
                refine zj_lmul dX8_had_89 ?_
                refine zj_lsub dX8_had_90 ?_
                refine zj_iload dX8_had_91 rfl ?_
                refine zj_cSL3 ml_X8_118 (fun a h => c_X8_lowest  h) (Nat.le_of_ble_eq_true rfl) (Nat.le_of_ble_eq_true rfl) dX8_had_93 (fun r12 s11 => ?_)
                exact zj_lret hr dX8_had_96
              · refine zj_iload_n dX8_had_97 rfl ?_
                refine zj_i2l dX8_had_98 ?_
                refine zj_iload_n dX8_had_99 rfl ?_
                refine zj_i2l dX8_had_100 ?_
                refine zj_lsub dX8_had_101 ?_
                refine zj_iload_n dX8_had_102 rfl ?_
                refine zj_i2l dX8_had_103 ?_
                refine zj_iload_n dX8_had_104 rfl ?_
                refine zj_i2l dX8_had_105 ?_
                refine zj_lsub dX8_had_106 ?_
                refine zj_iload dX8_had_107 rfl ?_
                refine zj_cSL3 ml_X8_118 (fun a h => c_X8_lowest  h) (Nat.le_of_ble_eq_true rfl) (Nat.le_of_ble_eq_true rfl) dX8_had_109 (fun r14 s13 => ?_)
                exact zj_lret hr dX8_had_112) hm
def m_X8_reading (o0 : Nat) (p1 : Int32) (p2 : Int32) (p3 : Int32) (s : zSt) : Option (Int32 × zSt) :=
  zcl (m_X4_tell (zT o0 8) p1 p2 p3 s) (fun r2 s1 => some (r2, s1))
set_option maxRecDepth 100000 in
theorem c_X8_reading {w : zWC} {o0 : Nat} {p1 : Int32} {p2 : Int32} {p3 : Int32} {s : zSt} (h_o0 : zC o0 = 8) {a : Int32 × zSt} (hm : m_X8_reading o0 p1 p2 p3 s = some a) : zCn w 2 yX8_reading cX8_reading 4 (some .int) [.ref (zb w + o0), .int p1, .int p2, .int p3] s (zeI a).1 (zeI a).2 :=
  zCn_of (own := RX8) (lv := [some (.ref (zb w + o0)), some (.int p1), some (.int p2), some (.int p3)]) (by decide +kernel) rfl (Nat.le_of_ble_eq_true rfl) rfl (fun x hr => by
    unfold m_X8_reading
    refine zj_aload_n dX8_reading_0 rfl ?_
    refine zj_getT dX8_reading_1 fl_X8_58 rfl h_o0 ?_
    refine zj_iload_n dX8_reading_4 rfl ?_
    refine zj_iload_n dX8_reading_5 rfl ?_
    refine zj_iload_n dX8_reading_6 rfl ?_
    refine zj_cVI3 ml_X8_136 (fun a h => c_X4_tell (zt_8_8 _ h_o0) h) (zt_8_8 _ h_o0) rfl (Nat.le_of_ble_eq_true rfl) (Nat.le_of_ble_eq_true rfl) dX8_reading_7 (fun r2 s1 => ?_)
    exact zj_iret hr dX8_reading_10) hm
def m_X8_untell (o0 : Nat) (p1 : Int32) (s : zSt) : Option (Int32 × zSt) :=
  zcl (m_X4_takeBack (zT o0 8) p1 s) (fun r2 s1 => (if r2 = 0 ∨ r2 = 1 then some (r2, s1) else none))
set_option maxRecDepth 100000 in
theorem c_X8_untell {w : zWC} {o0 : Nat} {p1 : Int32} {s : zSt} (h_o0 : zC o0 = 8) {a : Int32 × zSt} (hm : m_X8_untell o0 p1 s = some a) : zCn w 2 yX8_untell cX8_untell 2 (some .boolean) [.ref (zb w + o0), .int p1] s (zeI a).1 (zeI a).2 :=
  zCn_of (own := RX8) (lv := [some (.ref (zb w + o0)), some (.int p1)]) (by decide +kernel) rfl (Nat.le_of_ble_eq_true rfl) rfl (fun x hr => by
    unfold m_X8_untell
    refine zj_aload_n dX8_untell_0 rfl ?_
    refine zj_getT dX8_untell_1 fl_X8_58 rfl h_o0 ?_
    refine zj_iload_n dX8_untell_4 rfl ?_
    refine zj_cVI1 ml_X8_140 (fun a h => c_X4_takeBack (zt_8_8 _ h_o0) h) (zt_8_8 _ h_o0) rfl (Nat.le_of_ble_eq_true rfl) (Nat.le_of_ble_eq_true rfl) dX8_untell_5 (fun r2 s1 => ?_)
    exact zj_zretG hr dX8_untell_8) hm
def m_X8_later (o0 : Nat) (p1 : Int32) (s : zSt) : Option (Int32 × zSt) :=
  zcl (m_X4_goOn (zT o0 8) p1 s) (fun r2 s1 => some (r2, s1))
set_option maxRecDepth 100000 in
theorem c_X8_later {w : zWC} {o0 : Nat} {p1 : Int32} {s : zSt} (h_o0 : zC o0 = 8) {a : Int32 × zSt} (hm : m_X8_later o0 p1 s = some a) : zCn w 2 yX8_later cX8_later 2 (some .int) [.ref (zb w + o0), .int p1] s (zeI a).1 (zeI a).2 :=
  zCn_of (own := RX8) (lv := [some (.ref (zb w + o0)), some (.int p1)]) (by decide +kernel) rfl (Nat.le_of_ble_eq_true rfl) rfl (fun x hr => by
    unfold m_X8_later
    refine zj_aload_n dX8_later_0 rfl ?_
    refine zj_getT dX8_later_1 fl_X8_58 rfl h_o0 ?_
    refine zj_iload_n dX8_later_4 rfl ?_
    refine zj_cVI1 ml_X8_144 (fun a h => c_X4_goOn (zt_8_8 _ h_o0) h) (zt_8_8 _ h_o0) rfl (Nat.le_of_ble_eq_true rfl) (Nat.le_of_ble_eq_true rfl) dX8_later_5 (fun r2 s1 => ?_)
    exact zj_iret hr dX8_later_8) hm
def m_X8_fit_107 (o0 : Nat) (p1 : Int32) (p2 : Int32) (p3 : Int32) (p4 : Int32) (t0 : Int64) (s : zSt) : Option (Int64 × zSt) :=
  zcl (m_X8_lowest t0 (zL s (zT o0 9) 1) p3 s) (fun r14 s13 => some (r14, s13))
set_option maxRecDepth 100000 in
theorem j_X8_fit_107 {o0 : Nat} {p1 : Int32} {p2 : Int32} {p3 : Int32} {p4 : Int32} {t0 : Int64} {s : zSt} {w : zWC} {x : zCX} (hr : zrt x = (some .long))  (h_o0 : zC o0 = 8) : zJ (zQf w x zeL) w x RX8 cX8_fit 6 10 (m_X8_fit_107 o0 p1 p2 p3 p4 t0 s) 107 [some (.ref (zb w + o0)), none, none, some (.int p3), none, none] [.long t0] s := by
  unfold m_X8_fit_107
  refine zj_aload_n dX8_fit_107 rfl ?_
  refine zj_getT dX8_fit_108 fl_X8_65 rfl h_o0 ?_
  refine zj_getL dX8_fit_111 fl_X8_156 rfl (zt_8_9 _ h_o0) ?_
  refine zj_iload_n dX8_fit_114 rfl ?_
  refine zj_cSL3 ml_X8_118 (fun a h => c_X8_lowest  h) (Nat.le_of_ble_eq_true rfl) (Nat.le_of_ble_eq_true rfl) dX8_fit_115 (fun r14 s13 => ?_)
  exact zj_lret hr dX8_fit_118
def m_X8_fit (o0 : Nat) (p1 : Int32) (p2 : Int32) (p3 : Int32) (p4 : Int32) (s : zSt) : Option (Int64 × zSt) :=
  zcl (m_X8_within p1 0 2 s) (fun r2 s1 => (if r2 = 0 then
  some ((-1000000000000), s1)
  else
  zcl (m_X8_within p2 0 4 s1) (fun r4 s3 => (if r4 = 0 then
    some ((-1000000000000), s3)
    else
    zcl (m_X8_within p3 0 1 s3) (fun r6 s5 => (if r6 = 0 then
      some ((-1000000000000), s5)
      else
      zcl (m_X1_solve (zT o0 9) (zT o0 8) (p1 + 2) p4 s5) (fun r8 s7 => (if r8 = 0 then
        some ((-1000000000000), s7)
        else
        (if p2 = 4 then
          zcl (m_X1_mostOff (zT o0 9) (zT o0 8) p4 s7) (fun r10 s9 => zcl (m_X8_lowest r10 (zL s9 (zT o0 9) 1) p3 s9) (fun r12 s11 => some (r12, s11)))
          else
          (if p2 < p1 + 2 then
            (if p2 < 0 ∨ zN (zT (zT o0 9) 0) ≤ Int32.toNatClampNeg p2 then none else m_X8_fit_107 o0 p1 p2 p3 p4 (zL s7 (zT (zT o0 9) 0) (Int32.toNatClampNeg p2)) s7)
            else
            m_X8_fit_107 o0 p1 p2 p3 p4 0 s7))))))))))
set_option maxRecDepth 100000 in
theorem c_X8_fit {w : zWC} {o0 : Nat} {p1 : Int32} {p2 : Int32} {p3 : Int32} {p4 : Int32} {s : zSt} (h_o0 : zC o0 = 8) {a : Int64 × zSt} (hm : m_X8_fit o0 p1 p2 p3 p4 s = some a) : zCn w 10 yX8_fit cX8_fit 6 (some .long) [.ref (zb w + o0), .int p1, .int p2, .int p3, .int p4] s (zeL a).1 (zeL a).2 :=
  zCn_of (own := RX8) (lv := [some (.ref (zb w + o0)), some (.int p1), some (.int p2), some (.int p3), some (.int p4), none]) (by decide +kernel) rfl (Nat.le_of_ble_eq_true rfl) rfl (fun x hr => by
    unfold m_X8_fit
    refine zj_iload_n dX8_fit_0 rfl ?_
    refine zj_iconst dX8_fit_1 zic_0 ?_
    refine zj_iconst dX8_fit_2 zic_2 ?_
    refine zj_cSI3 ml_X8_104 (fun a h => c_X8_within  h) (Nat.le_of_ble_eq_true rfl) (Nat.le_of_ble_eq_true rfl) dX8_fit_3 (fun r2 s1 => ?_)
    refine zj_if_eq (tgt := 27) dX8_fit_6 (by decide) ?_ ?_
    · refine zj_ldc2 dX8_fit_27 kcL_X8_108 ?_
      exact zj_lret hr dX8_fit_30
    · refine zj_iload_n dX8_fit_9 rfl ?_
      refine zj_iconst dX8_fit_10 zic_0 ?_
      refine zj_iconst dX8_fit_11 zic_4 ?_
      refine zj_cSI3 ml_X8_104 (fun a h => c_X8_within  h) (Nat.le_of_ble_eq_true rfl) (Nat.le_of_ble_eq_true rfl) dX8_fit_12 (fun r4 s3 => ?_)
      refine zj_if_eq (tgt := 27) dX8_fit_15 (by decide) ?_ ?_
      · refine zj_ldc2 dX8_fit_27 kcL_X8_108 ?_
        exact zj_lret hr dX8_fit_30
      · refine zj_iload_n dX8_fit_18 rfl ?_
        refine zj_iconst dX8_fit_19 zic_0 ?_
        refine zj_iconst dX8_fit_20 zic_1 ?_
        refine zj_cSI3 ml_X8_104 (fun a h => c_X8_within  h) (Nat.le_of_ble_eq_true rfl) (Nat.le_of_ble_eq_true rfl) dX8_fit_21 (fun r6 s5 => ?_)
        refine zj_if_ne (tgt := 31) dX8_fit_24 (by decide) ?_ ?_
        · refine zj_ldc2 dX8_fit_27 kcL_X8_108 ?_
          exact zj_lret hr dX8_fit_30
        · refine zj_iload_n dX8_fit_31 rfl ?_
          refine zj_iconst dX8_fit_32 zic_2 ?_
          refine zj_iadd dX8_fit_33 ?_
          refine zj_istore (lv' := [some (.ref (zb w + o0)), some (.int p1), some (.int p2), some (.int p3), some (.int p4), some (.int (p1 + 2))]) dX8_fit_34 (by decide) rfl rfl ?_
          refine zj_aload_n dX8_fit_36 rfl ?_
          refine zj_getT dX8_fit_37 fl_X8_65 rfl h_o0 ?_
          refine zj_aload_n dX8_fit_40 rfl ?_
          refine zj_getT dX8_fit_41 fl_X8_58 rfl h_o0 ?_
          refine zj_iload dX8_fit_44 rfl ?_
          refine zj_iload dX8_fit_46 rfl ?_
          refine zj_cVI3 ml_X8_148 (fun a h => c_X1_solve (zt_8_9 _ h_o0) (zt_8_8 _ h_o0) h) (zt_8_9 _ h_o0) rfl (Nat.le_of_ble_eq_true rfl) (Nat.le_of_ble_eq_true rfl) dX8_fit_48 (fun r8 s7 => ?_)
          refine zj_if_ne (tgt := 58) dX8_fit_51 (by decide) ?_ ?_
          · refine zj_ldc2 dX8_fit_54 kcL_X8_108 ?_
            exact zj_lret hr dX8_fit_57
          · refine zj_iload_n dX8_fit_58 rfl ?_
            refine zj_iconst dX8_fit_59 zic_4 ?_
            refine zj_icmp_ne (tgt := 88) dX8_fit_60 (by decide) ?_ ?_
            · refine zj_aload_n dX8_fit_63 rfl ?_
              refine zj_getT dX8_fit_64 fl_X8_65 rfl h_o0 ?_
              refine zj_aload_n dX8_fit_67 rfl ?_
              refine zj_getT dX8_fit_68 fl_X8_58 rfl h_o0 ?_
              refine zj_iload dX8_fit_71 rfl ?_
              refine zj_cVL2 ml_X8_152 (fun a h => c_X1_mostOff (zt_8_9 _ h_o0) (zt_8_8 _ h_o0) h) (zt_8_9 _ h_o0) rfl (Nat.le_of_ble_eq_true rfl) (Nat.le_of_ble_eq_true rfl) dX8_fit_73 (fun r10 s9 => ?_)
              refine zj_aload_n dX8_fit_76 rfl ?_
              refine zj_getT dX8_fit_77 fl_X8_65 rfl h_o0 ?_
              refine zj_getL dX8_fit_80 fl_X8_156 rfl (zt_8_9 _ h_o0) ?_
              refine zj_iload_n dX8_fit_83 rfl ?_
              refine zj_cSL3 ml_X8_118 (fun a h => c_X8_lowest  h) (Nat.le_of_ble_eq_true rfl) (Nat.le_of_ble_eq_true rfl) dX8_fit_84 (fun r12 s11 => ?_)
              exact zj_lret hr dX8_fit_87
            · refine zj_iload_n dX8_fit_88 rfl ?_
              refine zj_iload dX8_fit_89 rfl ?_
              refine zj_icmp_ge (tgt := 106) dX8_fit_91 (by decide) ?_ ?_
              · refine zj_aload_n dX8_fit_94 rfl ?_
                refine zj_getT dX8_fit_95 fl_X8_65 rfl h_o0 ?_
                refine zj_getT dX8_fit_98 fl_X8_159 rfl (zt_8_9 _ h_o0) ?_
                refine zj_iload_n dX8_fit_101 rfl ?_
                refine zj_lald dX8_fit_102 (zt_1_0 _ (zt_8_9 _ h_o0)) ?_
                refine zj_goto (tgt := 107) dX8_fit_103 (by decide) ?_
                refine zj_weak [true, false, false, true, false, false] rfl ?_
                exact j_X8_fit_107 hr h_o0
              · refine zj_lconst (v := 0) dX8_fit_106 rfl ?_
                refine zj_weak [true, false, false, true, false, false] rfl ?_
                exact j_X8_fit_107 hr h_o0) hm
def m_X8_world (o0 : Nat) (p1 : Int32) (s : zSt) : Option (Int64 × zSt) :=
  zcl (m_X1_solve (zT o0 9) (zT o0 8) 3 p1 s) (fun r2 s1 => (if r2 = 0 then
  some ((-1), s1)
  else
  (if (1 : Int32) < 0 ∨ zN (zT (zT o0 9) 0) ≤ Int32.toNatClampNeg 1 then none else zcl (m_X8_floorOf ((zL s1 (zT (zT o0 9) 0) (Int32.toNatClampNeg 1)) * 1000) (zL s1 (zT o0 9) 1) s1) (fun r4 s3 => (if 0 < r4 then
    (if zC (zR s3 o0 2) = 5 then zcl (m_X5_pullUpper (zR s3 o0 2) s3) (fun r7 s6 => (if zC (zR s6 o0 2) = 5 then zcl (m_X5_lower (zR s6 o0 2) s6) (fun r10 s9 => zcl (m_X8_floorOf (r7 * 100000) r10 s9) (fun r12 s11 => zcl (m_X8_floorOf r12 r4 s11) (fun r14 s13 => some (r14, s13)))) else none)) else none)
    else
    some ((-1), s3))))))
set_option maxRecDepth 100000 in
theorem c_X8_world {w : zWC} {o0 : Nat} {p1 : Int32} {s : zSt} (h_o0 : zC o0 = 8) {a : Int64 × zSt} (hm : m_X8_world o0 p1 s = some a) : zCn w 10 yX8_world cX8_world 4 (some .long) [.ref (zb w + o0), .int p1] s (zeL a).1 (zeL a).2 :=
  zCn_of (own := RX8) (lv := [some (.ref (zb w + o0)), some (.int p1), none, none]) (by decide +kernel) rfl (Nat.le_of_ble_eq_true rfl) rfl (fun x hr => by
    unfold m_X8_world
    refine zj_aload_n dX8_world_0 rfl ?_
    refine zj_getT dX8_world_1 fl_X8_65 rfl h_o0 ?_
    refine zj_aload_n dX8_world_4 rfl ?_
    refine zj_getT dX8_world_5 fl_X8_58 rfl h_o0 ?_
    refine zj_iconst dX8_world_8 zic_3 ?_
    refine zj_iload_n dX8_world_9 rfl ?_
    refine zj_cVI3 ml_X8_148 (fun a h => c_X1_solve (zt_8_9 _ h_o0) (zt_8_8 _ h_o0) h) (zt_8_9 _ h_o0) rfl (Nat.le_of_ble_eq_true rfl) (Nat.le_of_ble_eq_true rfl) dX8_world_10 (fun r2 s1 => ?_)
    refine zj_if_ne (tgt := 20) dX8_world_13 (by decide) ?_ ?_
    · refine zj_ldc2 dX8_world_16 kcL_X8_163 ?_
      exact zj_lret hr dX8_world_19
    · refine zj_aload_n dX8_world_20 rfl ?_
      refine zj_getT dX8_world_21 fl_X8_65 rfl h_o0 ?_
      refine zj_getT dX8_world_24 fl_X8_159 rfl (zt_8_9 _ h_o0) ?_
      refine zj_iconst dX8_world_27 zic_1 ?_
      refine zj_lald dX8_world_28 (zt_1_0 _ (zt_8_9 _ h_o0)) ?_
      refine zj_ldc2 dX8_world_29 kcL_X8_122 ?_
      refine zj_lmul dX8_world_32 ?_
      refine zj_aload_n dX8_world_33 rfl ?_
      refine zj_getT dX8_world_34 fl_X8_65 rfl h_o0 ?_
      refine zj_getL dX8_world_37 fl_X8_156 rfl (zt_8_9 _ h_o0) ?_
      refine zj_cSL2 ml_X8_124 (fun a h => c_X8_floorOf  h) (Nat.le_of_ble_eq_true rfl) (Nat.le_of_ble_eq_true rfl) dX8_world_40 (fun r4 s3 => ?_)
      refine zj_lstore_n (lv' := [some (.ref (zb w + o0)), some (.int p1), some (.long r4), none]) dX8_world_43 rfl (by decide) rfl rfl ?_
      refine zj_lload_n dX8_world_44 rfl ?_
      refine zj_lconst (v := 0) dX8_world_45 rfl ?_
      refine zj_lcmp_gt (tgt := 54) dX8_world_46 dX8_world_47 (by decide) ?_ ?_
      · refine zj_aload_n dX8_world_54 rfl ?_
        refine zj_getR dX8_world_55 fl_X8_28 rfl h_o0 ?_
        refine zj_split (fun hq5 => ?_) (fun _ => zj_none)
        refine zj_cVL0 ml_X8_165 (fun a h => c_X5_pullUpper hq5 h) hq5 rfl (Nat.le_of_ble_eq_true rfl) (Nat.le_of_ble_eq_true rfl) dX8_world_58 (fun r7 s6 => ?_)
        refine zj_ldc2 dX8_world_61 kcL_X8_168 ?_
        refine zj_lmul dX8_world_64 ?_
        refine zj_aload_n dX8_world_65 rfl ?_
        refine zj_getR dX8_world_66 fl_X8_28 rfl h_o0 ?_
        refine zj_split (fun hq8 => ?_) (fun _ => zj_none)
        refine zj_cVL0 ml_X8_114 (fun a h => c_X5_lower hq8 h) hq8 rfl (Nat.le_of_ble_eq_true rfl) (Nat.le_of_ble_eq_true rfl) dX8_world_69 (fun r10 s9 => ?_)
        refine zj_cSL2 ml_X8_124 (fun a h => c_X8_floorOf  h) (Nat.le_of_ble_eq_true rfl) (Nat.le_of_ble_eq_true rfl) dX8_world_72 (fun r12 s11 => ?_)
        refine zj_lload_n dX8_world_75 rfl ?_
        refine zj_cSL2 ml_X8_124 (fun a h => c_X8_floorOf  h) (Nat.le_of_ble_eq_true rfl) (Nat.le_of_ble_eq_true rfl) dX8_world_76 (fun r14 s13 => ?_)
        exact zj_lret hr dX8_world_79
      · refine zj_ldc2 dX8_world_50 kcL_X8_163 ?_
        exact zj_lret hr dX8_world_53) hm
def m_J9_abs_0f7a4 (p0 : Int32) (s : zSt) : Option (Int32 × zSt) :=
  (if p0 < 0 then
  some (-p0, s)
  else
  some (p0, s))
set_option maxRecDepth 100000 in
theorem c_J9_abs_0f7a4 {w : zWC} {p0 : Int32} {s : zSt}  {a : Int32 × zSt} (hm : m_J9_abs_0f7a4 p0 s = some a) : zCn w 0 yJ9_abs_0f7a4 cJ9_abs_0f7a4 1 (some .int) [.int p0] s (zeI a).1 (zeI a).2 :=
  zCn_of (own := RJ9) (lv := [some (.int p0)]) (by decide +kernel) rfl (Nat.le_of_ble_eq_true rfl) rfl (fun x hr => by
    unfold m_J9_abs_0f7a4
    refine zj_iload_n dJ9_abs_0f7a4_0 rfl ?_
    refine zj_if_ge (tgt := 9) dJ9_abs_0f7a4_1 (by decide) ?_ ?_
    · refine zj_iload_n dJ9_abs_0f7a4_4 rfl ?_
      refine zj_ineg dJ9_abs_0f7a4_5 ?_
      refine zj_goto (tgt := 10) dJ9_abs_0f7a4_6 (by decide) ?_
      exact zj_iret hr dJ9_abs_0f7a4_10
    · refine zj_iload_n dJ9_abs_0f7a4_9 rfl ?_
      exact zj_iret hr dJ9_abs_0f7a4_10) hm
def m_X8_orderWeight_31 (p0 : Int32) (p1 : Int32) (rec10 : Int32 → Int32 → Int32 → Int32 → zSt → Option (Int64 × zSt)) (k74 : Int32 → Int32 → Int32 → zSt → Option (Int64 × zSt)) (l2 : Int32) (l3 : Int32) (l4 : Int32) (l5 : Int32) (t0 : Int32) (s : zSt) : Option (Int64 × zSt) :=
  rec10 (l2 + (t0 * l5)) (l3 + ((t0 * l5) * l5)) (l4 + (((t0 * l5) * l5) * l5)) (l5 + 1) s
set_option maxRecDepth 100000 in
theorem j_X8_orderWeight_31 {p0 : Int32} {p1 : Int32} {rec10 : Int32 → Int32 → Int32 → Int32 → zSt → Option (Int64 × zSt)} {k74 : Int32 → Int32 → Int32 → zSt → Option (Int64 × zSt)} {l2 : Int32} {l3 : Int32} {l4 : Int32} {l5 : Int32} {t0 : Int32} {s : zSt} {w : zWC} {x : zCX} (hr : zrt x = (some .long))  (h_rec10 : ∀ (l2 : Int32) (l3 : Int32) (l4 : Int32) (l5 : Int32) (s : zSt), zJ (zQf w x zeL) w x RX8 cX8_orderWeight 7 1 (rec10 l2 l3 l4 l5 s) 10 [some (.int p0), some (.int p1), some (.int l2), some (.int l3), some (.int l4), some (.int l5), none] [] s) (h_k74 : ∀ (l2 : Int32) (l3 : Int32) (l4 : Int32) (s : zSt), zJ (zQf w x zeL) w x RX8 cX8_orderWeight 7 1 (k74 l2 l3 l4 s) 74 [none, none, some (.int l2), some (.int l3), some (.int l4), none, none] [] s) : zJ (zQf w x zeL) w x RX8 cX8_orderWeight 7 1 (m_X8_orderWeight_31 p0 p1 rec10 k74 l2 l3 l4 l5 t0 s) 31 [some (.int p0), some (.int p1), some (.int l2), some (.int l3), some (.int l4), some (.int l5), none] [.int t0] s := by
  unfold m_X8_orderWeight_31
  refine zj_istore (lv' := [some (.int p0), some (.int p1), some (.int l2), some (.int l3), some (.int l4), some (.int l5), some (.int t0)]) dX8_orderWeight_31 (by decide) rfl rfl ?_
  refine zj_iload_n dX8_orderWeight_33 rfl ?_
  refine zj_iload dX8_orderWeight_34 rfl ?_
  refine zj_iload dX8_orderWeight_36 rfl ?_
  refine zj_imul dX8_orderWeight_38 ?_
  refine zj_iadd dX8_orderWeight_39 ?_
  refine zj_istore_n (lv' := [some (.int p0), some (.int p1), some (.int (l2 + (t0 * l5))), some (.int l3), some (.int l4), some (.int l5), some (.int t0)]) dX8_orderWeight_40 rfl (by decide) rfl rfl ?_
  refine zj_iload_n dX8_orderWeight_41 rfl ?_
  refine zj_iload dX8_orderWeight_42 rfl ?_
  refine zj_iload dX8_orderWeight_44 rfl ?_
  refine zj_imul dX8_orderWeight_46 ?_
  refine zj_iload dX8_orderWeight_47 rfl ?_
  refine zj_imul dX8_orderWeight_49 ?_
  refine zj_iadd dX8_orderWeight_50 ?_
  refine zj_istore_n (lv' := [some (.int p0), some (.int p1), some (.int (l2 + (t0 * l5))), some (.int (l3 + ((t0 * l5) * l5))), some (.int l4), some (.int l5), some (.int t0)]) dX8_orderWeight_51 rfl (by decide) rfl rfl ?_
  refine zj_iload dX8_orderWeight_52 rfl ?_
  refine zj_iload dX8_orderWeight_54 rfl ?_
  refine zj_iload dX8_orderWeight_56 rfl ?_
  refine zj_imul dX8_orderWeight_58 ?_
  refine zj_iload dX8_orderWeight_59 rfl ?_
  refine zj_imul dX8_orderWeight_61 ?_
  refine zj_iload dX8_orderWeight_62 rfl ?_
  refine zj_imul dX8_orderWeight_64 ?_
  refine zj_iadd dX8_orderWeight_65 ?_
  refine zj_istore (lv' := [some (.int p0), some (.int p1), some (.int (l2 + (t0 * l5))), some (.int (l3 + ((t0 * l5) * l5))), some (.int (l4 + (((t0 * l5) * l5) * l5))), some (.int l5), some (.int t0)]) dX8_orderWeight_66 (by decide) rfl rfl ?_
  refine zj_iinc (v2 := l5 + 1) (lv' := [some (.int p0), some (.int p1), some (.int (l2 + (t0 * l5))), some (.int (l3 + ((t0 * l5) * l5))), some (.int (l4 + (((t0 * l5) * l5) * l5))), some (.int (l5 + 1)), some (.int t0)]) dX8_orderWeight_68 rfl (by rw [zic_1]) (by decide) rfl rfl ?_
  refine zj_goto (tgt := 10) dX8_orderWeight_71 (by decide) ?_
  refine zj_weak [true, true, true, true, true, true, false] rfl ?_
  exact h_rec10 _ _ _ _ _
def bd_X8_orderWeight_10 (p0 : Int32) (p1 : Int32) (rec10 : Int32 → Int32 → Int32 → Int32 → zSt → Option (Int64 × zSt)) (k74 : Int32 → Int32 → Int32 → zSt → Option (Int64 × zSt)) (l2 : Int32) (l3 : Int32) (l4 : Int32) (l5 : Int32) (s : zSt) : Option (Int64 × zSt) :=
  (if l5 < p1 then
  (if (p0 >>> (l5 &&& 31)) &&& 1 = 1 then
    m_X8_orderWeight_31 p0 p1 rec10 k74 l2 l3 l4 l5 1 s
    else
    m_X8_orderWeight_31 p0 p1 rec10 k74 l2 l3 l4 l5 (-1) s)
  else
  k74 l2 l3 l4 s)
def lp_X8_orderWeight_10 (p0 : Int32) (p1 : Int32) (k74 : Int32 → Int32 → Int32 → zSt → Option (Int64 × zSt)) : Nat → Int32 → Int32 → Int32 → Int32 → zSt → Option (Int64 × zSt)
  | 0, _, _, _, _, _ => none
  | n + 1, l2, l3, l4, l5, s => bd_X8_orderWeight_10 p0 p1 (fun l2 l3 l4 l5 s => lp_X8_orderWeight_10 p0 p1 k74 n l2 l3 l4 l5 s) k74 l2 l3 l4 l5 s
set_option maxRecDepth 100000 in
theorem jb_X8_orderWeight_10 {p0 : Int32} {p1 : Int32} {rec10 : Int32 → Int32 → Int32 → Int32 → zSt → Option (Int64 × zSt)} {k74 : Int32 → Int32 → Int32 → zSt → Option (Int64 × zSt)} {l2 : Int32} {l3 : Int32} {l4 : Int32} {l5 : Int32} {s : zSt} {w : zWC} {x : zCX} (hr : zrt x = (some .long))  (h_rec10 : ∀ (l2 : Int32) (l3 : Int32) (l4 : Int32) (l5 : Int32) (s : zSt), zJ (zQf w x zeL) w x RX8 cX8_orderWeight 7 1 (rec10 l2 l3 l4 l5 s) 10 [some (.int p0), some (.int p1), some (.int l2), some (.int l3), some (.int l4), some (.int l5), none] [] s) (h_k74 : ∀ (l2 : Int32) (l3 : Int32) (l4 : Int32) (s : zSt), zJ (zQf w x zeL) w x RX8 cX8_orderWeight 7 1 (k74 l2 l3 l4 s) 74 [none, none, some (.int l2), some (.int l3), some (.int l4), none, none] [] s) : zJ (zQf w x zeL) w x RX8 cX8_orderWeight 7 1 (bd_X8_orderWeight_10 p0 p1 rec10 k74 l2 l3 l4 l5 s) 10 [some (.int p0), some (.int p1), some (.int l2), some (.int l3), some (.int l4), some (.int l5), none] [] s := by
  unfold bd_X8_orderWeight_10
  refine zj_iload dX8_orderWeight_10 rfl ?_
  refine zj_iload_n dX8_orderWeight_12 rfl ?_
  refine zj_icmp_ge (tgt := 74) dX8_orderWeight_13 (by decide) ?_ ?_
  · refine zj_iload_n dX8_orderWeight_16 rfl ?_
    refine zj_iload dX8_orderWeight_17 rfl ?_
    refine zj_ishr dX8_orderWeight_19 ?_
    refine zj_iconst dX8_orderWeight_20 zic_1 ?_
    refine zj_iand dX8_orderWeight_21 ?_
    refine zj_iconst dX8_orderWeight_22 zic_1 ?_
    refine zj_icmp_ne (tgt := 30) dX8_orderWeight_23 (by decide) ?_ ?_
    · refine zj_iconst dX8_orderWeight_26 zic_1 ?_
      refine zj_goto (tgt := 31) dX8_orderWeight_27 (by decide) ?_
      exact j_X8_orderWeight_31 hr h_rec10 h_k74
    · refine zj_iconst dX8_orderWeight_30 zic_m1 ?_
      exact j_X8_orderWeight_31 hr h_rec10 h_k74
  · refine zj_weak [false, false, true, true, true, false, false] rfl ?_
    exact h_k74 _ _ _ _
set_option maxRecDepth 100000 in
theorem jl_X8_orderWeight_10 {p0 : Int32} {p1 : Int32} {k74 : Int32 → Int32 → Int32 → zSt → Option (Int64 × zSt)} {w : zWC} {x : zCX} (hr : zrt x = (some .long))  (h_k74 : ∀ (l2 : Int32) (l3 : Int32) (l4 : Int32) (s : zSt), zJ (zQf w x zeL) w x RX8 cX8_orderWeight 7 1 (k74 l2 l3 l4 s) 74 [none, none, some (.int l2), some (.int l3), some (.int l4), none, none] [] s) : ∀ (n : Nat) (l2 : Int32) (l3 : Int32) (l4 : Int32) (l5 : Int32) (s : zSt), zJ (zQf w x zeL) w x RX8 cX8_orderWeight 7 1 (lp_X8_orderWeight_10 p0 p1 k74 n l2 l3 l4 l5 s) 10 [some (.int p0), some (.int p1), some (.int l2), some (.int l3), some (.int l4), some (.int l5), none] [] s := by
  intro n
  induction n with
  | zero => intro l2 l3 l4 l5 s; exact zj_none
  | succ n ih => intro l2 l3 l4 l5 s; exact jb_X8_orderWeight_10 hr (fun l2 l3 l4 l5 s => ih l2 l3 l4 l5 s) h_k74
def m_X8_orderWeight (p0 : Int32) (p1 : Int32) (s : zSt) : Option (Int64 × zSt) :=
  lp_X8_orderWeight_10 p0 p1 (fun l2_1 l3_1 l4_1 s_1 => zcl (m_J9_abs_0f7a4 l2_1 s_1) (fun r3 s2 => zcl (m_J9_abs_0f7a4 l3_1 s2) (fun r5 s4 => zcl (m_J9_abs_0f7a4 l4_1 s4) (fun r7 s6 => some ((((r3.toInt64 * 10000) + r5.toInt64) * 10000) + r7.toInt64, s6))))) zFuel 0 0 0 0 s
set_option maxRecDepth 100000 in
theorem c_X8_orderWeight {w : zWC} {p0 : Int32} {p1 : Int32} {s : zSt}  {a : Int64 × zSt} (hm : m_X8_orderWeight p0 p1 s = some a) : zCn w 1 yX8_orderWeight cX8_orderWeight 7 (some .long) [.int p0, .int p1] s (zeL a).1 (zeL a).2 :=
  zCn_of (own := RX8) (lv := [some (.int p0), some (.int p1), none, none, none, none, none]) (by decide +kernel) rfl (Nat.le_of_ble_eq_true rfl) rfl (fun x hr => by
    unfold m_X8_orderWeight
    refine zj_iconst dX8_orderWeight_0 zic_0 ?_
    refine zj_istore_n (lv' := [some (.int p0), some (.int p1), some (.int 0), none, none, none, none]) dX8_orderWeight_1 rfl (by decide) rfl rfl ?_
    refine zj_iconst dX8_orderWeight_2 zic_0 ?_
    refine zj_istore_n (lv' := [some (.int p0), some (.int p1), some (.int 0), some (.int 0), none, none, none]) dX8_orderWeight_3 rfl (by decide) rfl rfl ?_
    refine zj_iconst dX8_orderWeight_4 zic_0 ?_
    refine zj_istore (lv' := [some (.int p0), some (.int p1), some (.int 0), some (.int 0), some (.int 0), none, none]) dX8_orderWeight_5 (by decide) rfl rfl ?_
    refine zj_iconst dX8_orderWeight_7 zic_0 ?_
    refine zj_istore (lv' := [some (.int p0), some (.int p1), some (.int 0), some (.int 0), some (.int 0), some (.int 0), none]) dX8_orderWeight_8 (by decide) rfl rfl ?_
    refine jl_X8_orderWeight_10 hr (fun l2_1 l3_1 l4_1 s_1 => ?_) zFuel _ _ _ _ _
    refine zj_iload_n dX8_orderWeight_74 rfl ?_
    refine zj_cSI1 ml_X8_244 (fun a h => c_J9_abs_0f7a4  h) (Nat.le_of_ble_eq_true rfl) (Nat.le_of_ble_eq_true rfl) dX8_orderWeight_75 (fun r3 s2 => ?_)
    refine zj_i2l dX8_orderWeight_78 ?_
    refine zj_ldc2 dX8_orderWeight_79 kcL_X8_246 ?_
    refine zj_lmul dX8_orderWeight_82 ?_
    refine zj_iload_n dX8_orderWeight_83 rfl ?_
    refine zj_cSI1 ml_X8_244 (fun a h => c_J9_abs_0f7a4  h) (Nat.le_of_ble_eq_true rfl) (Nat.le_of_ble_eq_true rfl) dX8_orderWeight_84 (fun r5 s4 => ?_)
    refine zj_i2l dX8_orderWeight_87 ?_
    refine zj_ladd dX8_orderWeight_88 ?_
    refine zj_ldc2 dX8_orderWeight_89 kcL_X8_246 ?_
    refine zj_lmul dX8_orderWeight_92 ?_
    refine zj_iload dX8_orderWeight_93 rfl ?_
    refine zj_cSI1 ml_X8_244 (fun a h => c_J9_abs_0f7a4  h) (Nat.le_of_ble_eq_true rfl) (Nat.le_of_ble_eq_true rfl) dX8_orderWeight_95 (fun r7 s6 => ?_)
    refine zj_i2l dX8_orderWeight_98 ?_
    refine zj_ladd dX8_orderWeight_99 ?_
    exact zj_lret hr dX8_orderWeight_100) hm
def m_X8_bestOrder_51 (p0 : Int32) (rec7 : Int32 → Int64 → Int32 → zSt → Option (Int32 × zSt)) (l1 : Int32) (l2 : Int64) (l4 : Int32) (s : zSt) : Option (Int32 × zSt) :=
  rec7 l1 l2 (l4 + 2) s
set_option maxRecDepth 100000 in
theorem j_X8_bestOrder_51 {p0 : Int32} {rec7 : Int32 → Int64 → Int32 → zSt → Option (Int32 × zSt)} {l1 : Int32} {l2 : Int64} {l4 : Int32} {s : zSt} {w : zWC} {x : zCX} (hr : zrt x = (some .int))  (h_rec7 : ∀ (l1 : Int32) (l2 : Int64) (l4 : Int32) (s : zSt), zJ (zQf w x zeI) w x RX8 cX8_bestOrder 7 2 (rec7 l1 l2 l4 s) 7 [some (.int p0), some (.int l1), some (.long l2), none, some (.int l4), none, none] [] s) : zJ (zQf w x zeI) w x RX8 cX8_bestOrder 7 2 (m_X8_bestOrder_51 p0 rec7 l1 l2 l4 s) 51 [some (.int p0), some (.int l1), some (.long l2), none, some (.int l4), none, none] [] s := by
  unfold m_X8_bestOrder_51
  refine zj_iinc (v2 := l4 + 2) (lv' := [some (.int p0), some (.int l1), some (.long l2), none, some (.int (l4 + 2)), none, none]) dX8_bestOrder_51 rfl (by rw [zic_2]) (by decide) rfl rfl ?_
  refine zj_goto (tgt := 7) dX8_bestOrder_54 (by decide) ?_
  exact h_rec7 _ _ _ _
def m_X8_bestOrder_45 (p0 : Int32) (rec7 : Int32 → Int64 → Int32 → zSt → Option (Int32 × zSt)) (l4 : Int32) (l5 : Int64) (s : zSt) : Option (Int32 × zSt) :=
  m_X8_bestOrder_51 p0 rec7 l4 l5 l4 s
set_option maxRecDepth 100000 in
theorem j_X8_bestOrder_45 {p0 : Int32} {rec7 : Int32 → Int64 → Int32 → zSt → Option (Int32 × zSt)} {l4 : Int32} {l5 : Int64} {s : zSt} {w : zWC} {x : zCX} (hr : zrt x = (some .int))  (h_rec7 : ∀ (l1 : Int32) (l2 : Int64) (l4 : Int32) (s : zSt), zJ (zQf w x zeI) w x RX8 cX8_bestOrder 7 2 (rec7 l1 l2 l4 s) 7 [some (.int p0), some (.int l1), some (.long l2), none, some (.int l4), none, none] [] s) : zJ (zQf w x zeI) w x RX8 cX8_bestOrder 7 2 (m_X8_bestOrder_45 p0 rec7 l4 l5 s) 45 [some (.int p0), none, none, none, some (.int l4), some (.long l5), none] [] s := by
  unfold m_X8_bestOrder_45
  refine zj_iload dX8_bestOrder_45 rfl ?_
  refine zj_istore_n (lv' := [some (.int p0), some (.int l4), none, none, some (.int l4), some (.long l5), none]) dX8_bestOrder_47 rfl (by decide) rfl rfl ?_
  refine zj_lload dX8_bestOrder_48 rfl ?_
  refine zj_lstore_n (lv' := [some (.int p0), some (.int l4), some (.long l5), none, some (.int l4), some (.long l5), none]) dX8_bestOrder_50 rfl (by decide) rfl rfl ?_
  refine zj_weak [true, true, true, false, true, false, false] rfl ?_
  exact j_X8_bestOrder_51 hr h_rec7
def bd_X8_bestOrder_7 (p0 : Int32) (rec7 : Int32 → Int64 → Int32 → zSt → Option (Int32 × zSt)) (l1 : Int32) (l2 : Int64) (l4 : Int32) (s : zSt) : Option (Int32 × zSt) :=
  (if l4 < (1 : Int32) <<< (p0 &&& 31) then
  zcl (m_J6_bitCount_0f7a4 l4 s) (fun r2 s1 => (if r2 * 2 = p0 then
    zcl (m_X8_orderWeight l4 p0 s1) (fun r4 s3 => (if l1 = 0 then
      m_X8_bestOrder_45 p0 rec7 l4 r4 s3
      else
      (if r4 < l2 then
        m_X8_bestOrder_45 p0 rec7 l4 r4 s3
        else
        m_X8_bestOrder_51 p0 rec7 l1 l2 l4 s3)))
    else
    m_X8_bestOrder_51 p0 rec7 l1 l2 l4 s1))
  else
  some (l1, s))
def lp_X8_bestOrder_7 (p0 : Int32) : Nat → Int32 → Int64 → Int32 → zSt → Option (Int32 × zSt)
  | 0, _, _, _, _ => none
  | n + 1, l1, l2, l4, s => bd_X8_bestOrder_7 p0 (fun l1 l2 l4 s => lp_X8_bestOrder_7 p0 n l1 l2 l4 s) l1 l2 l4 s
set_option maxRecDepth 100000 in
theorem jb_X8_bestOrder_7 {p0 : Int32} {rec7 : Int32 → Int64 → Int32 → zSt → Option (Int32 × zSt)} {l1 : Int32} {l2 : Int64} {l4 : Int32} {s : zSt} {w : zWC} {x : zCX} (hr : zrt x = (some .int))  (h_rec7 : ∀ (l1 : Int32) (l2 : Int64) (l4 : Int32) (s : zSt), zJ (zQf w x zeI) w x RX8 cX8_bestOrder 7 2 (rec7 l1 l2 l4 s) 7 [some (.int p0), some (.int l1), some (.long l2), none, some (.int l4), none, none] [] s) : zJ (zQf w x zeI) w x RX8 cX8_bestOrder 7 2 (bd_X8_bestOrder_7 p0 rec7 l1 l2 l4 s) 7 [some (.int p0), some (.int l1), some (.long l2), none, some (.int l4), none, none] [] s := by
  unfold bd_X8_bestOrder_7
  refine zj_iload dX8_bestOrder_7 rfl ?_
  refine zj_iconst dX8_bestOrder_9 zic_1 ?_
  refine zj_iload_n dX8_bestOrder_10 rfl ?_
  refine zj_ishl dX8_bestOrder_11 ?_
  refine zj_icmp_ge (tgt := 57) dX8_bestOrder_12 (by decide) ?_ ?_
  · refine zj_iload dX8_bestOrder_15 rfl ?_
    refine zj_cSI1 ml_X8_180 (fun a h => c_J6_bitCount_0f7a4  h) (Nat.le_of_ble_eq_true rfl) (Nat.le_of_ble_eq_true rfl) dX8_bestOrder_17 (fun r2 s1 => ?_)
    refine zj_iconst dX8_bestOrder_20 zic_2 ?_
    refine zj_imul dX8_bestOrder_21 ?_
    refine zj_iload_n dX8_bestOrder_22 rfl ?_
    refine zj_icmp_ne (tgt := 51) dX8_bestOrder_23 (by decide) ?_ ?_
    · refine zj_iload dX8_bestOrder_26 rfl ?_
      refine zj_iload_n dX8_bestOrder_28 rfl ?_
      refine zj_cSL2 ml_X8_241 (fun a h => c_X8_orderWeight  h) (Nat.le_of_ble_eq_true rfl) (Nat.le_of_ble_eq_true rfl) dX8_bestOrder_29 (fun r4 s3 => ?_)
      refine zj_lstore (lv' := [some (.int p0), some (.int l1), some (.long l2), none, some (.int l4), some (.long r4), none]) dX8_bestOrder_32 (by decide) rfl rfl ?_
      refine zj_iload_n dX8_bestOrder_34 rfl ?_
      refine zj_if_eq (tgt := 45) dX8_bestOrder_35 (by decide) ?_ ?_
      · refine zj_weak [true, false, false, false, true, true, false] rfl ?_
        exact j_X8_bestOrder_45 hr h_rec7
      · refine zj_lload dX8_bestOrder_38 rfl ?_
        refine zj_lload_n dX8_bestOrder_40 rfl ?_
        refine zj_lcmp_ge (tgt := 51) dX8_bestOrder_41 dX8_bestOrder_42 (by decide) ?_ ?_
        · refine zj_weak [true, false, false, false, true, true, false] rfl ?_
          exact j_X8_bestOrder_45 hr h_rec7
        · refine zj_weak [true, true, true, false, true, false, false] rfl ?_
          exact j_X8_bestOrder_51 hr h_rec7
    · exact j_X8_bestOrder_51 hr h_rec7
  · refine zj_iload_n dX8_bestOrder_57 rfl ?_
    exact zj_iret hr dX8_bestOrder_58
set_option maxRecDepth 100000 in
theorem jl_X8_bestOrder_7 {p0 : Int32} {w : zWC} {x : zCX} (hr : zrt x = (some .int))  : ∀ (n : Nat) (l1 : Int32) (l2 : Int64) (l4 : Int32) (s : zSt), zJ (zQf w x zeI) w x RX8 cX8_bestOrder 7 2 (lp_X8_bestOrder_7 p0 n l1 l2 l4 s) 7 [some (.int p0), some (.int l1), some (.long l2), none, some (.int l4), none, none] [] s := by
  intro n
  induction n with
  | zero => intro l1 l2 l4 s; exact zj_none
  | succ n ih => intro l1 l2 l4 s; exact jb_X8_bestOrder_7 hr (fun l1 l2 l4 s => ih l1 l2 l4 s)
def m_X8_bestOrder (p0 : Int32) (s : zSt) : Option (Int32 × zSt) :=
  lp_X8_bestOrder_7 p0 zFuel 0 0 1 s
set_option maxRecDepth 100000 in
theorem c_X8_bestOrder {w : zWC} {p0 : Int32} {s : zSt}  {a : Int32 × zSt} (hm : m_X8_bestOrder p0 s = some a) : zCn w 2 yX8_bestOrder cX8_bestOrder 7 (some .int) [.int p0] s (zeI a).1 (zeI a).2 :=
  zCn_of (own := RX8) (lv := [some (.int p0), none, none, none, none, none, none]) (by decide +kernel) rfl (Nat.le_of_ble_eq_true rfl) rfl (fun x hr => by
    unfold m_X8_bestOrder
    refine zj_iconst dX8_bestOrder_0 zic_0 ?_
    refine zj_istore_n (lv' := [some (.int p0), some (.int 0), none, none, none, none, none]) dX8_bestOrder_1 rfl (by decide) rfl rfl ?_
    refine zj_lconst (v := 0) dX8_bestOrder_2 rfl ?_
    refine zj_lstore_n (lv' := [some (.int p0), some (.int 0), some (.long 0), none, none, none, none]) dX8_bestOrder_3 rfl (by decide) rfl rfl ?_
    refine zj_iconst dX8_bestOrder_4 zic_1 ?_
    refine zj_istore (lv' := [some (.int p0), some (.int 0), some (.long 0), none, some (.int 1), none, none]) dX8_bestOrder_5 (by decide) rfl rfl ?_
    exact jl_X8_bestOrder_7 hr zFuel _ _ _ _) hm
def m_X8_order_37 (o0 : Nat) (p1 : Int32) (s : zSt) : Option (Int32 × zSt) :=
  (if p1 < 0 ∨ zN (zT o0 10) ≤ Int32.toNatClampNeg p1 then none else some (zI s (zT o0 10) (Int32.toNatClampNeg p1), s))
set_option maxRecDepth 100000 in
theorem j_X8_order_37 {o0 : Nat} {p1 : Int32} {s : zSt} {w : zWC} {x : zCX} (hr : zrt x = (some .int))  (h_o0 : zC o0 = 8) : zJ (zQf w x zeI) w x RX8 cX8_order 2 3 (m_X8_order_37 o0 p1 s) 37 [some (.ref (zb w + o0)), some (.int p1)] [] s := by
  unfold m_X8_order_37
  refine zj_aload_n dX8_order_37 rfl ?_
  refine zj_getT dX8_order_38 fl_X8_69 rfl h_o0 ?_
  refine zj_iload_n dX8_order_41 rfl ?_
  refine zj_iald dX8_order_42 (zt_8_10 _ h_o0) ?_
  exact zj_iret hr dX8_order_43
def m_X8_order (o0 : Nat) (p1 : Int32) (s : zSt) : Option (Int32 × zSt) :=
  zcl (m_X8_within p1 2 12 s) (fun r2 s1 => (if r2 = 0 then
  some ((-1), s1)
  else
  (if p1 &&& 1 = 0 then
    (if p1 < 0 ∨ zN (zT o0 10) ≤ Int32.toNatClampNeg p1 then none else (if zI s1 (zT o0 10) (Int32.toNatClampNeg p1) = 0 then
      zcl (m_X8_bestOrder p1 s1) (fun r4 s3 => (if p1 < 0 ∨ zN (zT o0 10) ≤ Int32.toNatClampNeg p1 then none else zlt (zsI s3 (zT o0 10) (Int32.toNatClampNeg p1) r4) (fun s5 => m_X8_order_37 o0 p1 s5)))
      else
      m_X8_order_37 o0 p1 s1))
    else
    some ((-1), s1))))
set_option maxRecDepth 100000 in
theorem c_X8_order {w : zWC} {o0 : Nat} {p1 : Int32} {s : zSt} (h_o0 : zC o0 = 8) {a : Int32 × zSt} (hm : m_X8_order o0 p1 s = some a) : zCn w 3 yX8_order cX8_order 2 (some .int) [.ref (zb w + o0), .int p1] s (zeI a).1 (zeI a).2 :=
  zCn_of (own := RX8) (lv := [some (.ref (zb w + o0)), some (.int p1)]) (by decide +kernel) rfl (Nat.le_of_ble_eq_true rfl) rfl (fun x hr => by
    unfold m_X8_order
    refine zj_iload_n dX8_order_0 rfl ?_
    refine zj_iconst dX8_order_1 zic_2 ?_
    refine zj_bipush dX8_order_2 zbi_12 ?_
    refine zj_cSI3 ml_X8_104 (fun a h => c_X8_within  h) (Nat.le_of_ble_eq_true rfl) (Nat.le_of_ble_eq_true rfl) dX8_order_4 (fun r2 s1 => ?_)
    refine zj_if_eq (tgt := 16) dX8_order_7 (by decide) ?_ ?_
    · refine zj_iconst dX8_order_16 zic_m1 ?_
      exact zj_iret hr dX8_order_17
    · refine zj_iload_n dX8_order_10 rfl ?_
      refine zj_iconst dX8_order_11 zic_1 ?_
      refine zj_iand dX8_order_12 ?_
      refine zj_if_eq (tgt := 18) dX8_order_13 (by decide) ?_ ?_
      · refine zj_aload_n dX8_order_18 rfl ?_
        refine zj_getT dX8_order_19 fl_X8_69 rfl h_o0 ?_
        refine zj_iload_n dX8_order_22 rfl ?_
        refine zj_iald dX8_order_23 (zt_8_10 _ h_o0) ?_
        refine zj_if_ne (tgt := 37) dX8_order_24 (by decide) ?_ ?_
        · refine zj_aload_n dX8_order_27 rfl ?_
          refine zj_getT dX8_order_28 fl_X8_69 rfl h_o0 ?_
          refine zj_iload_n dX8_order_31 rfl ?_
          refine zj_iload_n dX8_order_32 rfl ?_
          refine zj_cSI1 ml_X8_170 (fun a h => c_X8_bestOrder  h) (Nat.le_of_ble_eq_true rfl) (Nat.le_of_ble_eq_true rfl) dX8_order_33 (fun r4 s3 => ?_)
          refine zj_iast dX8_order_36 (zt_8_10 _ h_o0) (fun s5 => ?_)
          exact j_X8_order_37 hr h_o0
        · exact j_X8_order_37 hr h_o0
      · refine zj_iconst dX8_order_16 zic_m1 ?_
        exact zj_iret hr dX8_order_17) hm
def m_X8_agree (o0 : Nat) (p1 : Int32) (s : zSt) : Option (Int32 × zSt) :=
  (if zC (zR s o0 4) = 2 then (if zI s (zR s o0 4) 0 = 0 then
  some ((-1), s)
  else
  (if p1 = 0 then
    (if zC (zR s o0 4) = 2 then zcl (m_X2_more (zR s o0 4) s) (fun r20 s19 => some (r20, s19)) else none)
    else
    (if p1 = 1 then
      (if zC (zR s o0 4) = 2 then zcl (m_X2_out (zR s o0 4) s) (fun r17 s16 => some (r17, s16)) else none)
      else
      (if p1 = 2 then
        (if zC (zR s o0 4) = 2 then (if zC (zR s o0 4) = 2 then zcl (m_X2_out (zR s o0 4) s) (fun r12 s11 => zcl (m_J6_bitCount_0f7a4 r12 s11) (fun r14 s13 => some ((zI s (zR s o0 4) 0) - r14, s13))) else none) else none)
        else
        (if p1 = 3 then
          (if zC (zR s o0 4) = 2 then zcl (m_X2_apart (zR s o0 4) s) (fun r8 s7 => some (r8, s7)) else none)
          else
          some ((-1), s)))))) else none)
set_option maxRecDepth 100000 in
theorem c_X8_agree {w : zWC} {o0 : Nat} {p1 : Int32} {s : zSt} (h_o0 : zC o0 = 8) {a : Int32 × zSt} (hm : m_X8_agree o0 p1 s = some a) : zCn w 3 yX8_agree cX8_agree 2 (some .int) [.ref (zb w + o0), .int p1] s (zeI a).1 (zeI a).2 :=
  zCn_of (own := RX8) (lv := [some (.ref (zb w + o0)), some (.int p1)]) (by decide +kernel) rfl (Nat.le_of_ble_eq_true rfl) rfl (fun x hr => by
    unfold m_X8_agree
    refine zj_aload_n dX8_agree_0 rfl ?_
    refine zj_getR dX8_agree_1 fl_X8_38 rfl h_o0 ?_
    refine zj_split (fun hq1 => ?_) (fun _ => zj_none)
    refine zj_getI dX8_agree_4 fl_X8_93 rfl hq1 ?_
    refine zj_if_ne (tgt := 12) dX8_agree_7 (by decide) ?_ ?_
    · refine zj_iconst dX8_agree_10 zic_m1 ?_
      exact zj_iret hr dX8_agree_11
    · refine zj_iload_n dX8_agree_12 rfl ?_
      refine zj_split (fun hs2 => ?_) (fun hs2 => ?_)
      · refine zj_tsE (u := 0) (tgt := 44) hs2 dX8_agree_13 (by decide) (by decide) rfl (by decide) ?_
        refine zj_aload_n dX8_agree_44 rfl ?_
        refine zj_getR dX8_agree_45 fl_X8_38 rfl h_o0 ?_
        refine zj_split (fun hq18 => ?_) (fun _ => zj_none)
        refine zj_cVI0 ml_X8_173 (fun a h => c_X2_more hq18 h) hq18 rfl (Nat.le_of_ble_eq_true rfl) (Nat.le_of_ble_eq_true rfl) dX8_agree_48 (fun r20 s19 => ?_)
        exact zj_iret hr dX8_agree_51
      · refine zj_split (fun hs3 => ?_) (fun hs3 => ?_)
        · refine zj_tsE (u := 1) (tgt := 52) hs3 dX8_agree_13 (by decide) (by decide) rfl (by decide) ?_
          refine zj_aload_n dX8_agree_52 rfl ?_
          refine zj_getR dX8_agree_53 fl_X8_38 rfl h_o0 ?_
          refine zj_split (fun hq15 => ?_) (fun _ => zj_none)
          refine zj_cVI0 ml_X8_177 (fun a h => c_X2_out hq15 h) hq15 rfl (Nat.le_of_ble_eq_true rfl) (Nat.le_of_ble_eq_true rfl) dX8_agree_56 (fun r17 s16 => ?_)
          exact zj_iret hr dX8_agree_59
        · refine zj_split (fun hs4 => ?_) (fun hs4 => ?_)
          · refine zj_tsE (u := 2) (tgt := 60) hs4 dX8_agree_13 (by decide) (by decide) rfl (by decide) ?_
            refine zj_aload_n dX8_agree_60 rfl ?_
            refine zj_getR dX8_agree_61 fl_X8_38 rfl h_o0 ?_
            refine zj_split (fun hq9 => ?_) (fun _ => zj_none)
            refine zj_getI dX8_agree_64 fl_X8_93 rfl hq9 ?_
            refine zj_aload_n dX8_agree_67 rfl ?_
            refine zj_getR dX8_agree_68 fl_X8_38 rfl h_o0 ?_
            refine zj_split (fun hq10 => ?_) (fun _ => zj_none)
            refine zj_cVI0 ml_X8_177 (fun a h => c_X2_out hq10 h) hq10 rfl (Nat.le_of_ble_eq_true rfl) (Nat.le_of_ble_eq_true rfl) dX8_agree_71 (fun r12 s11 => ?_)
            refine zj_cSI1 ml_X8_180 (fun a h => c_J6_bitCount_0f7a4  h) (Nat.le_of_ble_eq_true rfl) (Nat.le_of_ble_eq_true rfl) dX8_agree_74 (fun r14 s13 => ?_)
            refine zj_isub dX8_agree_77 ?_
            exact zj_iret hr dX8_agree_78
          · refine zj_split (fun hs5 => ?_) (fun hs5 => ?_)
            · refine zj_tsE (u := 3) (tgt := 79) hs5 dX8_agree_13 (by decide) (by decide) rfl (by decide) ?_
              refine zj_aload_n dX8_agree_79 rfl ?_
              refine zj_getR dX8_agree_80 fl_X8_38 rfl h_o0 ?_
              refine zj_split (fun hq6 => ?_) (fun _ => zj_none)
              refine zj_cVI0 ml_X8_185 (fun a h => c_X2_apart hq6 h) hq6 rfl (Nat.le_of_ble_eq_true rfl) (Nat.le_of_ble_eq_true rfl) dX8_agree_83 (fun r8 s7 => ?_)
              exact zj_iret hr dX8_agree_86
            · refine zj_tsDef (vs := [0, 1, 2, 3]) (tgt := 87) dX8_agree_13 (by decide) (by decide +kernel) (by decide) (by
                intro u hu
                simp only [List.mem_cons, List.not_mem_nil, or_false] at hu
                rcases hu with rfl | rfl | rfl | rfl
                · exact hs2
                · exact hs3
                · exact hs4
                · exact hs5
                ) ?_
              refine zj_iconst dX8_agree_87 zic_m1 ?_
              exact zj_iret hr dX8_agree_88) hm
def m_X8_line (o0 : Nat) (p1 : Int32) (p2 : Int32) (s : zSt) : Option (Int64 × zSt) :=
  (if zC (zR s o0 6) = 6 then zcl (m_X8_within p1 0 ((zI s (zR s o0 6) 0) - 1) s) (fun r3 s2 => (if r3 = 0 then
  some ((-1000000000000), s2)
  else
  (if p2 = 0 then
    (if zC (zR s2 o0 6) = 6 then (if p1 < 0 ∨ zN (zT (zR s2 o0 6) 2) ≤ Int32.toNatClampNeg p1 then none else some ((zI s2 (zT (zR s2 o0 6) 2) (Int32.toNatClampNeg p1)).toInt64, s2)) else none)
    else
    (if p2 = 1 then
      (if zC (zR s2 o0 6) = 6 then (if p1 < 0 ∨ zN (zT (zR s2 o0 6) 3) ≤ Int32.toNatClampNeg p1 then none else some ((zI s2 (zT (zR s2 o0 6) 3) (Int32.toNatClampNeg p1)).toInt64, s2)) else none)
      else
      (if p2 = 2 then
        (if zC (zR s2 o0 6) = 6 then zcl (m_X6_moved (zR s2 o0 6) p1 s2) (fun r9 s8 => some (r9.toInt64, s8)) else none)
        else
        some ((-1000000000000), s2)))))) else none)
set_option maxRecDepth 100000 in
theorem c_X8_line {w : zWC} {o0 : Nat} {p1 : Int32} {p2 : Int32} {s : zSt} (h_o0 : zC o0 = 8) {a : Int64 × zSt} (hm : m_X8_line o0 p1 p2 s = some a) : zCn w 4 yX8_line cX8_line 3 (some .long) [.ref (zb w + o0), .int p1, .int p2] s (zeL a).1 (zeL a).2 :=
  zCn_of (own := RX8) (lv := [some (.ref (zb w + o0)), some (.int p1), some (.int p2)]) (by decide +kernel) rfl (Nat.le_of_ble_eq_true rfl) rfl (fun x hr => by
    unfold m_X8_line
    refine zj_iload_n dX8_line_0 rfl ?_
    refine zj_iconst dX8_line_1 zic_0 ?_
    refine zj_aload_n dX8_line_2 rfl ?_
    refine zj_getR dX8_line_3 fl_X8_48 rfl h_o0 ?_
    refine zj_split (fun hq1 => ?_) (fun _ => zj_none)
    refine zj_getI dX8_line_6 fl_X8_97 rfl hq1 ?_
    refine zj_iconst dX8_line_9 zic_1 ?_
    refine zj_isub dX8_line_10 ?_
    refine zj_cSI3 ml_X8_104 (fun a h => c_X8_within  h) (Nat.le_of_ble_eq_true rfl) (Nat.le_of_ble_eq_true rfl) dX8_line_11 (fun r3 s2 => ?_)
    refine zj_if_ne (tgt := 21) dX8_line_14 (by decide) ?_ ?_
    · refine zj_ldc2 dX8_line_17 kcL_X8_108 ?_
      exact zj_lret hr dX8_line_20
    · refine zj_iload_n dX8_line_21 rfl ?_
      refine zj_split (fun hs4 => ?_) (fun hs4 => ?_)
      · refine zj_tsE (u := 0) (tgt := 48) hs4 dX8_line_22 (by decide) (by decide) rfl (by decide) ?_
        refine zj_aload_n dX8_line_48 rfl ?_
        refine zj_getR dX8_line_49 fl_X8_48 rfl h_o0 ?_
        refine zj_split (fun hq11 => ?_) (fun _ => zj_none)
        refine zj_getT dX8_line_52 fl_X8_188 rfl hq11 ?_
        refine zj_iload_n dX8_line_55 rfl ?_
        refine zj_iald dX8_line_56 (zt_6_2 _ hq11) ?_
        refine zj_i2l dX8_line_57 ?_
        exact zj_lret hr dX8_line_58
      · refine zj_split (fun hs5 => ?_) (fun hs5 => ?_)
        · refine zj_tsE (u := 1) (tgt := 59) hs5 dX8_line_22 (by decide) (by decide) rfl (by decide) ?_
          refine zj_aload_n dX8_line_59 rfl ?_
          refine zj_getR dX8_line_60 fl_X8_48 rfl h_o0 ?_
          refine zj_split (fun hq10 => ?_) (fun _ => zj_none)
          refine zj_getT dX8_line_63 fl_X8_191 rfl hq10 ?_
          refine zj_iload_n dX8_line_66 rfl ?_
          refine zj_iald dX8_line_67 (zt_6_3 _ hq10) ?_
          refine zj_i2l dX8_line_68 ?_
          exact zj_lret hr dX8_line_69
        · refine zj_split (fun hs6 => ?_) (fun hs6 => ?_)
          · refine zj_tsE (u := 2) (tgt := 70) hs6 dX8_line_22 (by decide) (by decide) rfl (by decide) ?_
            refine zj_aload_n dX8_line_70 rfl ?_
            refine zj_getR dX8_line_71 fl_X8_48 rfl h_o0 ?_
            refine zj_split (fun hq7 => ?_) (fun _ => zj_none)
            refine zj_iload_n dX8_line_74 rfl ?_
            refine zj_cVI1 ml_X8_194 (fun a h => c_X6_moved hq7 h) hq7 rfl (Nat.le_of_ble_eq_true rfl) (Nat.le_of_ble_eq_true rfl) dX8_line_75 (fun r9 s8 => ?_)
            refine zj_i2l dX8_line_78 ?_
            exact zj_lret hr dX8_line_79
          · refine zj_tsDef (vs := [0, 1, 2]) (tgt := 80) dX8_line_22 (by decide) (by decide +kernel) (by decide) (by
              intro u hu
              simp only [List.mem_cons, List.not_mem_nil, or_false] at hu
              rcases hu with rfl | rfl | rfl
              · exact hs4
              · exact hs5
              · exact hs6
              ) ?_
            refine zj_ldc2 dX8_line_80 kcL_X8_108 ?_
            exact zj_lret hr dX8_line_83) hm
def m_X8_right (o0 : Nat) (s : zSt) : Option (Int64 × zSt) :=
  (if zC (zR s o0 6) = 6 then (if zI s (zR s o0 6) 0 = 0 then
  some ((-1000000000000), s)
  else
  (if zC (zR s o0 6) = 6 then zcl (m_X6_lastWith (zR s o0 6) 0 s) (fun r4 s3 => some (r4.toInt64, s3)) else none)) else none)
set_option maxRecDepth 100000 in
theorem c_X8_right {w : zWC} {o0 : Nat} {s : zSt} (h_o0 : zC o0 = 8) {a : Int64 × zSt} (hm : m_X8_right o0 s = some a) : zCn w 3 yX8_right cX8_right 1 (some .long) [.ref (zb w + o0)] s (zeL a).1 (zeL a).2 :=
  zCn_of (own := RX8) (lv := [some (.ref (zb w + o0))]) (by decide +kernel) rfl (Nat.le_of_ble_eq_true rfl) rfl (fun x hr => by
    unfold m_X8_right
    refine zj_aload_n dX8_right_0 rfl ?_
    refine zj_getR dX8_right_1 fl_X8_48 rfl h_o0 ?_
    refine zj_split (fun hq1 => ?_) (fun _ => zj_none)
    refine zj_getI dX8_right_4 fl_X8_97 rfl hq1 ?_
    refine zj_if_ne (tgt := 16) dX8_right_7 (by decide) ?_ ?_
    · refine zj_ldc2 dX8_right_10 kcL_X8_108 ?_
      refine zj_goto (tgt := 25) dX8_right_13 (by decide) ?_
      exact zj_lret hr dX8_right_25
    · refine zj_aload_n dX8_right_16 rfl ?_
      refine zj_getR dX8_right_17 fl_X8_48 rfl h_o0 ?_
      refine zj_split (fun hq2 => ?_) (fun _ => zj_none)
      refine zj_iconst dX8_right_20 zic_0 ?_
      refine zj_cVI1 ml_X8_197 (fun a h => c_X6_lastWith hq2 h) hq2 rfl (Nat.le_of_ble_eq_true rfl) (Nat.le_of_ble_eq_true rfl) dX8_right_21 (fun r4 s3 => ?_)
      refine zj_i2l dX8_right_24 ?_
      exact zj_lret hr dX8_right_25) hm
def m_X8_result (o0 : Nat) (p1 : Int32) (p2 : Int32) (s : zSt) : Option (Int32 × zSt) :=
  (if zC (zR s o0 2) = 5 then zcl (m_X0_tell (zT (zR s o0 2) 1) p1 p2 s) (fun r3 s2 => (if r3 = 0 ∨ r3 = 1 then some (r3, s2) else none)) else none)
set_option maxRecDepth 100000 in
theorem c_X8_result {w : zWC} {o0 : Nat} {p1 : Int32} {p2 : Int32} {s : zSt} (h_o0 : zC o0 = 8) {a : Int32 × zSt} (hm : m_X8_result o0 p1 p2 s = some a) : zCn w 2 yX8_result cX8_result 3 (some .boolean) [.ref (zb w + o0), .int p1, .int p2] s (zeI a).1 (zeI a).2 :=
  zCn_of (own := RX8) (lv := [some (.ref (zb w + o0)), some (.int p1), some (.int p2)]) (by decide +kernel) rfl (Nat.le_of_ble_eq_true rfl) rfl (fun x hr => by
    unfold m_X8_result
    refine zj_aload_n dX8_result_0 rfl ?_
    refine zj_getR dX8_result_1 fl_X8_28 rfl h_o0 ?_
    refine zj_split (fun hq1 => ?_) (fun _ => zj_none)
    refine zj_getT dX8_result_4 fl_X8_200 rfl hq1 ?_
    refine zj_iload_n dX8_result_7 rfl ?_
    refine zj_iload_n dX8_result_8 rfl ?_
    refine zj_cVI2 ml_X8_204 (fun a h => c_X0_tell (zt_5_1 _ hq1) h) (zt_5_1 _ hq1) rfl (Nat.le_of_ble_eq_true rfl) (Nat.le_of_ble_eq_true rfl) dX8_result_9 (fun r3 s2 => ?_)
    exact zj_zretG hr dX8_result_12) hm
def m_X8_maybe (o0 : Nat) (s : zSt) : Option (Int32 × zSt) :=
  (if zC (zR s o0 2) = 5 then zcl (m_X0_possible (zT (zR s o0 2) 1) s) (fun r3 s2 => some (r3, s2)) else none)
set_option maxRecDepth 100000 in
theorem c_X8_maybe {w : zWC} {o0 : Nat} {s : zSt} (h_o0 : zC o0 = 8) {a : Int32 × zSt} (hm : m_X8_maybe o0 s = some a) : zCn w 1 yX8_maybe cX8_maybe 1 (some .int) [.ref (zb w + o0)] s (zeI a).1 (zeI a).2 :=
  zCn_of (own := RX8) (lv := [some (.ref (zb w + o0))]) (by decide +kernel) rfl (Nat.le_of_ble_eq_true rfl) rfl (fun x hr => by
    unfold m_X8_maybe
    refine zj_aload_n dX8_maybe_0 rfl ?_
    refine zj_getR dX8_maybe_1 fl_X8_28 rfl h_o0 ?_
    refine zj_split (fun hq1 => ?_) (fun _ => zj_none)
    refine zj_getT dX8_maybe_4 fl_X8_200 rfl hq1 ?_
    refine zj_cVI0 ml_X8_209 (fun a h => c_X0_possible (zt_5_1 _ hq1) h) (zt_5_1 _ hq1) rfl (Nat.le_of_ble_eq_true rfl) (Nat.le_of_ble_eq_true rfl) dX8_maybe_7 (fun r3 s2 => ?_)
    exact zj_iret hr dX8_maybe_10) hm
def m_X8_next (o0 : Nat) (s : zSt) : Option (Int32 × zSt) :=
  (if zC (zR s o0 2) = 5 then zcl (m_X0_bestTrial (zT (zR s o0 2) 1) s) (fun r3 s2 => some (r3, s2)) else none)
set_option maxRecDepth 100000 in
theorem c_X8_next {w : zWC} {o0 : Nat} {s : zSt} (h_o0 : zC o0 = 8) {a : Int32 × zSt} (hm : m_X8_next o0 s = some a) : zCn w 2 yX8_next cX8_next 1 (some .int) [.ref (zb w + o0)] s (zeI a).1 (zeI a).2 :=
  zCn_of (own := RX8) (lv := [some (.ref (zb w + o0))]) (by decide +kernel) rfl (Nat.le_of_ble_eq_true rfl) rfl (fun x hr => by
    unfold m_X8_next
    refine zj_aload_n dX8_next_0 rfl ?_
    refine zj_getR dX8_next_1 fl_X8_28 rfl h_o0 ?_
    refine zj_split (fun hq1 => ?_) (fun _ => zj_none)
    refine zj_getT dX8_next_4 fl_X8_200 rfl hq1 ?_
    refine zj_cVI0 ml_X8_212 (fun a h => c_X0_bestTrial (zt_5_1 _ hq1) h) (zt_5_1 _ hq1) rfl (Nat.le_of_ble_eq_true rfl) (Nat.le_of_ble_eq_true rfl) dX8_next_7 (fun r3 s2 => ?_)
    exact zj_iret hr dX8_next_10) hm
