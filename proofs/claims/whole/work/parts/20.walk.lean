def m_X9_had_128 (o0 : Nat) (p1 : Int32) (p2 : Int32) (p3 : Int32) (p4 : Int32) (p5 : Int32) (l6 : Int64) (t0 : Nat) (t1 : Int64) (s : zSt) : Option (Int64 × zSt) :=
  zcv (m_X9_found t0 t1 l6 s) (fun s3 => zcl (m_X9_part o0 p5 s3) (fun r5 s4 => some (r5, s4)))
set_option maxRecDepth 100000 in
theorem j_X9_had_128 {o0 : Nat} {p1 : Int32} {p2 : Int32} {p3 : Int32} {p4 : Int32} {p5 : Int32} {l6 : Int64} {t0 : Nat} {t1 : Int64} {s : zSt} {w : zWC} {x : zCX} (hr : zrt x = (some .long))  (h_o0 : zC o0 = 9) (ht0 : zC t0 = 9) : zJ (zQf w x zeL) w x RX9 cX9_had 8 2 (m_X9_had_128 o0 p1 p2 p3 p4 p5 l6 t0 t1 s) 128 [some (.ref (zb w + o0)), none, none, none, none, some (.int p5), some (.long l6), none] [.long t1, .ref (zb w + t0)] s := by
  unfold m_X9_had_128
  refine zj_lload dX9_had_128 rfl ?_
  refine zj_cVV2 ml_X9_315 (fun a h => c_X9_found ht0 h) ht0 rfl (Nat.le_of_ble_eq_true rfl) (Nat.le_of_ble_eq_true rfl) dX9_had_130 (fun s3 => ?_)
  refine zj_aload_n dX9_had_133 rfl ?_
  refine zj_iload dX9_had_134 rfl ?_
  refine zj_cVL1 ml_X9_336 (fun a h => c_X9_part h_o0 h) h_o0 rfl (Nat.le_of_ble_eq_true rfl) (Nat.le_of_ble_eq_true rfl) dX9_had_136 (fun r5 s4 => ?_)
  exact zj_lret hr dX9_had_139
def m_X9_had_90 (o0 : Nat) (p1 : Int32) (p2 : Int32) (p3 : Int32) (p4 : Int32) (p5 : Int32) (t0 : Int64) (s : zSt) : Option (Int64 × zSt) :=
  (if t0 = 0 then
  some ((-1000000000000), s)
  else
  (if p4 = 0 then
    m_X9_had_128 o0 p1 p2 p3 p4 p5 t0 o0 ((p1.toInt64 * p3.toInt64) - (p2.toInt64 * p2.toInt64)) s
    else
    m_X9_had_128 o0 p1 p2 p3 p4 p5 t0 o0 (p2.toInt64 - p3.toInt64) s))
set_option maxRecDepth 100000 in
theorem j_X9_had_90 {o0 : Nat} {p1 : Int32} {p2 : Int32} {p3 : Int32} {p4 : Int32} {p5 : Int32} {t0 : Int64} {s : zSt} {w : zWC} {x : zCX} (hr : zrt x = (some .long))  (h_o0 : zC o0 = 9) : zJ (zQf w x zeL) w x RX9 cX9_had 8 2 (m_X9_had_90 o0 p1 p2 p3 p4 p5 t0 s) 90 [some (.ref (zb w + o0)), some (.int p1), some (.int p2), some (.int p3), some (.int p4), some (.int p5), none, none] [.long t0] s := by
  unfold m_X9_had_90
  refine zj_lstore (lv' := [some (.ref (zb w + o0)), some (.int p1), some (.int p2), some (.int p3), some (.int p4), some (.int p5), some (.long t0), none]) dX9_had_90 (by decide) rfl rfl ?_
  refine zj_lload dX9_had_92 rfl ?_
  refine zj_lconst (v := 0) dX9_had_94 rfl ?_
  refine zj_lcmp_ne (tgt := 103) dX9_had_95 dX9_had_96 (by decide) ?_ ?_
  · refine zj_ldc2 dX9_had_99 kcL_X9_330 ?_
    exact zj_lret hr dX9_had_102
  · refine zj_aload_n dX9_had_103 rfl ?_
    refine zj_iload dX9_had_104 rfl ?_
    refine zj_if_ne (tgt := 123) dX9_had_106 (by decide) ?_ ?_
    · refine zj_iload_n dX9_had_109 rfl ?_
      refine zj_i2l dX9_had_110 ?_
      refine zj_iload_n dX9_had_111 rfl ?_
      refine zj_i2l dX9_had_112 ?_
      refine zj_lmul dX9_had_113 ?_
      refine zj_iload_n dX9_had_114 rfl ?_
      refine zj_i2l dX9_had_115 ?_
      refine zj_iload_n dX9_had_116 rfl ?_
      refine zj_i2l dX9_had_117 ?_
      refine zj_lmul dX9_had_118 ?_
      refine zj_lsub dX9_had_119 ?_
      refine zj_goto (tgt := 128) dX9_had_120 (by decide) ?_
      refine zj_weak [true, false, false, false, false, true, true, false] rfl ?_
      exact j_X9_had_128 hr h_o0 h_o0
    · refine zj_iload_n dX9_had_123 rfl ?_
      refine zj_i2l dX9_had_124 ?_
      refine zj_iload_n dX9_had_125 rfl ?_
      refine zj_i2l dX9_had_126 ?_
      refine zj_lsub dX9_had_127 ?_
      refine zj_weak [true, false, false, false, false, true, true, false] rfl ?_
      exact j_X9_had_128 hr h_o0 h_o0
def m_X9_had (o0 : Nat) (p1 : Int32) (p2 : Int32) (p3 : Int32) (p4 : Int32) (p5 : Int32) (s : zSt) : Option (Int64 × zSt) :=
  (if p1 < (-9999) then
  some ((-1000000000000), s)
  else
  (if 9999 < p1 then
    some ((-1000000000000), s)
    else
    (if p2 < (-9999) then
      some ((-1000000000000), s)
      else
      (if 9999 < p2 then
        some ((-1000000000000), s)
        else
        (if p3 < (-9999) then
          some ((-1000000000000), s)
          else
          (if 9999 < p3 then
            some ((-1000000000000), s)
            else
            (if p4 < 0 then
              some ((-1000000000000), s)
              else
              (if 1 < p4 then
                some ((-1000000000000), s)
                else
                zcl (m_X9_isPart p5 s) (fun r2 s1 => (if r2 = 0 then
                  some ((-1000000000000), s1)
                  else
                  (if p4 = 0 then
                    m_X9_had_90 o0 p1 p2 p3 p4 p5 ((p1.toInt64 + p3.toInt64) - ((2 : Int64) * p2.toInt64)) s1
                    else
                    m_X9_had_90 o0 p1 p2 p3 p4 p5 (p2.toInt64 - p1.toInt64) s1)))))))))))
set_option maxRecDepth 100000 in
theorem c_X9_had {w : zWC} {o0 : Nat} {p1 : Int32} {p2 : Int32} {p3 : Int32} {p4 : Int32} {p5 : Int32} {s : zSt} (h_o0 : zC o0 = 9) {a : Int64 × zSt} (hm : m_X9_had o0 p1 p2 p3 p4 p5 s = some a) : zCn w 2 yX9_had cX9_had 8 (some .long) [.ref (zb w + o0), .int p1, .int p2, .int p3, .int p4, .int p5] s (zeL a).1 (zeL a).2 :=
  zCn_of (own := RX9) (lv := [some (.ref (zb w + o0)), some (.int p1), some (.int p2), some (.int p3), some (.int p4), some (.int p5), none, none]) (by decide +kernel) rfl (Nat.le_of_ble_eq_true rfl) rfl (fun x hr => by
    unfold m_X9_had
    refine zj_iload_n dX9_had_0 rfl ?_
    refine zj_sipush dX9_had_1 zsi_m9999 ?_
    refine zj_icmp_lt (tgt := 61) dX9_had_4 (by decide) ?_ ?_
    · refine zj_ldc2 dX9_had_61 kcL_X9_330 ?_
      exact zj_lret hr dX9_had_64
    · refine zj_iload_n dX9_had_7 rfl ?_
      refine zj_sipush dX9_had_8 zsi_9999 ?_
      refine zj_icmp_gt (tgt := 61) dX9_had_11 (by decide) ?_ ?_
      · refine zj_ldc2 dX9_had_61 kcL_X9_330 ?_
        exact zj_lret hr dX9_had_64
      · refine zj_iload_n dX9_had_14 rfl ?_
        refine zj_sipush dX9_had_15 zsi_m9999 ?_
        refine zj_icmp_lt (tgt := 61) dX9_had_18 (by decide) ?_ ?_
        · refine zj_ldc2 dX9_had_61 kcL_X9_330 ?_
          exact zj_lret hr dX9_had_64
        · refine zj_iload_n dX9_had_21 rfl ?_
          refine zj_sipush dX9_had_22 zsi_9999 ?_
          refine zj_icmp_gt (tgt := 61) dX9_had_25 (by decide) ?_ ?_
          · refine zj_ldc2 dX9_had_61 kcL_X9_330 ?_
            exact zj_lret hr dX9_had_64
          · refine zj_iload_n dX9_had_28 rfl ?_
            refine zj_sipush dX9_had_29 zsi_m9999 ?_
            refine zj_icmp_lt (tgt := 61) dX9_had_32 (by decide) ?_ ?_
            · refine zj_ldc2 dX9_had_61 kcL_X9_330 ?_
              exact zj_lret hr dX9_had_64
            · refine zj_iload_n dX9_had_35 rfl ?_
              refine zj_sipush dX9_had_36 zsi_9999 ?_
              refine zj_icmp_gt (tgt := 61) dX9_had_39 (by decide) ?_ ?_
              · refine zj_ldc2 dX9_had_61 kcL_X9_330 ?_
                exact zj_lret hr dX9_had_64
              · refine zj_iload dX9_had_42 rfl ?_
                refine zj_if_lt (tgt := 61) dX9_had_44 (by decide) ?_ ?_
                · refine zj_ldc2 dX9_had_61 kcL_X9_330 ?_
                  exact zj_lret hr dX9_had_64
                · refine zj_iload dX9_had_47 rfl ?_
                  refine zj_iconst dX9_had_49 zic_1 ?_
                  refine zj_icmp_gt (tgt := 61) dX9_had_50 (by decide) ?_ ?_
                  · refine zj_ldc2 dX9_had_61 kcL_X9_330 ?_
                    exact zj_lret hr dX9_had_64
                  · refine zj_iload dX9_had_53 rfl ?_
                    refine zj_cSI1 ml_X9_327 (fun a h => c_X9_isPart  h) (Nat.le_of_ble_eq_true rfl) (Nat.le_of_ble_eq_true rfl) dX9_had_55 (fun r2 s1 => ?_)
                    refine zj_if_ne (tgt := 65) dX9_had_58 (by decide) ?_ ?_
                    · refine zj_ldc2 dX9_had_61 kcL_X9_330 ?_
                      exact zj_lret hr dX9_had_64
                    · refine zj_iload dX9_had_65 rfl ?_
                      refine zj_if_ne (tgt := 85) dX9_had_67 (by decide) ?_ ?_
                      · refine zj_iload_n dX9_had_70 rfl ?_
                        refine zj_i2l dX9_had_71 ?_
                        refine zj_iload_n dX9_had_72 rfl ?_
                        refine zj_i2l dX9_had_73 ?_
                        refine zj_ladd dX9_had_74 ?_
                        refine zj_ldc2 dX9_had_75 kcL_X9_345 ?_
                        refine zj_iload_n dX9_had_78 rfl ?_
                        refine zj_i2l dX9_had_79 ?_
                        refine zj_lmul dX9_had_80 ?_
                        refine zj_lsub dX9_had_81 ?_
                        refine zj_goto (tgt := 90) dX9_had_82 (by decide) ?_
                        exact j_X9_had_90 hr h_o0
                      · refine zj_iload_n dX9_had_85 rfl ?_
                        refine zj_i2l dX9_had_86 ?_
                        refine zj_iload_n dX9_had_87 rfl ?_
                        refine zj_i2l dX9_had_88 ?_
                        refine zj_lsub dX9_had_89 ?_
                        exact j_X9_had_90 hr h_o0) hm
def m_X9_reading (o0 : Nat) (p1 : Int32) (p2 : Int32) (p3 : Int32) (s : zSt) : Option (Int32 × zSt) :=
  (if p1 < 0 then
  some ((-1), s)
  else
  (if 199 < p1 then
    some ((-1), s)
    else
    zcl (m_X9_isSide p2 s) (fun r2 s1 => (if r2 = 0 then
      some ((-1), s1)
      else
      (if p3 < (-999) then
        some ((-1), s1)
        else
        (if 999 < p3 then
          some ((-1), s1)
          else
          (if zI s1 o0 30 = 40 then
            some ((-1), s1)
            else
            (if zI s1 o0 30 < 0 ∨ zN (zT o0 25) ≤ Int32.toNatClampNeg (zI s1 o0 30) then none else zlt (zsI s1 (zT o0 25) (Int32.toNatClampNeg (zI s1 o0 30)) p1) (fun s3 => (if zI s3 o0 30 < 0 ∨ zN (zT o0 26) ≤ Int32.toNatClampNeg (zI s3 o0 30) then none else zlt (zsI s3 (zT o0 26) (Int32.toNatClampNeg (zI s3 o0 30)) p2) (fun s4 => (if zI s4 o0 30 < 0 ∨ zN (zT o0 27) ≤ Int32.toNatClampNeg (zI s4 o0 30) then none else zlt (zsI s4 (zT o0 27) (Int32.toNatClampNeg (zI s4 o0 30)) p3) (fun s5 => (if zI s5 o0 30 < 0 ∨ zN (zT o0 28) ≤ Int32.toNatClampNeg (zI s5 o0 30) then none else zlt (zsI s5 (zT o0 28) (Int32.toNatClampNeg (zI s5 o0 30)) (zI s5 o0 31)) (fun s6 => (if zI s6 o0 30 < 0 ∨ zN (zT o0 29) ≤ Int32.toNatClampNeg (zI s6 o0 30) then none else zlt (zsI s6 (zT o0 29) (Int32.toNatClampNeg (zI s6 o0 30)) (-1)) (fun s7 => zlt (zsI s7 o0 30 ((zI s7 o0 30) + 1)) (fun s8 => some ((zI s8 o0 30) - 1, s8)))))))))))))))))))
set_option maxRecDepth 100000 in
theorem c_X9_reading {w : zWC} {o0 : Nat} {p1 : Int32} {p2 : Int32} {p3 : Int32} {s : zSt} (h_o0 : zC o0 = 9) {a : Int32 × zSt} (hm : m_X9_reading o0 p1 p2 p3 s = some a) : zCn w 1 yX9_reading cX9_reading 4 (some .int) [.ref (zb w + o0), .int p1, .int p2, .int p3] s (zeI a).1 (zeI a).2 :=
  zCn_of (own := RX9) (lv := [some (.ref (zb w + o0)), some (.int p1), some (.int p2), some (.int p3)]) (by decide +kernel) rfl (Nat.le_of_ble_eq_true rfl) rfl (fun x hr => by
    unfold m_X9_reading
    refine zj_iload_n dX9_reading_0 rfl ?_
    refine zj_if_lt (tgt := 41) dX9_reading_1 (by decide) ?_ ?_
    · refine zj_iconst dX9_reading_41 zic_m1 ?_
      exact zj_iret hr dX9_reading_42
    · refine zj_iload_n dX9_reading_4 rfl ?_
      refine zj_sipush dX9_reading_5 zsi_199 ?_
      refine zj_icmp_gt (tgt := 41) dX9_reading_8 (by decide) ?_ ?_
      · refine zj_iconst dX9_reading_41 zic_m1 ?_
        exact zj_iret hr dX9_reading_42
      · refine zj_iload_n dX9_reading_11 rfl ?_
        refine zj_cSI1 ml_X9_324 (fun a h => c_X9_isSide  h) (Nat.le_of_ble_eq_true rfl) (Nat.le_of_ble_eq_true rfl) dX9_reading_12 (fun r2 s1 => ?_)
        refine zj_if_eq (tgt := 41) dX9_reading_15 (by decide) ?_ ?_
        · refine zj_iconst dX9_reading_41 zic_m1 ?_
          exact zj_iret hr dX9_reading_42
        · refine zj_iload_n dX9_reading_18 rfl ?_
          refine zj_sipush dX9_reading_19 zsi_m999 ?_
          refine zj_icmp_lt (tgt := 41) dX9_reading_22 (by decide) ?_ ?_
          · refine zj_iconst dX9_reading_41 zic_m1 ?_
            exact zj_iret hr dX9_reading_42
          · refine zj_iload_n dX9_reading_25 rfl ?_
            refine zj_sipush dX9_reading_26 zsi_999 ?_
            refine zj_icmp_gt (tgt := 41) dX9_reading_29 (by decide) ?_ ?_
            · refine zj_iconst dX9_reading_41 zic_m1 ?_
              exact zj_iret hr dX9_reading_42
            · refine zj_aload_n dX9_reading_32 rfl ?_
              refine zj_getI dX9_reading_33 fl_X9_347 rfl h_o0 ?_
              refine zj_bipush dX9_reading_36 zbi_40 ?_
              refine zj_icmp_ne (tgt := 43) dX9_reading_38 (by decide) ?_ ?_
              · refine zj_iconst dX9_reading_41 zic_m1 ?_
                exact zj_iret hr dX9_reading_42
              · refine zj_aload_n dX9_reading_43 rfl ?_
                refine zj_getT dX9_reading_44 fl_X9_40 rfl h_o0 ?_
                refine zj_aload_n dX9_reading_47 rfl ?_
                refine zj_getI dX9_reading_48 fl_X9_347 rfl h_o0 ?_
                refine zj_iload_n dX9_reading_51 rfl ?_
                refine zj_iast dX9_reading_52 (zt_9_25 _ h_o0) (fun s3 => ?_)
                refine zj_aload_n dX9_reading_53 rfl ?_
                refine zj_getT dX9_reading_54 fl_X9_43 rfl h_o0 ?_
                refine zj_aload_n dX9_reading_57 rfl ?_
                refine zj_getI dX9_reading_58 fl_X9_347 rfl h_o0 ?_
                refine zj_iload_n dX9_reading_61 rfl ?_
                refine zj_iast dX9_reading_62 (zt_9_26 _ h_o0) (fun s4 => ?_)
                refine zj_aload_n dX9_reading_63 rfl ?_
                refine zj_getT dX9_reading_64 fl_X9_46 rfl h_o0 ?_
                refine zj_aload_n dX9_reading_67 rfl ?_
                refine zj_getI dX9_reading_68 fl_X9_347 rfl h_o0 ?_
                refine zj_iload_n dX9_reading_71 rfl ?_
                refine zj_iast dX9_reading_72 (zt_9_27 _ h_o0) (fun s5 => ?_)
                refine zj_aload_n dX9_reading_73 rfl ?_
                refine zj_getT dX9_reading_74 fl_X9_49 rfl h_o0 ?_
                refine zj_aload_n dX9_reading_77 rfl ?_
                refine zj_getI dX9_reading_78 fl_X9_347 rfl h_o0 ?_
                refine zj_aload_n dX9_reading_81 rfl ?_
                refine zj_getI dX9_reading_82 fl_X9_350 rfl h_o0 ?_
                refine zj_iast dX9_reading_85 (zt_9_28 _ h_o0) (fun s6 => ?_)
                refine zj_aload_n dX9_reading_86 rfl ?_
                refine zj_getT dX9_reading_87 fl_X9_52 rfl h_o0 ?_
                refine zj_aload_n dX9_reading_90 rfl ?_
                refine zj_getI dX9_reading_91 fl_X9_347 rfl h_o0 ?_
                refine zj_iconst dX9_reading_94 zic_m1 ?_
                refine zj_iast dX9_reading_95 (zt_9_29 _ h_o0) (fun s7 => ?_)
                refine zj_aload_n dX9_reading_96 rfl ?_
                refine zj_dup dX9_reading_97 rfl ?_
                refine zj_getI dX9_reading_98 fl_X9_347 rfl h_o0 ?_
                refine zj_iconst dX9_reading_101 zic_1 ?_
                refine zj_iadd dX9_reading_102 ?_
                refine zj_putI dX9_reading_103 fl_X9_347 rfl h_o0 pd_9_30 rfl rfl (fun s8 => ?_)
                refine zj_aload_n dX9_reading_106 rfl ?_
                refine zj_getI dX9_reading_107 fl_X9_347 rfl h_o0 ?_
                refine zj_iconst dX9_reading_110 zic_1 ?_
                refine zj_isub dX9_reading_111 ?_
                exact zj_iret hr dX9_reading_112) hm
def m_X9_untell (o0 : Nat) (p1 : Int32) (s : zSt) : Option (Int32 × zSt) :=
  (if p1 < 0 then
  some (0, s)
  else
  (if p1 < zI s o0 30 then
    (if p1 < 0 ∨ zN (zT o0 29) ≤ Int32.toNatClampNeg p1 then none else (if zI s (zT o0 29) (Int32.toNatClampNeg p1) < 0 then
      (if p1 < 0 ∨ zN (zT o0 29) ≤ Int32.toNatClampNeg p1 then none else zlt (zsI s (zT o0 29) (Int32.toNatClampNeg p1) (zI s o0 31)) (fun s1 => some (1, s1)))
      else
      some (0, s)))
    else
    some (0, s)))
set_option maxRecDepth 100000 in
theorem c_X9_untell {w : zWC} {o0 : Nat} {p1 : Int32} {s : zSt} (h_o0 : zC o0 = 9) {a : Int32 × zSt} (hm : m_X9_untell o0 p1 s = some a) : zCn w 0 yX9_untell cX9_untell 2 (some .boolean) [.ref (zb w + o0), .int p1] s (zeI a).1 (zeI a).2 :=
  zCn_of (own := RX9) (lv := [some (.ref (zb w + o0)), some (.int p1)]) (by decide +kernel) rfl (Nat.le_of_ble_eq_true rfl) rfl (fun x hr => by
    unfold m_X9_untell
    refine zj_iload_n dX9_untell_0 rfl ?_
    refine zj_if_lt (tgt := 21) dX9_untell_1 (by decide) ?_ ?_
    · refine zj_iconst dX9_untell_21 zic_0 ?_
      exact zj_zret hr rfl dX9_untell_22
    · refine zj_iload_n dX9_untell_4 rfl ?_
      refine zj_aload_n dX9_untell_5 rfl ?_
      refine zj_getI dX9_untell_6 fl_X9_347 rfl h_o0 ?_
      refine zj_icmp_ge (tgt := 21) dX9_untell_9 (by decide) ?_ ?_
      · refine zj_aload_n dX9_untell_12 rfl ?_
        refine zj_getT dX9_untell_13 fl_X9_52 rfl h_o0 ?_
        refine zj_iload_n dX9_untell_16 rfl ?_
        refine zj_iald dX9_untell_17 (zt_9_29 _ h_o0) ?_
        refine zj_if_lt (tgt := 23) dX9_untell_18 (by decide) ?_ ?_
        · refine zj_aload_n dX9_untell_23 rfl ?_
          refine zj_getT dX9_untell_24 fl_X9_52 rfl h_o0 ?_
          refine zj_iload_n dX9_untell_27 rfl ?_
          refine zj_aload_n dX9_untell_28 rfl ?_
          refine zj_getI dX9_untell_29 fl_X9_350 rfl h_o0 ?_
          refine zj_iast dX9_untell_32 (zt_9_29 _ h_o0) (fun s1 => ?_)
          refine zj_iconst dX9_untell_33 zic_1 ?_
          exact zj_zret hr rfl dX9_untell_34
        · refine zj_iconst dX9_untell_21 zic_0 ?_
          exact zj_zret hr rfl dX9_untell_22
      · refine zj_iconst dX9_untell_21 zic_0 ?_
        exact zj_zret hr rfl dX9_untell_22) hm
def m_X9_later (o0 : Nat) (p1 : Int32) (s : zSt) : Option (Int32 × zSt) :=
  (if p1 < 0 then
  some ((-1), s)
  else
  (if 1000 < p1 then
    some ((-1), s)
    else
    (if 100000 < (zI s o0 31) + p1 then
      some ((-1), s)
      else
      zlt (zsI s o0 31 ((zI s o0 31) + p1)) (fun s1 => some (zI s1 o0 31, s1)))))
set_option maxRecDepth 100000 in
theorem c_X9_later {w : zWC} {o0 : Nat} {p1 : Int32} {s : zSt} (h_o0 : zC o0 = 9) {a : Int32 × zSt} (hm : m_X9_later o0 p1 s = some a) : zCn w 0 yX9_later cX9_later 2 (some .int) [.ref (zb w + o0), .int p1] s (zeI a).1 (zeI a).2 :=
  zCn_of (own := RX9) (lv := [some (.ref (zb w + o0)), some (.int p1)]) (by decide +kernel) rfl (Nat.le_of_ble_eq_true rfl) rfl (fun x hr => by
    unfold m_X9_later
    refine zj_iload_n dX9_later_0 rfl ?_
    refine zj_if_lt (tgt := 23) dX9_later_1 (by decide) ?_ ?_
    · refine zj_iconst dX9_later_23 zic_m1 ?_
      exact zj_iret hr dX9_later_24
    · refine zj_iload_n dX9_later_4 rfl ?_
      refine zj_sipush dX9_later_5 zsi_1000 ?_
      refine zj_icmp_gt (tgt := 23) dX9_later_8 (by decide) ?_ ?_
      · refine zj_iconst dX9_later_23 zic_m1 ?_
        exact zj_iret hr dX9_later_24
      · refine zj_aload_n dX9_later_11 rfl ?_
        refine zj_getI dX9_later_12 fl_X9_350 rfl h_o0 ?_
        refine zj_iload_n dX9_later_15 rfl ?_
        refine zj_iadd dX9_later_16 ?_
        refine zj_ldcw dX9_later_17 kc_X9_353 ?_
        refine zj_icmp_le (tgt := 25) dX9_later_20 (by decide) ?_ ?_
        · refine zj_iconst dX9_later_23 zic_m1 ?_
          exact zj_iret hr dX9_later_24
        · refine zj_aload_n dX9_later_25 rfl ?_
          refine zj_dup dX9_later_26 rfl ?_
          refine zj_getI dX9_later_27 fl_X9_350 rfl h_o0 ?_
          refine zj_iload_n dX9_later_30 rfl ?_
          refine zj_iadd dX9_later_31 ?_
          refine zj_putI dX9_later_32 fl_X9_350 rfl h_o0 pd_9_31 rfl rfl (fun s1 => ?_)
          refine zj_aload_n dX9_later_35 rfl ?_
          refine zj_getI dX9_later_36 fl_X9_350 rfl h_o0 ?_
          exact zj_iret hr dX9_later_39) hm
def m_X9_counts (o0 : Nat) (p1 : Int32) (p2 : Int32) (s : zSt) : Option (Int32 × zSt) :=
  (if p1 < 0 ∨ zN (zT o0 28) ≤ Int32.toNatClampNeg p1 then none else (if p2 < zI s (zT o0 28) (Int32.toNatClampNeg p1) then
  some (0, s)
  else
  (if p1 < 0 ∨ zN (zT o0 29) ≤ Int32.toNatClampNeg p1 then none else (if zI s (zT o0 29) (Int32.toNatClampNeg p1) < 0 then
    some (1, s)
    else
    (if p1 < 0 ∨ zN (zT o0 29) ≤ Int32.toNatClampNeg p1 then none else (if p2 < zI s (zT o0 29) (Int32.toNatClampNeg p1) then
      some (1, s)
      else
      some (0, s)))))))
set_option maxRecDepth 100000 in
theorem c_X9_counts {w : zWC} {o0 : Nat} {p1 : Int32} {p2 : Int32} {s : zSt} (h_o0 : zC o0 = 9) {a : Int32 × zSt} (hm : m_X9_counts o0 p1 p2 s = some a) : zCn w 0 yX9_counts cX9_counts 3 (some .boolean) [.ref (zb w + o0), .int p1, .int p2] s (zeI a).1 (zeI a).2 :=
  zCn_of (own := RX9) (lv := [some (.ref (zb w + o0)), some (.int p1), some (.int p2)]) (by decide +kernel) rfl (Nat.le_of_ble_eq_true rfl) rfl (fun x hr => by
    unfold m_X9_counts
    refine zj_aload_n dX9_counts_0 rfl ?_
    refine zj_getT dX9_counts_1 fl_X9_49 rfl h_o0 ?_
    refine zj_iload_n dX9_counts_4 rfl ?_
    refine zj_iald dX9_counts_5 (zt_9_28 _ h_o0) ?_
    refine zj_iload_n dX9_counts_6 rfl ?_
    refine zj_icmp_gt (tgt := 33) dX9_counts_7 (by decide) ?_ ?_
    · refine zj_iconst dX9_counts_33 zic_0 ?_
      exact zj_zret hr rfl dX9_counts_34
    · refine zj_aload_n dX9_counts_10 rfl ?_
      refine zj_getT dX9_counts_11 fl_X9_52 rfl h_o0 ?_
      refine zj_iload_n dX9_counts_14 rfl ?_
      refine zj_iald dX9_counts_15 (zt_9_29 _ h_o0) ?_
      refine zj_if_lt (tgt := 29) dX9_counts_16 (by decide) ?_ ?_
      · refine zj_iconst dX9_counts_29 zic_1 ?_
        refine zj_goto (tgt := 34) dX9_counts_30 (by decide) ?_
        exact zj_zret hr rfl dX9_counts_34
      · refine zj_aload_n dX9_counts_19 rfl ?_
        refine zj_getT dX9_counts_20 fl_X9_52 rfl h_o0 ?_
        refine zj_iload_n dX9_counts_23 rfl ?_
        refine zj_iald dX9_counts_24 (zt_9_29 _ h_o0) ?_
        refine zj_iload_n dX9_counts_25 rfl ?_
        refine zj_icmp_le (tgt := 33) dX9_counts_26 (by decide) ?_ ?_
        · refine zj_iconst dX9_counts_29 zic_1 ?_
          refine zj_goto (tgt := 34) dX9_counts_30 (by decide) ?_
          exact zj_zret hr rfl dX9_counts_34
        · refine zj_iconst dX9_counts_33 zic_0 ?_
          exact zj_zret hr rfl dX9_counts_34) hm
def m_X9_goes (o0 : Nat) (p1 : Int32) (p2 : Int32) (s : zSt) : Option (Int32 × zSt) :=
  (if p2 = 0 then
  some (1, s)
  else
  (if p2 = 1 then
    (if p1 < 0 ∨ zN (zT o0 26) ≤ Int32.toNatClampNeg p1 then none else some (zI s (zT o0 26) (Int32.toNatClampNeg p1), s))
    else
    (if p2 = 2 then
      (if p1 < 0 ∨ zN (zT o0 25) ≤ Int32.toNatClampNeg p1 then none else some (zI s (zT o0 25) (Int32.toNatClampNeg p1), s))
      else
      (if p1 < 0 ∨ zN (zT o0 26) ≤ Int32.toNatClampNeg p1 then none else (if p1 < 0 ∨ zN (zT o0 26) ≤ Int32.toNatClampNeg p1 then none else some ((zI s (zT o0 26) (Int32.toNatClampNeg p1)) * (zI s (zT o0 26) (Int32.toNatClampNeg p1)), s))))))
set_option maxRecDepth 100000 in
theorem c_X9_goes {w : zWC} {o0 : Nat} {p1 : Int32} {p2 : Int32} {s : zSt} (h_o0 : zC o0 = 9) {a : Int32 × zSt} (hm : m_X9_goes o0 p1 p2 s = some a) : zCn w 0 yX9_goes cX9_goes 3 (some .int) [.ref (zb w + o0), .int p1, .int p2] s (zeI a).1 (zeI a).2 :=
  zCn_of (own := RX9) (lv := [some (.ref (zb w + o0)), some (.int p1), some (.int p2)]) (by decide +kernel) rfl (Nat.le_of_ble_eq_true rfl) rfl (fun x hr => by
    unfold m_X9_goes
    refine zj_iload_n dX9_goes_0 rfl ?_
    refine zj_if_ne (tgt := 8) dX9_goes_1 (by decide) ?_ ?_
    · refine zj_iconst dX9_goes_4 zic_1 ?_
      refine zj_goto (tgt := 49) dX9_goes_5 (by decide) ?_
      exact zj_iret hr dX9_goes_49
    · refine zj_iload_n dX9_goes_8 rfl ?_
      refine zj_iconst dX9_goes_9 zic_1 ?_
      refine zj_icmp_ne (tgt := 22) dX9_goes_10 (by decide) ?_ ?_
      · refine zj_aload_n dX9_goes_13 rfl ?_
        refine zj_getT dX9_goes_14 fl_X9_43 rfl h_o0 ?_
        refine zj_iload_n dX9_goes_17 rfl ?_
        refine zj_iald dX9_goes_18 (zt_9_26 _ h_o0) ?_
        refine zj_goto (tgt := 49) dX9_goes_19 (by decide) ?_
        exact zj_iret hr dX9_goes_49
      · refine zj_iload_n dX9_goes_22 rfl ?_
        refine zj_iconst dX9_goes_23 zic_2 ?_
        refine zj_icmp_ne (tgt := 36) dX9_goes_24 (by decide) ?_ ?_
        · refine zj_aload_n dX9_goes_27 rfl ?_
          refine zj_getT dX9_goes_28 fl_X9_40 rfl h_o0 ?_
          refine zj_iload_n dX9_goes_31 rfl ?_
          refine zj_iald dX9_goes_32 (zt_9_25 _ h_o0) ?_
          refine zj_goto (tgt := 49) dX9_goes_33 (by decide) ?_
          exact zj_iret hr dX9_goes_49
        · refine zj_aload_n dX9_goes_36 rfl ?_
          refine zj_getT dX9_goes_37 fl_X9_43 rfl h_o0 ?_
          refine zj_iload_n dX9_goes_40 rfl ?_
          refine zj_iald dX9_goes_41 (zt_9_26 _ h_o0) ?_
          refine zj_aload_n dX9_goes_42 rfl ?_
          refine zj_getT dX9_goes_43 fl_X9_43 rfl h_o0 ?_
          refine zj_iload_n dX9_goes_46 rfl ?_
          refine zj_iald dX9_goes_47 (zt_9_26 _ h_o0) ?_
          refine zj_imul dX9_goes_48 ?_
          exact zj_iret hr dX9_goes_49) hm
def m_X9_two (o0 : Nat) (p1 : Int32) (p2 : Int32) (p3 : Int32) (p4 : Int32) (s : zSt) : Option (Int64 × zSt) :=
  (if ((4 : Int32) * p1) + p3 < 0 ∨ zN (zT o0 34) ≤ Int32.toNatClampNeg (((4 : Int32) * p1) + p3) then none else (if ((4 : Int32) * p2) + p4 < 0 ∨ zN (zT o0 34) ≤ Int32.toNatClampNeg (((4 : Int32) * p2) + p4) then none else (if ((4 : Int32) * p1) + p4 < 0 ∨ zN (zT o0 34) ≤ Int32.toNatClampNeg (((4 : Int32) * p1) + p4) then none else (if ((4 : Int32) * p2) + p3 < 0 ∨ zN (zT o0 34) ≤ Int32.toNatClampNeg (((4 : Int32) * p2) + p3) then none else some (((zL s (zT o0 34) (Int32.toNatClampNeg (((4 : Int32) * p1) + p3))) * (zL s (zT o0 34) (Int32.toNatClampNeg (((4 : Int32) * p2) + p4)))) - ((zL s (zT o0 34) (Int32.toNatClampNeg (((4 : Int32) * p1) + p4))) * (zL s (zT o0 34) (Int32.toNatClampNeg (((4 : Int32) * p2) + p3)))), s)))))
set_option maxRecDepth 100000 in
theorem c_X9_two {w : zWC} {o0 : Nat} {p1 : Int32} {p2 : Int32} {p3 : Int32} {p4 : Int32} {s : zSt} (h_o0 : zC o0 = 9) {a : Int64 × zSt} (hm : m_X9_two o0 p1 p2 p3 p4 s = some a) : zCn w 0 yX9_two cX9_two 5 (some .long) [.ref (zb w + o0), .int p1, .int p2, .int p3, .int p4] s (zeL a).1 (zeL a).2 :=
  zCn_of (own := RX9) (lv := [some (.ref (zb w + o0)), some (.int p1), some (.int p2), some (.int p3), some (.int p4)]) (by decide +kernel) rfl (Nat.le_of_ble_eq_true rfl) rfl (fun x hr => by
    unfold m_X9_two
    refine zj_aload_n dX9_two_0 rfl ?_
    refine zj_getT dX9_two_1 fl_X9_61 rfl h_o0 ?_
    refine zj_iconst dX9_two_4 zic_4 ?_
    refine zj_iload_n dX9_two_5 rfl ?_
    refine zj_imul dX9_two_6 ?_
    refine zj_iload_n dX9_two_7 rfl ?_
    refine zj_iadd dX9_two_8 ?_
    refine zj_lald dX9_two_9 (zt_9_34 _ h_o0) ?_
    refine zj_aload_n dX9_two_10 rfl ?_
    refine zj_getT dX9_two_11 fl_X9_61 rfl h_o0 ?_
    refine zj_iconst dX9_two_14 zic_4 ?_
    refine zj_iload_n dX9_two_15 rfl ?_
    refine zj_imul dX9_two_16 ?_
    refine zj_iload dX9_two_17 rfl ?_
    refine zj_iadd dX9_two_19 ?_
    refine zj_lald dX9_two_20 (zt_9_34 _ h_o0) ?_
    refine zj_lmul dX9_two_21 ?_
    refine zj_aload_n dX9_two_22 rfl ?_
    refine zj_getT dX9_two_23 fl_X9_61 rfl h_o0 ?_
    refine zj_iconst dX9_two_26 zic_4 ?_
    refine zj_iload_n dX9_two_27 rfl ?_
    refine zj_imul dX9_two_28 ?_
    refine zj_iload dX9_two_29 rfl ?_
    refine zj_iadd dX9_two_31 ?_
    refine zj_lald dX9_two_32 (zt_9_34 _ h_o0) ?_
    refine zj_aload_n dX9_two_33 rfl ?_
    refine zj_getT dX9_two_34 fl_X9_61 rfl h_o0 ?_
    refine zj_iconst dX9_two_37 zic_4 ?_
    refine zj_iload_n dX9_two_38 rfl ?_
    refine zj_imul dX9_two_39 ?_
    refine zj_iload_n dX9_two_40 rfl ?_
    refine zj_iadd dX9_two_41 ?_
    refine zj_lald dX9_two_42 (zt_9_34 _ h_o0) ?_
    refine zj_lmul dX9_two_43 ?_
    refine zj_lsub dX9_two_44 ?_
    exact zj_lret hr dX9_two_45) hm
def m_X9_three (o0 : Nat) (p1 : Int32) (p2 : Int32) (p3 : Int32) (p4 : Int32) (p5 : Int32) (p6 : Int32) (s : zSt) : Option (Int64 × zSt) :=
  (if ((4 : Int32) * p1) + p4 < 0 ∨ zN (zT o0 34) ≤ Int32.toNatClampNeg (((4 : Int32) * p1) + p4) then none else zcl (m_X9_two o0 p2 p3 p5 p6 s) (fun r2 s1 => (if ((4 : Int32) * p1) + p5 < 0 ∨ zN (zT o0 34) ≤ Int32.toNatClampNeg (((4 : Int32) * p1) + p5) then none else zcl (m_X9_two o0 p2 p3 p4 p6 s1) (fun r4 s3 => (if ((4 : Int32) * p1) + p6 < 0 ∨ zN (zT o0 34) ≤ Int32.toNatClampNeg (((4 : Int32) * p1) + p6) then none else zcl (m_X9_two o0 p2 p3 p4 p5 s3) (fun r6 s5 => some ((((zL s (zT o0 34) (Int32.toNatClampNeg (((4 : Int32) * p1) + p4))) * r2) - ((zL s1 (zT o0 34) (Int32.toNatClampNeg (((4 : Int32) * p1) + p5))) * r4)) + ((zL s3 (zT o0 34) (Int32.toNatClampNeg (((4 : Int32) * p1) + p6))) * r6), s5)))))))
set_option maxRecDepth 100000 in
theorem c_X9_three {w : zWC} {o0 : Nat} {p1 : Int32} {p2 : Int32} {p3 : Int32} {p4 : Int32} {p5 : Int32} {p6 : Int32} {s : zSt} (h_o0 : zC o0 = 9) {a : Int64 × zSt} (hm : m_X9_three o0 p1 p2 p3 p4 p5 p6 s = some a) : zCn w 1 yX9_three cX9_three 7 (some .long) [.ref (zb w + o0), .int p1, .int p2, .int p3, .int p4, .int p5, .int p6] s (zeL a).1 (zeL a).2 :=
  zCn_of (own := RX9) (lv := [some (.ref (zb w + o0)), some (.int p1), some (.int p2), some (.int p3), some (.int p4), some (.int p5), some (.int p6)]) (by decide +kernel) rfl (Nat.le_of_ble_eq_true rfl) rfl (fun x hr => by
    unfold m_X9_three
    refine zj_aload_n dX9_three_0 rfl ?_
    refine zj_getT dX9_three_1 fl_X9_61 rfl h_o0 ?_
    refine zj_iconst dX9_three_4 zic_4 ?_
    refine zj_iload_n dX9_three_5 rfl ?_
    refine zj_imul dX9_three_6 ?_
    refine zj_iload dX9_three_7 rfl ?_
    refine zj_iadd dX9_three_9 ?_
    refine zj_lald dX9_three_10 (zt_9_34 _ h_o0) ?_
    refine zj_aload_n dX9_three_11 rfl ?_
    refine zj_iload_n dX9_three_12 rfl ?_
    refine zj_iload_n dX9_three_13 rfl ?_
    refine zj_iload dX9_three_14 rfl ?_
    refine zj_iload dX9_three_16 rfl ?_
    refine zj_cVL4 ml_X9_354 (fun a h => c_X9_two h_o0 h) h_o0 rfl (Nat.le_of_ble_eq_true rfl) (Nat.le_of_ble_eq_true rfl) dX9_three_18 (fun r2 s1 => ?_)
    refine zj_lmul dX9_three_21 ?_
    refine zj_aload_n dX9_three_22 rfl ?_
    refine zj_getT dX9_three_23 fl_X9_61 rfl h_o0 ?_
    refine zj_iconst dX9_three_26 zic_4 ?_
    refine zj_iload_n dX9_three_27 rfl ?_
    refine zj_imul dX9_three_28 ?_
    refine zj_iload dX9_three_29 rfl ?_
    refine zj_iadd dX9_three_31 ?_
    refine zj_lald dX9_three_32 (zt_9_34 _ h_o0) ?_
    refine zj_aload_n dX9_three_33 rfl ?_
    refine zj_iload_n dX9_three_34 rfl ?_
    refine zj_iload_n dX9_three_35 rfl ?_
    refine zj_iload dX9_three_36 rfl ?_
    refine zj_iload dX9_three_38 rfl ?_
    refine zj_cVL4 ml_X9_354 (fun a h => c_X9_two h_o0 h) h_o0 rfl (Nat.le_of_ble_eq_true rfl) (Nat.le_of_ble_eq_true rfl) dX9_three_40 (fun r4 s3 => ?_)
    refine zj_lmul dX9_three_43 ?_
    refine zj_lsub dX9_three_44 ?_
    refine zj_aload_n dX9_three_45 rfl ?_
    refine zj_getT dX9_three_46 fl_X9_61 rfl h_o0 ?_
    refine zj_iconst dX9_three_49 zic_4 ?_
    refine zj_iload_n dX9_three_50 rfl ?_
    refine zj_imul dX9_three_51 ?_
    refine zj_iload dX9_three_52 rfl ?_
    refine zj_iadd dX9_three_54 ?_
    refine zj_lald dX9_three_55 (zt_9_34 _ h_o0) ?_
    refine zj_aload_n dX9_three_56 rfl ?_
    refine zj_iload_n dX9_three_57 rfl ?_
    refine zj_iload_n dX9_three_58 rfl ?_
    refine zj_iload dX9_three_59 rfl ?_
    refine zj_iload dX9_three_61 rfl ?_
    refine zj_cVL4 ml_X9_354 (fun a h => c_X9_two h_o0 h) h_o0 rfl (Nat.le_of_ble_eq_true rfl) (Nat.le_of_ble_eq_true rfl) dX9_three_63 (fun r6 s5 => ?_)
    refine zj_lmul dX9_three_66 ?_
    refine zj_ladd dX9_three_67 ?_
    exact zj_lret hr dX9_three_68) hm
def m_X9_determinant_37 (o0 : Nat) (p1 : Int32) (p2 : Int32) (rec2 : Int32 → zSt → Option (Int64 × zSt)) (k44 : zSt → Option (Int64 × zSt)) (l3 : Int32) (t0 : Nat) (t1 : Int32) (t2 : Int64) (s : zSt) : Option (Int64 × zSt) :=
  (if t1 < 0 ∨ zN t0 ≤ Int32.toNatClampNeg t1 then none else zlt (zsL s t0 (Int32.toNatClampNeg t1) t2) (fun s1 => rec2 (l3 + 1) s1))
set_option maxRecDepth 100000 in
theorem j_X9_determinant_37 {o0 : Nat} {p1 : Int32} {p2 : Int32} {rec2 : Int32 → zSt → Option (Int64 × zSt)} {k44 : zSt → Option (Int64 × zSt)} {l3 : Int32} {t0 : Nat} {t1 : Int32} {t2 : Int64} {s : zSt} {w : zWC} {x : zCX} (hr : zrt x = (some .long))  (h_o0 : zC o0 = 9) (h_rec2 : ∀ (l3 : Int32) (s : zSt), zJ (zQf w x zeL) w x RX9 cX9_determinant 4 2 (rec2 l3 s) 2 [some (.ref (zb w + o0)), some (.int p1), some (.int p2), some (.int l3)] [] s) (h_k44 : ∀  (s : zSt), zJ (zQf w x zeL) w x RX9 cX9_determinant 4 2 (k44  s) 44 [some (.ref (zb w + o0)), some (.int p1), none, none] [] s) (ht0 : zC t0 = 12) : zJ (zQf w x zeL) w x RX9 cX9_determinant 4 2 (m_X9_determinant_37 o0 p1 p2 rec2 k44 l3 t0 t1 t2 s) 37 [some (.ref (zb w + o0)), some (.int p1), some (.int p2), some (.int l3)] [.long t2, .int t1, .ref (zb w + t0)] s := by
  unfold m_X9_determinant_37
  refine zj_last dX9_determinant_37 ht0 (fun s1 => ?_)
  refine zj_iinc (v2 := l3 + 1) (lv' := [some (.ref (zb w + o0)), some (.int p1), some (.int p2), some (.int (l3 + 1))]) dX9_determinant_38 rfl (by rw [zic_1]) (by decide) rfl rfl ?_
  refine zj_goto (tgt := 2) dX9_determinant_41 (by decide) ?_
  exact h_rec2 _ _
def bd_X9_determinant_2 (o0 : Nat) (p1 : Int32) (p2 : Int32) (rec2 : Int32 → zSt → Option (Int64 × zSt)) (k44 : zSt → Option (Int64 × zSt)) (l3 : Int32) (s : zSt) : Option (Int64 × zSt) :=
  (if l3 < 16 then
  (if l3 - l3 / 4 * 4 = p2 then
    (if l3 / 4 < 0 ∨ zN (zT o0 33) ≤ Int32.toNatClampNeg (l3 / 4) then none else m_X9_determinant_37 o0 p1 p2 rec2 k44 l3 (zT o0 34) l3 (zL s (zT o0 33) (Int32.toNatClampNeg (l3 / 4))) s)
    else
    (if l3 < 0 ∨ zN (zT o0 32) ≤ Int32.toNatClampNeg l3 then none else m_X9_determinant_37 o0 p1 p2 rec2 k44 l3 (zT o0 34) l3 (zL s (zT o0 32) (Int32.toNatClampNeg l3)) s))
  else
  k44  s)
def lp_X9_determinant_2 (o0 : Nat) (p1 : Int32) (p2 : Int32) (k44 : zSt → Option (Int64 × zSt)) : Nat → Int32 → zSt → Option (Int64 × zSt)
  | 0, _, _ => none
  | n + 1, l3, s => bd_X9_determinant_2 o0 p1 p2 (fun l3 s => lp_X9_determinant_2 o0 p1 p2 k44 n l3 s) k44 l3 s
set_option maxRecDepth 100000 in
theorem jb_X9_determinant_2 {o0 : Nat} {p1 : Int32} {p2 : Int32} {rec2 : Int32 → zSt → Option (Int64 × zSt)} {k44 : zSt → Option (Int64 × zSt)} {l3 : Int32} {s : zSt} {w : zWC} {x : zCX} (hr : zrt x = (some .long))  (h_o0 : zC o0 = 9) (h_rec2 : ∀ (l3 : Int32) (s : zSt), zJ (zQf w x zeL) w x RX9 cX9_determinant 4 2 (rec2 l3 s) 2 [some (.ref (zb w + o0)), some (.int p1), some (.int p2), some (.int l3)] [] s) (h_k44 : ∀  (s : zSt), zJ (zQf w x zeL) w x RX9 cX9_determinant 4 2 (k44  s) 44 [some (.ref (zb w + o0)), some (.int p1), none, none] [] s) : zJ (zQf w x zeL) w x RX9 cX9_determinant 4 2 (bd_X9_determinant_2 o0 p1 p2 rec2 k44 l3 s) 2 [some (.ref (zb w + o0)), some (.int p1), some (.int p2), some (.int l3)] [] s := by
  unfold bd_X9_determinant_2
  refine zj_iload_n dX9_determinant_2 rfl ?_
  refine zj_bipush dX9_determinant_3 zbi_16 ?_
  refine zj_icmp_ge (tgt := 44) dX9_determinant_5 (by decide) ?_ ?_
  · refine zj_aload_n dX9_determinant_8 rfl ?_
    refine zj_getT dX9_determinant_9 fl_X9_61 rfl h_o0 ?_
    refine zj_iload_n dX9_determinant_12 rfl ?_
    refine zj_iload_n dX9_determinant_13 rfl ?_
    refine zj_iconst dX9_determinant_14 zic_4 ?_
    refine zj_iremK dX9_determinant_15 (by decide) ?_
    refine zj_iload_n dX9_determinant_16 rfl ?_
    refine zj_icmp_ne (tgt := 31) dX9_determinant_17 (by decide) ?_ ?_
    · refine zj_aload_n dX9_determinant_20 rfl ?_
      refine zj_getT dX9_determinant_21 fl_X9_58 rfl h_o0 ?_
      refine zj_iload_n dX9_determinant_24 rfl ?_
      refine zj_iconst dX9_determinant_25 zic_4 ?_
      refine zj_idivK dX9_determinant_26 (by decide) ?_
      refine zj_lald dX9_determinant_27 (zt_9_33 _ h_o0) ?_
      refine zj_goto (tgt := 37) dX9_determinant_28 (by decide) ?_
      exact j_X9_determinant_37 hr h_o0 h_rec2 h_k44 (zt_9_34 _ h_o0)
    · refine zj_aload_n dX9_determinant_31 rfl ?_
      refine zj_getT dX9_determinant_32 fl_X9_55 rfl h_o0 ?_
      refine zj_iload_n dX9_determinant_35 rfl ?_
      refine zj_lald dX9_determinant_36 (zt_9_32 _ h_o0) ?_
      exact j_X9_determinant_37 hr h_o0 h_rec2 h_k44 (zt_9_34 _ h_o0)
  · refine zj_weak [true, true, false, false] rfl ?_
    exact h_k44 _
set_option maxRecDepth 100000 in
theorem jl_X9_determinant_2 {o0 : Nat} {p1 : Int32} {p2 : Int32} {k44 : zSt → Option (Int64 × zSt)} {w : zWC} {x : zCX} (hr : zrt x = (some .long))  (h_o0 : zC o0 = 9) (h_k44 : ∀  (s : zSt), zJ (zQf w x zeL) w x RX9 cX9_determinant 4 2 (k44  s) 44 [some (.ref (zb w + o0)), some (.int p1), none, none] [] s) : ∀ (n : Nat) (l3 : Int32) (s : zSt), zJ (zQf w x zeL) w x RX9 cX9_determinant 4 2 (lp_X9_determinant_2 o0 p1 p2 k44 n l3 s) 2 [some (.ref (zb w + o0)), some (.int p1), some (.int p2), some (.int l3)] [] s := by
  intro n
  induction n with
  | zero => intro l3 s; exact zj_none
  | succ n ih => intro l3 s; exact jb_X9_determinant_2 hr h_o0 (fun l3 s => ih l3 s) h_k44
def m_X9_determinant (o0 : Nat) (p1 : Int32) (p2 : Int32) (s : zSt) : Option (Int64 × zSt) :=
  lp_X9_determinant_2 o0 p1 p2 (fun s_2 => (if p1 = 2 then
  zcl (m_X9_two o0 0 1 0 1 s_2) (fun r4 s3 => some (r4, s3))
  else
  (if p1 = 3 then
    zcl (m_X9_three o0 0 1 2 0 1 2 s_2) (fun r6 s5 => some (r6, s5))
    else
    (if (0 : Int32) < 0 ∨ zN (zT o0 34) ≤ Int32.toNatClampNeg 0 then none else zcl (m_X9_three o0 1 2 3 1 2 3 s_2) (fun r8 s7 => (if (1 : Int32) < 0 ∨ zN (zT o0 34) ≤ Int32.toNatClampNeg 1 then none else zcl (m_X9_three o0 1 2 3 0 2 3 s7) (fun r10 s9 => (if (2 : Int32) < 0 ∨ zN (zT o0 34) ≤ Int32.toNatClampNeg 2 then none else zcl (m_X9_three o0 1 2 3 0 1 3 s9) (fun r12 s11 => (if (3 : Int32) < 0 ∨ zN (zT o0 34) ≤ Int32.toNatClampNeg 3 then none else zcl (m_X9_three o0 1 2 3 0 1 2 s11) (fun r14 s13 => some (((((zL s_2 (zT o0 34) (Int32.toNatClampNeg 0)) * r8) - ((zL s7 (zT o0 34) (Int32.toNatClampNeg 1)) * r10)) + ((zL s9 (zT o0 34) (Int32.toNatClampNeg 2)) * r12)) - ((zL s11 (zT o0 34) (Int32.toNatClampNeg 3)) * r14), s13)))))))))))) zFuel 0 s
set_option maxRecDepth 100000 in
theorem c_X9_determinant {w : zWC} {o0 : Nat} {p1 : Int32} {p2 : Int32} {s : zSt} (h_o0 : zC o0 = 9) {a : Int64 × zSt} (hm : m_X9_determinant o0 p1 p2 s = some a) : zCn w 2 yX9_determinant cX9_determinant 4 (some .long) [.ref (zb w + o0), .int p1, .int p2] s (zeL a).1 (zeL a).2 :=
  zCn_of (own := RX9) (lv := [some (.ref (zb w + o0)), some (.int p1), some (.int p2), none]) (by decide +kernel) rfl (Nat.le_of_ble_eq_true rfl) rfl (fun x hr => by
    unfold m_X9_determinant
    refine zj_iconst dX9_determinant_0 zic_0 ?_
    refine zj_istore_n (lv' := [some (.ref (zb w + o0)), some (.int p1), some (.int p2), some (.int 0)]) dX9_determinant_1 rfl (by decide) rfl rfl ?_
    refine jl_X9_determinant_2 hr h_o0 (fun s_2 => ?_) zFuel _ _
    refine zj_iload_n dX9_determinant_44 rfl ?_
    refine zj_iconst dX9_determinant_45 zic_2 ?_
    refine zj_icmp_ne (tgt := 58) dX9_determinant_46 (by decide) ?_ ?_
    · refine zj_aload_n dX9_determinant_49 rfl ?_
      refine zj_iconst dX9_determinant_50 zic_0 ?_
      refine zj_iconst dX9_determinant_51 zic_1 ?_
      refine zj_iconst dX9_determinant_52 zic_0 ?_
      refine zj_iconst dX9_determinant_53 zic_1 ?_
      refine zj_cVL4 ml_X9_354 (fun a h => c_X9_two h_o0 h) h_o0 rfl (Nat.le_of_ble_eq_true rfl) (Nat.le_of_ble_eq_true rfl) dX9_determinant_54 (fun r4 s3 => ?_)
      exact zj_lret hr dX9_determinant_57
    · refine zj_iload_n dX9_determinant_58 rfl ?_
      refine zj_iconst dX9_determinant_59 zic_3 ?_
      refine zj_icmp_ne (tgt := 74) dX9_determinant_60 (by decide) ?_ ?_
      · refine zj_aload_n dX9_determinant_63 rfl ?_
        refine zj_iconst dX9_determinant_64 zic_0 ?_
        refine zj_iconst dX9_determinant_65 zic_1 ?_
        refine zj_iconst dX9_determinant_66 zic_2 ?_
        refine zj_iconst dX9_determinant_67 zic_0 ?_
        refine zj_iconst dX9_determinant_68 zic_1 ?_
        refine zj_iconst dX9_determinant_69 zic_2 ?_
        refine zj_cVL6 ml_X9_358 (fun a h => c_X9_three h_o0 h) h_o0 rfl (Nat.le_of_ble_eq_true rfl) (Nat.le_of_ble_eq_true rfl) dX9_determinant_70 (fun r6 s5 => ?_)
        exact zj_lret hr dX9_determinant_73
      · refine zj_aload_n dX9_determinant_74 rfl ?_
        refine zj_getT dX9_determinant_75 fl_X9_61 rfl h_o0 ?_
        refine zj_iconst dX9_determinant_78 zic_0 ?_
        refine zj_lald dX9_determinant_79 (zt_9_34 _ h_o0) ?_
        refine zj_aload_n dX9_determinant_80 rfl ?_
        refine zj_iconst dX9_determinant_81 zic_1 ?_
        refine zj_iconst dX9_determinant_82 zic_2 ?_
        refine zj_iconst dX9_determinant_83 zic_3 ?_
        refine zj_iconst dX9_determinant_84 zic_1 ?_
        refine zj_iconst dX9_determinant_85 zic_2 ?_
        refine zj_iconst dX9_determinant_86 zic_3 ?_
        refine zj_cVL6 ml_X9_358 (fun a h => c_X9_three h_o0 h) h_o0 rfl (Nat.le_of_ble_eq_true rfl) (Nat.le_of_ble_eq_true rfl) dX9_determinant_87 (fun r8 s7 => ?_)
        refine zj_lmul dX9_determinant_90 ?_
        refine zj_aload_n dX9_determinant_91 rfl ?_
        refine zj_getT dX9_determinant_92 fl_X9_61 rfl h_o0 ?_
        refine zj_iconst dX9_determinant_95 zic_1 ?_
        refine zj_lald dX9_determinant_96 (zt_9_34 _ h_o0) ?_
        refine zj_aload_n dX9_determinant_97 rfl ?_
        refine zj_iconst dX9_determinant_98 zic_1 ?_
        refine zj_iconst dX9_determinant_99 zic_2 ?_
        refine zj_iconst dX9_determinant_100 zic_3 ?_
        refine zj_iconst dX9_determinant_101 zic_0 ?_
        refine zj_iconst dX9_determinant_102 zic_2 ?_
        refine zj_iconst dX9_determinant_103 zic_3 ?_
        refine zj_cVL6 ml_X9_358 (fun a h => c_X9_three h_o0 h) h_o0 rfl (Nat.le_of_ble_eq_true rfl) (Nat.le_of_ble_eq_true rfl) dX9_determinant_104 (fun r10 s9 => ?_)
        refine zj_lmul dX9_determinant_107 ?_
        refine zj_lsub dX9_determinant_108 ?_
        refine zj_aload_n dX9_determinant_109 rfl ?_
        refine zj_getT dX9_determinant_110 fl_X9_61 rfl h_o0 ?_
        refine zj_iconst dX9_determinant_113 zic_2 ?_
        refine zj_lald dX9_determinant_114 (zt_9_34 _ h_o0) ?_
        refine zj_aload_n dX9_determinant_115 rfl ?_
        refine zj_iconst dX9_determinant_116 zic_1 ?_
        refine zj_iconst dX9_determinant_117 zic_2 ?_
        refine zj_iconst dX9_determinant_118 zic_3 ?_
        refine zj_iconst dX9_determinant_119 zic_0 ?_
        refine zj_iconst dX9_determinant_120 zic_1 ?_
        refine zj_iconst dX9_determinant_121 zic_3 ?_
        refine zj_cVL6 ml_X9_358 (fun a h => c_X9_three h_o0 h) h_o0 rfl (Nat.le_of_ble_eq_true rfl) (Nat.le_of_ble_eq_true rfl) dX9_determinant_122 (fun r12 s11 => ?_)
        refine zj_lmul dX9_determinant_125 ?_
        refine zj_ladd dX9_determinant_126 ?_
        refine zj_aload_n dX9_determinant_127 rfl ?_
        refine zj_getT dX9_determinant_128 fl_X9_61 rfl h_o0 ?_
        refine zj_iconst dX9_determinant_131 zic_3 ?_
        refine zj_lald dX9_determinant_132 (zt_9_34 _ h_o0) ?_
        refine zj_aload_n dX9_determinant_133 rfl ?_
        refine zj_iconst dX9_determinant_134 zic_1 ?_
        refine zj_iconst dX9_determinant_135 zic_2 ?_
        refine zj_iconst dX9_determinant_136 zic_3 ?_
        refine zj_iconst dX9_determinant_137 zic_0 ?_
        refine zj_iconst dX9_determinant_138 zic_1 ?_
        refine zj_iconst dX9_determinant_139 zic_2 ?_
        refine zj_cVL6 ml_X9_358 (fun a h => c_X9_three h_o0 h) h_o0 rfl (Nat.le_of_ble_eq_true rfl) (Nat.le_of_ble_eq_true rfl) dX9_determinant_140 (fun r14 s13 => ?_)
        refine zj_lmul dX9_determinant_143 ?_
        refine zj_lsub dX9_determinant_144 ?_
        exact zj_lret hr dX9_determinant_145) hm
def m_X9_seekFit_98 (o0 : Nat) (p1 : Int32) (p2 : Int32) (rec45 : Int32 → Int32 → Int32 → zSt → Option (zSt)) (k106 : Int32 → Int32 → zSt → Option (zSt)) (l3 : Int32) (l4 : Int32) (l5 : Int32) (t0 : Nat) (t1 : Int32) (t2 : Int64) (t3 : Int64) (s : zSt) : Option (zSt) :=
  (if t1 < 0 ∨ zN t0 ≤ Int32.toNatClampNeg t1 then none else zlt (zsL s t0 (Int32.toNatClampNeg t1) (t2 + t3)) (fun s6 => rec45 l3 l4 (l5 + 1) s6))
set_option maxRecDepth 100000 in
theorem j_X9_seekFit_98 {o0 : Nat} {p1 : Int32} {p2 : Int32} {rec45 : Int32 → Int32 → Int32 → zSt → Option (zSt)} {k106 : Int32 → Int32 → zSt → Option (zSt)} {l3 : Int32} {l4 : Int32} {l5 : Int32} {t0 : Nat} {t1 : Int32} {t2 : Int64} {t3 : Int64} {s : zSt} {w : zWC} {x : zCX} (hr : zrt x = none)  (h_o0 : zC o0 = 9) (h_rec45 : ∀ (l3 : Int32) (l4 : Int32) (l5 : Int32) (s : zSt), zJ (zQf w x zeV) w x RX9 cX9_seekFit 6 3 (rec45 l3 l4 l5 s) 45 [some (.ref (zb w + o0)), some (.int p1), some (.int p2), some (.int l3), some (.int l4), some (.int l5)] [] s) (h_k106 : ∀ (l3 : Int32) (l4 : Int32) (s : zSt), zJ (zQf w x zeV) w x RX9 cX9_seekFit 6 3 (k106 l3 l4 s) 106 [some (.ref (zb w + o0)), some (.int p1), some (.int p2), some (.int l3), some (.int l4), none] [] s) (ht0 : zC t0 = 12) : zJ (zQf w x zeV) w x RX9 cX9_seekFit 6 3 (m_X9_seekFit_98 o0 p1 p2 rec45 k106 l3 l4 l5 t0 t1 t2 t3 s) 98 [some (.ref (zb w + o0)), some (.int p1), some (.int p2), some (.int l3), some (.int l4), some (.int l5)] [.long t3, .long t2, .int t1, .ref (zb w + t0)] s := by
  unfold m_X9_seekFit_98
  refine zj_ladd dX9_seekFit_98 ?_
  refine zj_last dX9_seekFit_99 ht0 (fun s6 => ?_)
  refine zj_iinc (v2 := l5 + 1) (lv' := [some (.ref (zb w + o0)), some (.int p1), some (.int p2), some (.int l3), some (.int l4), some (.int (l5 + 1))]) dX9_seekFit_100 rfl (by rw [zic_1]) (by decide) rfl rfl ?_
  refine zj_goto (tgt := 45) dX9_seekFit_103 (by decide) ?_
  exact h_rec45 _ _ _ _
def bd_X9_seekFit_45 (o0 : Nat) (p1 : Int32) (p2 : Int32) (rec45 : Int32 → Int32 → Int32 → zSt → Option (zSt)) (k106 : Int32 → Int32 → zSt → Option (zSt)) (l3 : Int32) (l4 : Int32) (l5 : Int32) (s : zSt) : Option (zSt) :=
  (if l5 < zI s o0 30 then
  (if ((4 : Int32) * l4) + l3 < 0 ∨ zN (zT o0 32) ≤ Int32.toNatClampNeg (((4 : Int32) * l4) + l3) then none else zcl (m_X9_counts o0 l5 p2 s) (fun r5 s4 => (if r5 = 0 then
    m_X9_seekFit_98 o0 p1 p2 rec45 k106 l3 l4 l5 (zT o0 32) (((4 : Int32) * l4) + l3) (zL s (zT o0 32) (Int32.toNatClampNeg (((4 : Int32) * l4) + l3))) 0 s4
    else
    zcl (m_X9_goes o0 l5 l4 s4) (fun r8 s7 => zcl (m_X9_goes o0 l5 l3 s7) (fun r10 s9 => m_X9_seekFit_98 o0 p1 p2 rec45 k106 l3 l4 l5 (zT o0 32) (((4 : Int32) * l4) + l3) (zL s (zT o0 32) (Int32.toNatClampNeg (((4 : Int32) * l4) + l3))) (r8.toInt64 * r10.toInt64) s9)))))
  else
  k106 l3 l4 s)
def lp_X9_seekFit_45 (o0 : Nat) (p1 : Int32) (p2 : Int32) (k106 : Int32 → Int32 → zSt → Option (zSt)) : Nat → Int32 → Int32 → Int32 → zSt → Option (zSt)
  | 0, _, _, _, _ => none
  | n + 1, l3, l4, l5, s => bd_X9_seekFit_45 o0 p1 p2 (fun l3 l4 l5 s => lp_X9_seekFit_45 o0 p1 p2 k106 n l3 l4 l5 s) k106 l3 l4 l5 s
set_option maxRecDepth 100000 in
theorem jb_X9_seekFit_45 {o0 : Nat} {p1 : Int32} {p2 : Int32} {rec45 : Int32 → Int32 → Int32 → zSt → Option (zSt)} {k106 : Int32 → Int32 → zSt → Option (zSt)} {l3 : Int32} {l4 : Int32} {l5 : Int32} {s : zSt} {w : zWC} {x : zCX} (hr : zrt x = none)  (h_o0 : zC o0 = 9) (h_rec45 : ∀ (l3 : Int32) (l4 : Int32) (l5 : Int32) (s : zSt), zJ (zQf w x zeV) w x RX9 cX9_seekFit 6 3 (rec45 l3 l4 l5 s) 45 [some (.ref (zb w + o0)), some (.int p1), some (.int p2), some (.int l3), some (.int l4), some (.int l5)] [] s) (h_k106 : ∀ (l3 : Int32) (l4 : Int32) (s : zSt), zJ (zQf w x zeV) w x RX9 cX9_seekFit 6 3 (k106 l3 l4 s) 106 [some (.ref (zb w + o0)), some (.int p1), some (.int p2), some (.int l3), some (.int l4), none] [] s) : zJ (zQf w x zeV) w x RX9 cX9_seekFit 6 3 (bd_X9_seekFit_45 o0 p1 p2 rec45 k106 l3 l4 l5 s) 45 [some (.ref (zb w + o0)), some (.int p1), some (.int p2), some (.int l3), some (.int l4), some (.int l5)] [] s := by
  unfold bd_X9_seekFit_45
  refine zj_iload dX9_seekFit_45 rfl ?_
  refine zj_aload_n dX9_seekFit_47 rfl ?_
  refine zj_getI dX9_seekFit_48 fl_X9_347 rfl h_o0 ?_
  refine zj_icmp_ge (tgt := 106) dX9_seekFit_51 (by decide) ?_ ?_
  · refine zj_aload_n dX9_seekFit_54 rfl ?_
    refine zj_getT dX9_seekFit_55 fl_X9_55 rfl h_o0 ?_
    refine zj_iconst dX9_seekFit_58 zic_4 ?_
    refine zj_iload dX9_seekFit_59 rfl ?_
    refine zj_imul dX9_seekFit_61 ?_
    refine zj_iload_n dX9_seekFit_62 rfl ?_
    refine zj_iadd dX9_seekFit_63 ?_
    refine zj_dup2 dX9_seekFit_64 rfl rfl ?_
    refine zj_lald dX9_seekFit_65 (zt_9_32 _ h_o0) ?_
    refine zj_aload_n dX9_seekFit_66 rfl ?_
    refine zj_iload dX9_seekFit_67 rfl ?_
    refine zj_iload_n dX9_seekFit_69 rfl ?_
    refine zj_cVI2 ml_X9_362 (fun a h => c_X9_counts h_o0 h) h_o0 rfl (Nat.le_of_ble_eq_true rfl) (Nat.le_of_ble_eq_true rfl) dX9_seekFit_70 (fun r5 s4 => ?_)
    refine zj_if_eq (tgt := 97) dX9_seekFit_73 (by decide) ?_ ?_
    · refine zj_lconst (v := 0) dX9_seekFit_97 rfl ?_
      exact j_X9_seekFit_98 hr h_o0 h_rec45 h_k106 (zt_9_32 _ h_o0)
    · refine zj_aload_n dX9_seekFit_76 rfl ?_
      refine zj_iload dX9_seekFit_77 rfl ?_
      refine zj_iload dX9_seekFit_79 rfl ?_
      refine zj_cVI2 ml_X9_366 (fun a h => c_X9_goes h_o0 h) h_o0 rfl (Nat.le_of_ble_eq_true rfl) (Nat.le_of_ble_eq_true rfl) dX9_seekFit_81 (fun r8 s7 => ?_)
      refine zj_i2l dX9_seekFit_84 ?_
      refine zj_aload_n dX9_seekFit_85 rfl ?_
      refine zj_iload dX9_seekFit_86 rfl ?_
      refine zj_iload_n dX9_seekFit_88 rfl ?_
      refine zj_cVI2 ml_X9_366 (fun a h => c_X9_goes h_o0 h) h_o0 rfl (Nat.le_of_ble_eq_true rfl) (Nat.le_of_ble_eq_true rfl) dX9_seekFit_89 (fun r10 s9 => ?_)
      refine zj_i2l dX9_seekFit_92 ?_
      refine zj_lmul dX9_seekFit_93 ?_
      refine zj_goto (tgt := 98) dX9_seekFit_94 (by decide) ?_
      exact j_X9_seekFit_98 hr h_o0 h_rec45 h_k106 (zt_9_32 _ h_o0)
  · refine zj_weak [true, true, true, true, true, false] rfl ?_
    exact h_k106 _ _ _
set_option maxRecDepth 100000 in
theorem jl_X9_seekFit_45 {o0 : Nat} {p1 : Int32} {p2 : Int32} {k106 : Int32 → Int32 → zSt → Option (zSt)} {w : zWC} {x : zCX} (hr : zrt x = none)  (h_o0 : zC o0 = 9) (h_k106 : ∀ (l3 : Int32) (l4 : Int32) (s : zSt), zJ (zQf w x zeV) w x RX9 cX9_seekFit 6 3 (k106 l3 l4 s) 106 [some (.ref (zb w + o0)), some (.int p1), some (.int p2), some (.int l3), some (.int l4), none] [] s) : ∀ (n : Nat) (l3 : Int32) (l4 : Int32) (l5 : Int32) (s : zSt), zJ (zQf w x zeV) w x RX9 cX9_seekFit 6 3 (lp_X9_seekFit_45 o0 p1 p2 k106 n l3 l4 l5 s) 45 [some (.ref (zb w + o0)), some (.int p1), some (.int p2), some (.int l3), some (.int l4), some (.int l5)] [] s := by
  intro n
  induction n with
  | zero => intro l3 l4 l5 s; exact zj_none
  | succ n ih => intro l3 l4 l5 s; exact jb_X9_seekFit_45 hr h_o0 (fun l3 l4 l5 s => ih l3 l4 l5 s) h_k106
def bd_X9_seekFit_24 (o0 : Nat) (p1 : Int32) (p2 : Int32) (rec24 : Int32 → Int32 → zSt → Option (zSt)) (k112 : Int32 → zSt → Option (zSt)) (l3 : Int32) (l4 : Int32) (s : zSt) : Option (zSt) :=
  (if l4 < 4 then
  (if ((4 : Int32) * l4) + l3 < 0 ∨ zN (zT o0 32) ≤ Int32.toNatClampNeg (((4 : Int32) * l4) + l3) then none else zlt (zsL s (zT o0 32) (Int32.toNatClampNeg (((4 : Int32) * l4) + l3)) 0) (fun s3 => lp_X9_seekFit_45 o0 p1 p2 (fun l3_11 l4_11 s_11 => rec24 l3_11 (l4_11 + 1) s_11) zFuel l3 l4 0 s3))
  else
  k112 l3 s)
def lp_X9_seekFit_24 (o0 : Nat) (p1 : Int32) (p2 : Int32) (k112 : Int32 → zSt → Option (zSt)) : Nat → Int32 → Int32 → zSt → Option (zSt)
  | 0, _, _, _ => none
  | n + 1, l3, l4, s => bd_X9_seekFit_24 o0 p1 p2 (fun l3 l4 s => lp_X9_seekFit_24 o0 p1 p2 k112 n l3 l4 s) k112 l3 l4 s
set_option maxRecDepth 100000 in
theorem jb_X9_seekFit_24 {o0 : Nat} {p1 : Int32} {p2 : Int32} {rec24 : Int32 → Int32 → zSt → Option (zSt)} {k112 : Int32 → zSt → Option (zSt)} {l3 : Int32} {l4 : Int32} {s : zSt} {w : zWC} {x : zCX} (hr : zrt x = none)  (h_o0 : zC o0 = 9) (h_rec24 : ∀ (l3 : Int32) (l4 : Int32) (s : zSt), zJ (zQf w x zeV) w x RX9 cX9_seekFit 6 3 (rec24 l3 l4 s) 24 [some (.ref (zb w + o0)), some (.int p1), some (.int p2), some (.int l3), some (.int l4), none] [] s) (h_k112 : ∀ (l3 : Int32) (s : zSt), zJ (zQf w x zeV) w x RX9 cX9_seekFit 6 3 (k112 l3 s) 112 [some (.ref (zb w + o0)), some (.int p1), some (.int p2), some (.int l3), none, none] [] s) : zJ (zQf w x zeV) w x RX9 cX9_seekFit 6 3 (bd_X9_seekFit_24 o0 p1 p2 rec24 k112 l3 l4 s) 24 [some (.ref (zb w + o0)), some (.int p1), some (.int p2), some (.int l3), some (.int l4), none] [] s := by
  unfold bd_X9_seekFit_24
  refine zj_iload dX9_seekFit_24 rfl ?_
  refine zj_iconst dX9_seekFit_26 zic_4 ?_
  refine zj_icmp_ge (tgt := 112) dX9_seekFit_27 (by decide) ?_ ?_
  · refine zj_aload_n dX9_seekFit_30 rfl ?_
    refine zj_getT dX9_seekFit_31 fl_X9_55 rfl h_o0 ?_
    refine zj_iconst dX9_seekFit_34 zic_4 ?_
    refine zj_iload dX9_seekFit_35 rfl ?_
    refine zj_imul dX9_seekFit_37 ?_
    refine zj_iload_n dX9_seekFit_38 rfl ?_
    refine zj_iadd dX9_seekFit_39 ?_
    refine zj_lconst (v := 0) dX9_seekFit_40 rfl ?_
    refine zj_last dX9_seekFit_41 (zt_9_32 _ h_o0) (fun s3 => ?_)
    refine zj_iconst dX9_seekFit_42 zic_0 ?_
    refine zj_istore (lv' := [some (.ref (zb w + o0)), some (.int p1), some (.int p2), some (.int l3), some (.int l4), some (.int 0)]) dX9_seekFit_43 (by decide) rfl rfl ?_
    refine jl_X9_seekFit_45 hr h_o0 (fun l3_11 l4_11 s_11 => ?_) zFuel _ _ _ _
    refine zj_iinc (v2 := l4_11 + 1) (lv' := [some (.ref (zb w + o0)), some (.int p1), some (.int p2), some (.int l3_11), some (.int (l4_11 + 1)), none]) dX9_seekFit_106 rfl (by rw [zic_1]) (by decide) rfl rfl ?_
    refine zj_goto (tgt := 24) dX9_seekFit_109 (by decide) ?_
    exact h_rec24 _ _ _
  · refine zj_weak [true, true, true, true, false, false] rfl ?_
    exact h_k112 _ _
set_option maxRecDepth 100000 in
theorem jl_X9_seekFit_24 {o0 : Nat} {p1 : Int32} {p2 : Int32} {k112 : Int32 → zSt → Option (zSt)} {w : zWC} {x : zCX} (hr : zrt x = none)  (h_o0 : zC o0 = 9) (h_k112 : ∀ (l3 : Int32) (s : zSt), zJ (zQf w x zeV) w x RX9 cX9_seekFit 6 3 (k112 l3 s) 112 [some (.ref (zb w + o0)), some (.int p1), some (.int p2), some (.int l3), none, none] [] s) : ∀ (n : Nat) (l3 : Int32) (l4 : Int32) (s : zSt), zJ (zQf w x zeV) w x RX9 cX9_seekFit 6 3 (lp_X9_seekFit_24 o0 p1 p2 k112 n l3 l4 s) 24 [some (.ref (zb w + o0)), some (.int p1), some (.int p2), some (.int l3), some (.int l4), none] [] s := by
  intro n
  induction n with
  | zero => intro l3 l4 s; exact zj_none
  | succ n ih => intro l3 l4 s; exact jb_X9_seekFit_24 hr h_o0 (fun l3 l4 s => ih l3 l4 s) h_k112
def m_X9_seekFit_162 (o0 : Nat) (p1 : Int32) (p2 : Int32) (rec115 : Int32 → Int32 → zSt → Option (zSt)) (k170 : Int32 → zSt → Option (zSt)) (l3 : Int32) (l4 : Int32) (t0 : Nat) (t1 : Int32) (t2 : Int64) (t3 : Int64) (s : zSt) : Option (zSt) :=
  (if t1 < 0 ∨ zN t0 ≤ Int32.toNatClampNeg t1 then none else zlt (zsL s t0 (Int32.toNatClampNeg t1) (t2 + t3)) (fun s15 => rec115 l3 (l4 + 1) s15))
set_option maxRecDepth 100000 in
theorem j_X9_seekFit_162 {o0 : Nat} {p1 : Int32} {p2 : Int32} {rec115 : Int32 → Int32 → zSt → Option (zSt)} {k170 : Int32 → zSt → Option (zSt)} {l3 : Int32} {l4 : Int32} {t0 : Nat} {t1 : Int32} {t2 : Int64} {t3 : Int64} {s : zSt} {w : zWC} {x : zCX} (hr : zrt x = none)  (h_o0 : zC o0 = 9) (h_rec115 : ∀ (l3 : Int32) (l4 : Int32) (s : zSt), zJ (zQf w x zeV) w x RX9 cX9_seekFit 6 3 (rec115 l3 l4 s) 115 [some (.ref (zb w + o0)), some (.int p1), some (.int p2), some (.int l3), some (.int l4), none] [] s) (h_k170 : ∀ (l3 : Int32) (s : zSt), zJ (zQf w x zeV) w x RX9 cX9_seekFit 6 3 (k170 l3 s) 170 [some (.ref (zb w + o0)), some (.int p1), some (.int p2), some (.int l3), none, none] [] s) (ht0 : zC t0 = 12) : zJ (zQf w x zeV) w x RX9 cX9_seekFit 6 3 (m_X9_seekFit_162 o0 p1 p2 rec115 k170 l3 l4 t0 t1 t2 t3 s) 162 [some (.ref (zb w + o0)), some (.int p1), some (.int p2), some (.int l3), some (.int l4), none] [.long t3, .long t2, .int t1, .ref (zb w + t0)] s := by
  unfold m_X9_seekFit_162
  refine zj_ladd dX9_seekFit_162 ?_
  refine zj_last dX9_seekFit_163 ht0 (fun s15 => ?_)
  refine zj_iinc (v2 := l4 + 1) (lv' := [some (.ref (zb w + o0)), some (.int p1), some (.int p2), some (.int l3), some (.int (l4 + 1)), none]) dX9_seekFit_164 rfl (by rw [zic_1]) (by decide) rfl rfl ?_
  refine zj_goto (tgt := 115) dX9_seekFit_167 (by decide) ?_
  exact h_rec115 _ _ _
def bd_X9_seekFit_115 (o0 : Nat) (p1 : Int32) (p2 : Int32) (rec115 : Int32 → Int32 → zSt → Option (zSt)) (k170 : Int32 → zSt → Option (zSt)) (l3 : Int32) (l4 : Int32) (s : zSt) : Option (zSt) :=
  (if l4 < zI s o0 30 then
  (if l3 < 0 ∨ zN (zT o0 33) ≤ Int32.toNatClampNeg l3 then none else zcl (m_X9_counts o0 l4 p2 s) (fun r14 s13 => (if r14 = 0 then
    m_X9_seekFit_162 o0 p1 p2 rec115 k170 l3 l4 (zT o0 33) l3 (zL s (zT o0 33) (Int32.toNatClampNeg l3)) 0 s13
    else
    zcl (m_X9_goes o0 l4 l3 s13) (fun r17 s16 => (if l4 < 0 ∨ zN (zT o0 27) ≤ Int32.toNatClampNeg l4 then none else m_X9_seekFit_162 o0 p1 p2 rec115 k170 l3 l4 (zT o0 33) l3 (zL s (zT o0 33) (Int32.toNatClampNeg l3)) (r17.toInt64 * ((zI s16 (zT o0 27) (Int32.toNatClampNeg l4)).toInt64)) s16)))))
  else
  k170 l3 s)
def lp_X9_seekFit_115 (o0 : Nat) (p1 : Int32) (p2 : Int32) (k170 : Int32 → zSt → Option (zSt)) : Nat → Int32 → Int32 → zSt → Option (zSt)
  | 0, _, _, _ => none
  | n + 1, l3, l4, s => bd_X9_seekFit_115 o0 p1 p2 (fun l3 l4 s => lp_X9_seekFit_115 o0 p1 p2 k170 n l3 l4 s) k170 l3 l4 s
set_option maxRecDepth 100000 in
theorem jb_X9_seekFit_115 {o0 : Nat} {p1 : Int32} {p2 : Int32} {rec115 : Int32 → Int32 → zSt → Option (zSt)} {k170 : Int32 → zSt → Option (zSt)} {l3 : Int32} {l4 : Int32} {s : zSt} {w : zWC} {x : zCX} (hr : zrt x = none)  (h_o0 : zC o0 = 9) (h_rec115 : ∀ (l3 : Int32) (l4 : Int32) (s : zSt), zJ (zQf w x zeV) w x RX9 cX9_seekFit 6 3 (rec115 l3 l4 s) 115 [some (.ref (zb w + o0)), some (.int p1), some (.int p2), some (.int l3), some (.int l4), none] [] s) (h_k170 : ∀ (l3 : Int32) (s : zSt), zJ (zQf w x zeV) w x RX9 cX9_seekFit 6 3 (k170 l3 s) 170 [some (.ref (zb w + o0)), some (.int p1), some (.int p2), some (.int l3), none, none] [] s) : zJ (zQf w x zeV) w x RX9 cX9_seekFit 6 3 (bd_X9_seekFit_115 o0 p1 p2 rec115 k170 l3 l4 s) 115 [some (.ref (zb w + o0)), some (.int p1), some (.int p2), some (.int l3), some (.int l4), none] [] s := by
  unfold bd_X9_seekFit_115
  refine zj_iload dX9_seekFit_115 rfl ?_
  refine zj_aload_n dX9_seekFit_117 rfl ?_
  refine zj_getI dX9_seekFit_118 fl_X9_347 rfl h_o0 ?_
  refine zj_icmp_ge (tgt := 170) dX9_seekFit_121 (by decide) ?_ ?_
  · refine zj_aload_n dX9_seekFit_124 rfl ?_
    refine zj_getT dX9_seekFit_125 fl_X9_58 rfl h_o0 ?_
    refine zj_iload_n dX9_seekFit_128 rfl ?_
    refine zj_dup2 dX9_seekFit_129 rfl rfl ?_
    refine zj_lald dX9_seekFit_130 (zt_9_33 _ h_o0) ?_
    refine zj_aload_n dX9_seekFit_131 rfl ?_
    refine zj_iload dX9_seekFit_132 rfl ?_
    refine zj_iload_n dX9_seekFit_134 rfl ?_
    refine zj_cVI2 ml_X9_362 (fun a h => c_X9_counts h_o0 h) h_o0 rfl (Nat.le_of_ble_eq_true rfl) (Nat.le_of_ble_eq_true rfl) dX9_seekFit_135 (fun r14 s13 => ?_)
    refine zj_if_eq (tgt := 161) dX9_seekFit_138 (by decide) ?_ ?_
    · refine zj_lconst (v := 0) dX9_seekFit_161 rfl ?_
      exact j_X9_seekFit_162 hr h_o0 h_rec115 h_k170 (zt_9_33 _ h_o0)
    · refine zj_aload_n dX9_seekFit_141 rfl ?_
      refine zj_iload dX9_seekFit_142 rfl ?_
      refine zj_iload_n dX9_seekFit_144 rfl ?_
      refine zj_cVI2 ml_X9_366 (fun a h => c_X9_goes h_o0 h) h_o0 rfl (Nat.le_of_ble_eq_true rfl) (Nat.le_of_ble_eq_true rfl) dX9_seekFit_145 (fun r17 s16 => ?_)
      refine zj_i2l dX9_seekFit_148 ?_
      refine zj_aload_n dX9_seekFit_149 rfl ?_
      refine zj_getT dX9_seekFit_150 fl_X9_46 rfl h_o0 ?_
      refine zj_iload dX9_seekFit_153 rfl ?_
      refine zj_iald dX9_seekFit_155 (zt_9_27 _ h_o0) ?_
      refine zj_i2l dX9_seekFit_156 ?_
      refine zj_lmul dX9_seekFit_157 ?_
      refine zj_goto (tgt := 162) dX9_seekFit_158 (by decide) ?_
      exact j_X9_seekFit_162 hr h_o0 h_rec115 h_k170 (zt_9_33 _ h_o0)
  · refine zj_weak [true, true, true, true, false, false] rfl ?_
    exact h_k170 _ _
set_option maxRecDepth 100000 in
theorem jl_X9_seekFit_115 {o0 : Nat} {p1 : Int32} {p2 : Int32} {k170 : Int32 → zSt → Option (zSt)} {w : zWC} {x : zCX} (hr : zrt x = none)  (h_o0 : zC o0 = 9) (h_k170 : ∀ (l3 : Int32) (s : zSt), zJ (zQf w x zeV) w x RX9 cX9_seekFit 6 3 (k170 l3 s) 170 [some (.ref (zb w + o0)), some (.int p1), some (.int p2), some (.int l3), none, none] [] s) : ∀ (n : Nat) (l3 : Int32) (l4 : Int32) (s : zSt), zJ (zQf w x zeV) w x RX9 cX9_seekFit 6 3 (lp_X9_seekFit_115 o0 p1 p2 k170 n l3 l4 s) 115 [some (.ref (zb w + o0)), some (.int p1), some (.int p2), some (.int l3), some (.int l4), none] [] s := by
  intro n
  induction n with
  | zero => intro l3 l4 s; exact zj_none
  | succ n ih => intro l3 l4 s; exact jb_X9_seekFit_115 hr h_o0 (fun l3 l4 s => ih l3 l4 s) h_k170
def bd_X9_seekFit_2 (o0 : Nat) (p1 : Int32) (p2 : Int32) (rec2 : Int32 → zSt → Option (zSt)) (k176 : zSt → Option (zSt)) (l3 : Int32) (s : zSt) : Option (zSt) :=
  (if l3 < 4 then
  (if l3 < 0 ∨ zN (zT o0 33) ≤ Int32.toNatClampNeg l3 then none else zlt (zsL s (zT o0 33) (Int32.toNatClampNeg l3) 0) (fun s1 => (if l3 < 0 ∨ zN (zT o0 35) ≤ Int32.toNatClampNeg l3 then none else zlt (zsL s1 (zT o0 35) (Int32.toNatClampNeg l3) 0) (fun s2 => lp_X9_seekFit_24 o0 p1 p2 (fun l3_12 s_12 => lp_X9_seekFit_115 o0 p1 p2 (fun l3_18 s_18 => rec2 (l3_18 + 1) s_18) zFuel l3_12 0 s_12) zFuel l3 0 s2))))
  else
  k176  s)
def lp_X9_seekFit_2 (o0 : Nat) (p1 : Int32) (p2 : Int32) (k176 : zSt → Option (zSt)) : Nat → Int32 → zSt → Option (zSt)
  | 0, _, _ => none
  | n + 1, l3, s => bd_X9_seekFit_2 o0 p1 p2 (fun l3 s => lp_X9_seekFit_2 o0 p1 p2 k176 n l3 s) k176 l3 s
set_option maxRecDepth 100000 in
theorem jb_X9_seekFit_2 {o0 : Nat} {p1 : Int32} {p2 : Int32} {rec2 : Int32 → zSt → Option (zSt)} {k176 : zSt → Option (zSt)} {l3 : Int32} {s : zSt} {w : zWC} {x : zCX} (hr : zrt x = none)  (h_o0 : zC o0 = 9) (h_rec2 : ∀ (l3 : Int32) (s : zSt), zJ (zQf w x zeV) w x RX9 cX9_seekFit 6 3 (rec2 l3 s) 2 [some (.ref (zb w + o0)), some (.int p1), some (.int p2), some (.int l3), none, none] [] s) (h_k176 : ∀  (s : zSt), zJ (zQf w x zeV) w x RX9 cX9_seekFit 6 3 (k176  s) 176 [some (.ref (zb w + o0)), some (.int p1), none, none, none, none] [] s) : zJ (zQf w x zeV) w x RX9 cX9_seekFit 6 3 (bd_X9_seekFit_2 o0 p1 p2 rec2 k176 l3 s) 2 [some (.ref (zb w + o0)), some (.int p1), some (.int p2), some (.int l3), none, none] [] s := by
  unfold bd_X9_seekFit_2
  refine zj_iload_n dX9_seekFit_2 rfl ?_
  refine zj_iconst dX9_seekFit_3 zic_4 ?_
  refine zj_icmp_ge (tgt := 176) dX9_seekFit_4 (by decide) ?_ ?_
  · refine zj_aload_n dX9_seekFit_7 rfl ?_
    refine zj_getT dX9_seekFit_8 fl_X9_58 rfl h_o0 ?_
    refine zj_iload_n dX9_seekFit_11 rfl ?_
    refine zj_lconst (v := 0) dX9_seekFit_12 rfl ?_
    refine zj_last dX9_seekFit_13 (zt_9_33 _ h_o0) (fun s1 => ?_)
    refine zj_aload_n dX9_seekFit_14 rfl ?_
    refine zj_getT dX9_seekFit_15 fl_X9_64 rfl h_o0 ?_
    refine zj_iload_n dX9_seekFit_18 rfl ?_
    refine zj_lconst (v := 0) dX9_seekFit_19 rfl ?_
    refine zj_last dX9_seekFit_20 (zt_9_35 _ h_o0) (fun s2 => ?_)
    refine zj_iconst dX9_seekFit_21 zic_0 ?_
    refine zj_istore (lv' := [some (.ref (zb w + o0)), some (.int p1), some (.int p2), some (.int l3), some (.int 0), none]) dX9_seekFit_22 (by decide) rfl rfl ?_
    refine jl_X9_seekFit_24 hr h_o0 (fun l3_12 s_12 => ?_) zFuel _ _ _
    refine zj_iconst dX9_seekFit_112 zic_0 ?_
    refine zj_istore (lv' := [some (.ref (zb w + o0)), some (.int p1), some (.int p2), some (.int l3_12), some (.int 0), none]) dX9_seekFit_113 (by decide) rfl rfl ?_
    refine jl_X9_seekFit_115 hr h_o0 (fun l3_18 s_18 => ?_) zFuel _ _ _
    refine zj_iinc (v2 := l3_18 + 1) (lv' := [some (.ref (zb w + o0)), some (.int p1), some (.int p2), some (.int (l3_18 + 1)), none, none]) dX9_seekFit_170 rfl (by rw [zic_1]) (by decide) rfl rfl ?_
    refine zj_goto (tgt := 2) dX9_seekFit_173 (by decide) ?_
    exact h_rec2 _ _
  · refine zj_weak [true, true, false, false, false, false] rfl ?_
    exact h_k176 _
set_option maxRecDepth 100000 in
theorem jl_X9_seekFit_2 {o0 : Nat} {p1 : Int32} {p2 : Int32} {k176 : zSt → Option (zSt)} {w : zWC} {x : zCX} (hr : zrt x = none)  (h_o0 : zC o0 = 9) (h_k176 : ∀  (s : zSt), zJ (zQf w x zeV) w x RX9 cX9_seekFit 6 3 (k176  s) 176 [some (.ref (zb w + o0)), some (.int p1), none, none, none, none] [] s) : ∀ (n : Nat) (l3 : Int32) (s : zSt), zJ (zQf w x zeV) w x RX9 cX9_seekFit 6 3 (lp_X9_seekFit_2 o0 p1 p2 k176 n l3 s) 2 [some (.ref (zb w + o0)), some (.int p1), some (.int p2), some (.int l3), none, none] [] s := by
  intro n
  induction n with
  | zero => intro l3 s; exact zj_none
  | succ n ih => intro l3 s; exact jb_X9_seekFit_2 hr h_o0 (fun l3 s => ih l3 s) h_k176
def bd_X9_seekFit_193 (o0 : Nat) (p1 : Int32) (p2 : Int32) (rec193 : Int32 → Int32 → zSt → Option (zSt)) (l3 : Int32) (l4 : Int32) (s : zSt) : Option (zSt) :=
  (if l4 < l3 then
  zcl (m_X9_determinant o0 l3 l4 s) (fun r24 s23 => (if l4 < 0 ∨ zN (zT o0 35) ≤ Int32.toNatClampNeg l4 then none else zlt (zsL s23 (zT o0 35) (Int32.toNatClampNeg l4) r24) (fun s25 => rec193 l3 (l4 + 1) s25)))
  else
  some s)
def lp_X9_seekFit_193 (o0 : Nat) (p1 : Int32) (p2 : Int32) : Nat → Int32 → Int32 → zSt → Option (zSt)
  | 0, _, _, _ => none
  | n + 1, l3, l4, s => bd_X9_seekFit_193 o0 p1 p2 (fun l3 l4 s => lp_X9_seekFit_193 o0 p1 p2 n l3 l4 s) l3 l4 s
set_option maxRecDepth 100000 in
theorem jb_X9_seekFit_193 {o0 : Nat} {p1 : Int32} {p2 : Int32} {rec193 : Int32 → Int32 → zSt → Option (zSt)} {l3 : Int32} {l4 : Int32} {s : zSt} {w : zWC} {x : zCX} (hr : zrt x = none)  (h_o0 : zC o0 = 9) (h_rec193 : ∀ (l3 : Int32) (l4 : Int32) (s : zSt), zJ (zQf w x zeV) w x RX9 cX9_seekFit 6 3 (rec193 l3 l4 s) 193 [some (.ref (zb w + o0)), none, none, some (.int l3), some (.int l4), none] [] s) : zJ (zQf w x zeV) w x RX9 cX9_seekFit 6 3 (bd_X9_seekFit_193 o0 p1 p2 rec193 l3 l4 s) 193 [some (.ref (zb w + o0)), none, none, some (.int l3), some (.int l4), none] [] s := by
  unfold bd_X9_seekFit_193
  refine zj_iload dX9_seekFit_193 rfl ?_
  refine zj_iload_n dX9_seekFit_195 rfl ?_
  refine zj_icmp_ge (tgt := 219) dX9_seekFit_196 (by decide) ?_ ?_
  · refine zj_aload_n dX9_seekFit_199 rfl ?_
    refine zj_getT dX9_seekFit_200 fl_X9_64 rfl h_o0 ?_
    refine zj_iload dX9_seekFit_203 rfl ?_
    refine zj_aload_n dX9_seekFit_205 rfl ?_
    refine zj_iload_n dX9_seekFit_206 rfl ?_
    refine zj_iload dX9_seekFit_207 rfl ?_
    refine zj_cVL2 ml_X9_369 (fun a h => c_X9_determinant h_o0 h) h_o0 rfl (Nat.le_of_ble_eq_true rfl) (Nat.le_of_ble_eq_true rfl) dX9_seekFit_209 (fun r24 s23 => ?_)
    refine zj_last dX9_seekFit_212 (zt_9_35 _ h_o0) (fun s25 => ?_)
    refine zj_iinc (v2 := l4 + 1) (lv' := [some (.ref (zb w + o0)), none, none, some (.int l3), some (.int (l4 + 1)), none]) dX9_seekFit_213 rfl (by rw [zic_1]) (by decide) rfl rfl ?_
    refine zj_goto (tgt := 193) dX9_seekFit_216 (by decide) ?_
    exact h_rec193 _ _ _
  · exact zj_vret hr dX9_seekFit_219
set_option maxRecDepth 100000 in
theorem jl_X9_seekFit_193 {o0 : Nat} {p1 : Int32} {p2 : Int32} {w : zWC} {x : zCX} (hr : zrt x = none)  (h_o0 : zC o0 = 9) : ∀ (n : Nat) (l3 : Int32) (l4 : Int32) (s : zSt), zJ (zQf w x zeV) w x RX9 cX9_seekFit 6 3 (lp_X9_seekFit_193 o0 p1 p2 n l3 l4 s) 193 [some (.ref (zb w + o0)), none, none, some (.int l3), some (.int l4), none] [] s := by
  intro n
  induction n with
  | zero => intro l3 l4 s; exact zj_none
  | succ n ih => intro l3 l4 s; exact jb_X9_seekFit_193 hr h_o0 (fun l3 l4 s => ih l3 l4 s)
def m_X9_seekFit (o0 : Nat) (p1 : Int32) (p2 : Int32) (s : zSt) : Option (zSt) :=
  lp_X9_seekFit_2 o0 p1 p2 (fun s_19 => zcl (m_X9_determinant o0 (p1 + 2) (-1) s_19) (fun r21 s20 => zlt (zsL s20 o0 36 r21) (fun s22 => lp_X9_seekFit_193 o0 p1 p2 zFuel (p1 + 2) 0 s22))) zFuel 0 s
set_option maxRecDepth 100000 in
theorem c_X9_seekFit {w : zWC} {o0 : Nat} {p1 : Int32} {p2 : Int32} {s : zSt} (h_o0 : zC o0 = 9) {a : zSt} (hm : m_X9_seekFit o0 p1 p2 s = some a) : zCn w 3 yX9_seekFit cX9_seekFit 6 none [.ref (zb w + o0), .int p1, .int p2] s (zeV a).1 (zeV a).2 :=
  zCn_of (own := RX9) (lv := [some (.ref (zb w + o0)), some (.int p1), some (.int p2), none, none, none]) (by decide +kernel) rfl (Nat.le_of_ble_eq_true rfl) rfl (fun x hr => by
    unfold m_X9_seekFit
    refine zj_iconst dX9_seekFit_0 zic_0 ?_
    refine zj_istore_n (lv' := [some (.ref (zb w + o0)), some (.int p1), some (.int p2), some (.int 0), none, none]) dX9_seekFit_1 rfl (by decide) rfl rfl ?_
    refine jl_X9_seekFit_2 hr h_o0 (fun s_19 => ?_) zFuel _ _
    refine zj_iload_n dX9_seekFit_176 rfl ?_
    refine zj_iconst dX9_seekFit_177 zic_2 ?_
    refine zj_iadd dX9_seekFit_178 ?_
    refine zj_istore_n (lv' := [some (.ref (zb w + o0)), some (.int p1), none, some (.int (p1 + 2)), none, none]) dX9_seekFit_179 rfl (by decide) rfl rfl ?_
    refine zj_aload_n dX9_seekFit_180 rfl ?_
    refine zj_aload_n dX9_seekFit_181 rfl ?_
    refine zj_iload_n dX9_seekFit_182 rfl ?_
    refine zj_iconst dX9_seekFit_183 zic_m1 ?_
    refine zj_cVL2 ml_X9_369 (fun a h => c_X9_determinant h_o0 h) h_o0 rfl (Nat.le_of_ble_eq_true rfl) (Nat.le_of_ble_eq_true rfl) dX9_seekFit_184 (fun r21 s20 => ?_)
    refine zj_putL dX9_seekFit_187 fl_X9_373 rfl h_o0 pd_9_36 rfl rfl (fun s22 => ?_)
    refine zj_iconst dX9_seekFit_190 zic_0 ?_
    refine zj_istore (lv' := [some (.ref (zb w + o0)), some (.int p1), none, some (.int (p1 + 2)), some (.int 0), none]) dX9_seekFit_191 (by decide) rfl rfl ?_
    refine zj_weak [true, false, false, true, true, false] rfl ?_
    exact jl_X9_seekFit_193 hr h_o0 zFuel _ _ _) hm
