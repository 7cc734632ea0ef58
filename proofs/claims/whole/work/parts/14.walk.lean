def m_X5_readLine_143 (o0 : Nat) (o1 : Nat) (l2 : Int32) (s : zSt) : Option (Int32 × zSt) :=
  (if l2 = 0 then
  some (0, s)
  else
  zcl (m_X3_take o1 59 s) (fun r17 s16 => (if r17 = 0 then
    some (0, s16)
    else
    some (1, s16))))
set_option maxRecDepth 100000 in
theorem j_X5_readLine_143 {o0 : Nat} {o1 : Nat} {l2 : Int32} {s : zSt} {w : zWC} {x : zCX} (hr : zrt x = (some .boolean))  (h_o0 : zC o0 = 5) (h_o1 : zC o1 = 3) : zJ (zQf w x zeI) w x RX5 cX5_readLine 3 4 (m_X5_readLine_143 o0 o1 l2 s) 143 [none, some (.ref (zb w + o1)), some (.int l2)] [] s := by
  unfold m_X5_readLine_143
  refine zj_iload_n dX5_readLine_143 rfl ?_
  refine zj_if_eq (tgt := 160) dX5_readLine_144 (by decide) ?_ ?_
  · refine zj_iconst dX5_readLine_160 zic_0 ?_
    exact zj_zret hr rfl dX5_readLine_161
  · refine zj_aload_n dX5_readLine_147 rfl ?_
    refine zj_bipush dX5_readLine_148 zbi_59 ?_
    refine zj_cVI1 ml_X5_75 (fun a h => c_X3_take h_o1 h) h_o1 rfl (Nat.le_of_ble_eq_true rfl) (Nat.le_of_ble_eq_true rfl) dX5_readLine_150 (fun r17 s16 => ?_)
    refine zj_if_eq (tgt := 160) dX5_readLine_153 (by decide) ?_ ?_
    · refine zj_iconst dX5_readLine_160 zic_0 ?_
      exact zj_zret hr rfl dX5_readLine_161
    · refine zj_iconst dX5_readLine_156 zic_1 ?_
      refine zj_goto (tgt := 161) dX5_readLine_157 (by decide) ?_
      exact zj_zret hr rfl dX5_readLine_161
def m_X5_readLine_96 (o0 : Nat) (o1 : Nat) (t0 : Int32) (s : zSt) : Option (Int32 × zSt) :=
  m_X5_readLine_143 o0 o1 t0 s
set_option maxRecDepth 100000 in
theorem j_X5_readLine_96 {o0 : Nat} {o1 : Nat} {t0 : Int32} {s : zSt} {w : zWC} {x : zCX} (hr : zrt x = (some .boolean))  (h_o0 : zC o0 = 5) (h_o1 : zC o1 = 3) : zJ (zQf w x zeI) w x RX5 cX5_readLine 3 4 (m_X5_readLine_96 o0 o1 t0 s) 96 [none, some (.ref (zb w + o1)), none] [.int t0] s := by
  unfold m_X5_readLine_96
  refine zj_istore_n (lv' := [none, some (.ref (zb w + o1)), some (.int t0)]) dX5_readLine_96 rfl (by decide) rfl rfl ?_
  refine zj_goto (tgt := 143) dX5_readLine_97 (by decide) ?_
  exact j_X5_readLine_143 hr h_o0 h_o1
def m_X5_readLine_95 (o0 : Nat) (o1 : Nat) (s : zSt) : Option (Int32 × zSt) :=
  m_X5_readLine_96 o0 o1 0 s
set_option maxRecDepth 100000 in
theorem j_X5_readLine_95 {o0 : Nat} {o1 : Nat} {s : zSt} {w : zWC} {x : zCX} (hr : zrt x = (some .boolean))  (h_o0 : zC o0 = 5) (h_o1 : zC o1 = 3) : zJ (zQf w x zeI) w x RX5 cX5_readLine 3 4 (m_X5_readLine_95 o0 o1 s) 95 [none, some (.ref (zb w + o1)), none] [] s := by
  unfold m_X5_readLine_95
  refine zj_iconst dX5_readLine_95 zic_0 ?_
  exact j_X5_readLine_96 hr h_o0 h_o1
def m_X5_readLine (o0 : Nat) (o1 : Nat) (s : zSt) : Option (Int32 × zSt) :=
  (if zI s o1 4 = 256 then
  zcl (m_X5_readSetting o0 o1 256 s) (fun r37 s36 => (if r37 = 0 then
    m_X5_readLine_95 o0 o1 s36
    else
    zcl (m_X5_readNearAndFar o0 o1 s36) (fun r39 s38 => (if r39 = 0 then
      m_X5_readLine_95 o0 o1 s38
      else
      m_X5_readLine_96 o0 o1 1 s38))))
  else
  (if zI s o1 4 = 259 then
    zcl (m_X5_readSetting o0 o1 (zI s o1 4) s) (fun r35 s34 => m_X5_readLine_143 o0 o1 r35 s34)
    else
    (if zI s o1 4 = 260 then
      zcl (m_X5_readSetting o0 o1 (zI s o1 4) s) (fun r33 s32 => m_X5_readLine_143 o0 o1 r33 s32)
      else
      (if zI s o1 4 = 261 then
        zcl (m_X5_readSetting o0 o1 (zI s o1 4) s) (fun r31 s30 => m_X5_readLine_143 o0 o1 r31 s30)
        else
        (if zI s o1 4 = 262 then
          zcl (m_X5_readSetting o0 o1 (zI s o1 4) s) (fun r29 s28 => m_X5_readLine_143 o0 o1 r29 s28)
          else
          (if zI s o1 4 = 263 then
            zcl (m_X5_readSetting o0 o1 (zI s o1 4) s) (fun r27 s26 => m_X5_readLine_143 o0 o1 r27 s26)
            else
            (if zI s o1 4 = 264 then
              zcl (m_X5_readSetting o0 o1 (zI s o1 4) s) (fun r25 s24 => m_X5_readLine_143 o0 o1 r25 s24)
              else
              (if zI s o1 4 = 265 then
                zcl (m_X5_readSetting o0 o1 (zI s o1 4) s) (fun r23 s22 => m_X5_readLine_143 o0 o1 r23 s22)
                else
                (if zI s o1 4 = 266 then
                  zcl (m_X5_readSetting o0 o1 (zI s o1 4) s) (fun r21 s20 => m_X5_readLine_143 o0 o1 r21 s20)
                  else
                  (if zI s o1 4 = 267 then
                    zcl (m_X0_readCause (zT o0 1) o1 s) (fun r19 s18 => m_X5_readLine_143 o0 o1 r19 s18)
                    else
                    (if zI s o1 4 = 268 then
                      zcl (m_X0_readTrial (zT o0 1) o1 s) (fun r15 s14 => m_X5_readLine_143 o0 o1 r15 s14)
                      else
                      zcl (m_X3_refuse o1 2 s) (fun r2 s1 => (if r2 = 0 ∨ r2 = 1 then some (r2, s1) else none)))))))))))))
set_option maxRecDepth 100000 in
theorem c_X5_readLine {w : zWC} {o0 : Nat} {o1 : Nat} {s : zSt} (h_o0 : zC o0 = 5) (h_o1 : zC o1 = 3) {a : Int32 × zSt} (hm : m_X5_readLine o0 o1 s = some a) : zCn w 4 yX5_readLine cX5_readLine 3 (some .boolean) [.ref (zb w + o0), .ref (zb w + o1)] s (zeI a).1 (zeI a).2 :=
  zCn_of (own := RX5) (lv := [some (.ref (zb w + o0)), some (.ref (zb w + o1)), none]) (by decide +kernel) rfl (Nat.le_of_ble_eq_true rfl) rfl (fun x hr => by
    unfold m_X5_readLine
    refine zj_aload_n dX5_readLine_0 rfl ?_
    refine zj_getI dX5_readLine_1 fl_X5_46 rfl h_o1 ?_
    refine zj_split (fun hs3 => ?_) (fun hs3 => ?_)
    · refine zj_tsE (u := 256) (tgt := 72) hs3 dX5_readLine_4 (by decide) (by decide) rfl (by decide) ?_
      refine zj_aload_n dX5_readLine_72 rfl ?_
      refine zj_aload_n dX5_readLine_73 rfl ?_
      refine zj_sipush dX5_readLine_74 zsi_256 ?_
      refine zj_cVI2 ml_X5_58 (fun a h => c_X5_readSetting h_o0 h_o1 h) h_o0 rfl (Nat.le_of_ble_eq_true rfl) (Nat.le_of_ble_eq_true rfl) dX5_readLine_77 (fun r37 s36 => ?_)
      refine zj_if_eq (tgt := 95) dX5_readLine_80 (by decide) ?_ ?_
      · refine zj_weak [false, true, false] rfl ?_
        exact j_X5_readLine_95 hr h_o0 h_o1
      · refine zj_aload_n dX5_readLine_83 rfl ?_
        refine zj_aload_n dX5_readLine_84 rfl ?_
        refine zj_cVI1 ml_X5_62 (fun a h => c_X5_readNearAndFar h_o0 h_o1 h) h_o0 rfl (Nat.le_of_ble_eq_true rfl) (Nat.le_of_ble_eq_true rfl) dX5_readLine_85 (fun r39 s38 => ?_)
        refine zj_if_eq (tgt := 95) dX5_readLine_88 (by decide) ?_ ?_
        · refine zj_weak [false, true, false] rfl ?_
          exact j_X5_readLine_95 hr h_o0 h_o1
        · refine zj_iconst dX5_readLine_91 zic_1 ?_
          refine zj_goto (tgt := 96) dX5_readLine_92 (by decide) ?_
          refine zj_weak [false, true, false] rfl ?_
          exact j_X5_readLine_96 hr h_o0 h_o1
    · refine zj_split (fun hs4 => ?_) (fun hs4 => ?_)
      · refine zj_tsE (u := 259) (tgt := 100) hs4 dX5_readLine_4 (by decide) (by decide) rfl (by decide) ?_
        refine zj_aload_n dX5_readLine_100 rfl ?_
        refine zj_aload_n dX5_readLine_101 rfl ?_
        refine zj_aload_n dX5_readLine_102 rfl ?_
        refine zj_getI dX5_readLine_103 fl_X5_46 rfl h_o1 ?_
        refine zj_cVI2 ml_X5_58 (fun a h => c_X5_readSetting h_o0 h_o1 h) h_o0 rfl (Nat.le_of_ble_eq_true rfl) (Nat.le_of_ble_eq_true rfl) dX5_readLine_106 (fun r35 s34 => ?_)
        refine zj_istore_n (lv' := [some (.ref (zb w + o0)), some (.ref (zb w + o1)), some (.int r35)]) dX5_readLine_109 rfl (by decide) rfl rfl ?_
        refine zj_goto (tgt := 143) dX5_readLine_110 (by decide) ?_
        refine zj_weak [false, true, true] rfl ?_
        exact j_X5_readLine_143 hr h_o0 h_o1
      · refine zj_split (fun hs5 => ?_) (fun hs5 => ?_)
        · refine zj_tsE (u := 260) (tgt := 100) hs5 dX5_readLine_4 (by decide) (by decide) rfl (by decide) ?_
          refine zj_aload_n dX5_readLine_100 rfl ?_
          refine zj_aload_n dX5_readLine_101 rfl ?_
          refine zj_aload_n dX5_readLine_102 rfl ?_
          refine zj_getI dX5_readLine_103 fl_X5_46 rfl h_o1 ?_
          refine zj_cVI2 ml_X5_58 (fun a h => c_X5_readSetting h_o0 h_o1 h) h_o0 rfl (Nat.le_of_ble_eq_true rfl) (Nat.le_of_ble_eq_true rfl) dX5_readLine_106 (fun r33 s32 => ?_)
          refine zj_istore_n (lv' := [some (.ref (zb w + o0)), some (.ref (zb w + o1)), some (.int r33)]) dX5_readLine_109 rfl (by decide) rfl rfl ?_
          refine zj_goto (tgt := 143) dX5_readLine_110 (by decide) ?_
          refine zj_weak [false, true, true] rfl ?_
          exact j_X5_readLine_143 hr h_o0 h_o1
        · refine zj_split (fun hs6 => ?_) (fun hs6 => ?_)
          · refine zj_tsE (u := 261) (tgt := 100) hs6 dX5_readLine_4 (by decide) (by decide) rfl (by decide) ?_
            refine zj_aload_n dX5_readLine_100 rfl ?_
            refine zj_aload_n dX5_readLine_101 rfl ?_
            refine zj_aload_n dX5_readLine_102 rfl ?_
            refine zj_getI dX5_readLine_103 fl_X5_46 rfl h_o1 ?_
            refine zj_cVI2 ml_X5_58 (fun a h => c_X5_readSetting h_o0 h_o1 h) h_o0 rfl (Nat.le_of_ble_eq_true rfl) (Nat.le_of_ble_eq_true rfl) dX5_readLine_106 (fun r31 s30 => ?_)
            refine zj_istore_n (lv' := [some (.ref (zb w + o0)), some (.ref (zb w + o1)), some (.int r31)]) dX5_readLine_109 rfl (by decide) rfl rfl ?_
            refine zj_goto (tgt := 143) dX5_readLine_110 (by decide) ?_
            refine zj_weak [false, true, true] rfl ?_
            exact j_X5_readLine_143 hr h_o0 h_o1
          · refine zj_split (fun hs7 => ?_) (fun hs7 => ?_)
            · refine zj_tsE (u := 262) (tgt := 100) hs7 dX5_readLine_4 (by decide) (by decide) rfl (by decide) ?_
              refine zj_aload_n dX5_readLine_100 rfl ?_
              refine zj_aload_n dX5_readLine_101 rfl ?_
              refine zj_aload_n dX5_readLine_102 rfl ?_
              refine zj_getI dX5_readLine_103 fl_X5_46 rfl h_o1 ?_
              refine zj_cVI2 ml_X5_58 (fun a h => c_X5_readSetting h_o0 h_o1 h) h_o0 rfl (Nat.le_of_ble_eq_true rfl) (Nat.le_of_ble_eq_true rfl) dX5_readLine_106 (fun r29 s28 => ?_)
              refine zj_istore_n (lv' := [some (.ref (zb w + o0)), some (.ref (zb w + o1)), some (.int r29)]) dX5_readLine_109 rfl (by decide) rfl rfl ?_
              refine zj_goto (tgt := 143) dX5_readLine_110 (by decide) ?_
              refine zj_weak [false, true, true] rfl ?_
              exact j_X5_readLine_143 hr h_o0 h_o1
            · refine zj_split (fun hs8 => ?_) (fun hs8 => ?_)
              · refine zj_tsE (u := 263) (tgt := 100) hs8 dX5_readLine_4 (by decide) (by decide) rfl (by decide) ?_
                refine zj_aload_n dX5_readLine_100 rfl ?_
                refine zj_aload_n dX5_readLine_101 rfl ?_
                refine zj_aload_n dX5_readLine_102 rfl ?_
                refine zj_getI dX5_readLine_103 fl_X5_46 rfl h_o1 ?_
                refine zj_cVI2 ml_X5_58 (fun a h => c_X5_readSetting h_o0 h_o1 h) h_o0 rfl (Nat.le_of_ble_eq_true rfl) (Nat.le_of_ble_eq_true rfl) dX5_readLine_106 (fun r27 s26 => ?_)
                refine zj_istore_n (lv' := [some (.ref (zb w + o0)), some (.ref (zb w + o1)), some (.int r27)]) dX5_readLine_109 rfl (by decide) rfl rfl ?_
                refine zj_goto (tgt := 143) dX5_readLine_110 (by decide) ?_
                refine zj_weak [false, true, true] rfl ?_
                exact j_X5_readLine_143 hr h_o0 h_o1
              · refine zj_split (fun hs9 => ?_) (fun hs9 => ?_)
                · refine zj_tsE (u := 264) (tgt := 100) hs9 dX5_readLine_4 (by decide) (by decide) rfl (by decide) ?_
                  refine zj_aload_n dX5_readLine_100 rfl ?_
                  refine zj_aload_n dX5_readLine_101 rfl ?_
                  refine zj_aload_n dX5_readLine_102 rfl ?_
                  refine zj_getI dX5_readLine_103 fl_X5_46 rfl h_o1 ?_
                  refine zj_cVI2 ml_X5_58 (fun a h => c_X5_readSetting h_o0 h_o1 h) h_o0 rfl (Nat.le_of_ble_eq_true rfl) (Nat.le_of_ble_eq_true rfl) dX5_readLine_106 (fun r25 s24 => ?_)
                  refine zj_istore_n (lv' := [some (.ref (zb w + o0)), some (.ref (zb w + o1)), some (.int r25)]) dX5_readLine_109 rfl (by decide) rfl rfl ?_
                  refine zj_goto (tgt := 143) dX5_readLine_110 (by decide) ?_
                  refine zj_weak [false, true, true] rfl ?_
                  exact j_X5_readLine_143 hr h_o0 h_o1
                · refine zj_split (fun hs10 => ?_) (fun hs10 => ?_)
                  · refine zj_tsE (u := 265) (tgt := 100) hs10 dX5_readLine_4 (by decide) (by decide) rfl (by decide) ?_
                    refine zj_aload_n dX5_readLine_100 rfl ?_
                    refine zj_aload_n dX5_readLine_101 rfl ?_
                    refine zj_aload_n dX5_readLine_102 rfl ?_
                    refine zj_getI dX5_readLine_103 fl_X5_46 rfl h_o1 ?_
                    refine zj_cVI2 ml_X5_58 (fun a h => c_X5_readSetting h_o0 h_o1 h) h_o0 rfl (Nat.le_of_ble_eq_true rfl) (Nat.le_of_ble_eq_true rfl) dX5_readLine_106 (fun r23 s22 => ?_)
                    refine zj_istore_n (lv' := [some (.ref (zb w + o0)), some (.ref (zb w + o1)), some (.int r23)]) dX5_readLine_109 rfl (by decide) rfl rfl ?_
                    refine zj_goto (tgt := 143) dX5_readLine_110 (by decide) ?_
                    refine zj_weak [false, true, true] rfl ?_
                    exact j_X5_readLine_143 hr h_o0 h_o1
                  · refine zj_split (fun hs11 => ?_) (fun hs11 => ?_)
                    · refine zj_tsE (u := 266) (tgt := 100) hs11 dX5_readLine_4 (by decide) (by decide) rfl (by decide) ?_
                      refine zj_aload_n dX5_readLine_100 rfl ?_
                      refine zj_aload_n dX5_readLine_101 rfl ?_
                      refine zj_aload_n dX5_readLine_102 rfl ?_
                      refine zj_getI dX5_readLine_103 fl_X5_46 rfl h_o1 ?_
                      refine zj_cVI2 ml_X5_58 (fun a h => c_X5_readSetting h_o0 h_o1 h) h_o0 rfl (Nat.le_of_ble_eq_true rfl) (Nat.le_of_ble_eq_true rfl) dX5_readLine_106 (fun r21 s20 => ?_)
                      refine zj_istore_n (lv' := [some (.ref (zb w + o0)), some (.ref (zb w + o1)), some (.int r21)]) dX5_readLine_109 rfl (by decide) rfl rfl ?_
                      refine zj_goto (tgt := 143) dX5_readLine_110 (by decide) ?_
                      refine zj_weak [false, true, true] rfl ?_
                      exact j_X5_readLine_143 hr h_o0 h_o1
                    · refine zj_split (fun hs12 => ?_) (fun hs12 => ?_)
                      · refine zj_tsE (u := 267) (tgt := 113) hs12 dX5_readLine_4 (by decide) (by decide) rfl (by decide) ?_
                        refine zj_aload_n dX5_readLine_113 rfl ?_
                        refine zj_getT dX5_readLine_114 fl_X5_18 rfl h_o0 ?_
                        refine zj_aload_n dX5_readLine_117 rfl ?_
                        refine zj_cVI1 ml_X5_65 (fun a h => c_X0_readCause (zt_5_1 _ h_o0) h_o1 h) (zt_5_1 _ h_o0) rfl (Nat.le_of_ble_eq_true rfl) (Nat.le_of_ble_eq_true rfl) dX5_readLine_118 (fun r19 s18 => ?_)
                        refine zj_istore_n (lv' := [some (.ref (zb w + o0)), some (.ref (zb w + o1)), some (.int r19)]) dX5_readLine_121 rfl (by decide) rfl rfl ?_
                        refine zj_goto (tgt := 143) dX5_readLine_122 (by decide) ?_
                        refine zj_weak [false, true, true] rfl ?_
                        exact j_X5_readLine_143 hr h_o0 h_o1
                      · refine zj_split (fun hs13 => ?_) (fun hs13 => ?_)
                        · refine zj_tsE (u := 268) (tgt := 125) hs13 dX5_readLine_4 (by decide) (by decide) rfl (by decide) ?_
                          refine zj_aload_n dX5_readLine_125 rfl ?_
                          refine zj_getT dX5_readLine_126 fl_X5_18 rfl h_o0 ?_
                          refine zj_aload_n dX5_readLine_129 rfl ?_
                          refine zj_cVI1 ml_X5_68 (fun a h => c_X0_readTrial (zt_5_1 _ h_o0) h_o1 h) (zt_5_1 _ h_o0) rfl (Nat.le_of_ble_eq_true rfl) (Nat.le_of_ble_eq_true rfl) dX5_readLine_130 (fun r15 s14 => ?_)
                          refine zj_istore_n (lv' := [some (.ref (zb w + o0)), some (.ref (zb w + o1)), some (.int r15)]) dX5_readLine_133 rfl (by decide) rfl rfl ?_
                          refine zj_goto (tgt := 143) dX5_readLine_134 (by decide) ?_
                          refine zj_weak [false, true, true] rfl ?_
                          exact j_X5_readLine_143 hr h_o0 h_o1
                        · refine zj_tsDef (vs := [256, 259, 260, 261, 262, 263, 264, 265, 266, 267, 268]) (tgt := 137) dX5_readLine_4 (by decide) (by decide +kernel) (by decide) (by
                            intro u hu
                            simp only [List.mem_cons, List.not_mem_nil, or_false] at hu
                            rcases hu with rfl | rfl | rfl | rfl | rfl | rfl | rfl | rfl | rfl | rfl | rfl
                            · exact hs3
                            · exact hs4
                            · exact hs5
                            · exact hs6
                            · exact hs7
                            · exact hs8
                            · exact hs9
                            · exact hs10
                            · exact hs11
                            · exact hs12
                            · exact hs13
                            ) ?_
                          refine zj_aload_n dX5_readLine_137 rfl ?_
                          refine zj_iconst dX5_readLine_138 zic_2 ?_
                          refine zj_cVI1 ml_X5_71 (fun a h => c_X3_refuse h_o1 h) h_o1 rfl (Nat.le_of_ble_eq_true rfl) (Nat.le_of_ble_eq_true rfl) dX5_readLine_139 (fun r2 s1 => ?_)
                          exact zj_zretG hr dX5_readLine_142) hm
def bd_X5_read_33 (o0 : Nat) (o1 : Nat) (rec33 : Int32 → zSt → Option (Int32 × zSt)) (l2 : Int32) (s : zSt) : Option (Int32 × zSt) :=
  (if 800 < l2 then
  some (0, s)
  else
  (if zI s o1 4 = 0 then
    zcv (m_X0_fillFewest (zT o0 1) s) (fun s5 => some (1, s5))
    else
    zcl (m_X5_readLine o0 o1 s) (fun r7 s6 => (if r7 = 0 then
      some (0, s6)
      else
      zlt (zsI s6 o0 0 ((zI s6 o0 0) + 1)) (fun s8 => rec33 (l2 + 1) s8)))))
def lp_X5_read_33 (o0 : Nat) (o1 : Nat) : Nat → Int32 → zSt → Option (Int32 × zSt)
  | 0, _, _ => none
  | n + 1, l2, s => bd_X5_read_33 o0 o1 (fun l2 s => lp_X5_read_33 o0 o1 n l2 s) l2 s
set_option maxRecDepth 100000 in
theorem jb_X5_read_33 {o0 : Nat} {o1 : Nat} {rec33 : Int32 → zSt → Option (Int32 × zSt)} {l2 : Int32} {s : zSt} {w : zWC} {x : zCX} (hr : zrt x = (some .boolean))  (h_o0 : zC o0 = 5) (h_o1 : zC o1 = 3) (h_rec33 : ∀ (l2 : Int32) (s : zSt), zJ (zQf w x zeI) w x RX5 cX5_read 3 5 (rec33 l2 s) 33 [some (.ref (zb w + o0)), some (.ref (zb w + o1)), some (.int l2)] [] s) : zJ (zQf w x zeI) w x RX5 cX5_read 3 5 (bd_X5_read_33 o0 o1 rec33 l2 s) 33 [some (.ref (zb w + o0)), some (.ref (zb w + o1)), some (.int l2)] [] s := by
  unfold bd_X5_read_33
  refine zj_iload_n dX5_read_33 rfl ?_
  refine zj_sipush dX5_read_34 zsi_800 ?_
  refine zj_icmp_gt (tgt := 82) dX5_read_37 (by decide) ?_ ?_
  · refine zj_iconst dX5_read_82 zic_0 ?_
    exact zj_zret hr rfl dX5_read_83
  · refine zj_aload_n dX5_read_40 rfl ?_
    refine zj_getI dX5_read_41 fl_X5_46 rfl h_o1 ?_
    refine zj_if_ne (tgt := 56) dX5_read_44 (by decide) ?_ ?_
    · refine zj_aload_n dX5_read_47 rfl ?_
      refine zj_getT dX5_read_48 fl_X5_18 rfl h_o0 ?_
      refine zj_cVV0 ml_X5_51 (fun a h => c_X0_fillFewest (zt_5_1 _ h_o0) h) (zt_5_1 _ h_o0) rfl (Nat.le_of_ble_eq_true rfl) (Nat.le_of_ble_eq_true rfl) dX5_read_51 (fun s5 => ?_)
      refine zj_iconst dX5_read_54 zic_1 ?_
      exact zj_zret hr rfl dX5_read_55
    · refine zj_aload_n dX5_read_56 rfl ?_
      refine zj_aload_n dX5_read_57 rfl ?_
      refine zj_cVI1 ml_X5_54 (fun a h => c_X5_readLine h_o0 h_o1 h) h_o0 rfl (Nat.le_of_ble_eq_true rfl) (Nat.le_of_ble_eq_true rfl) dX5_read_58 (fun r7 s6 => ?_)
      refine zj_if_ne (tgt := 66) dX5_read_61 (by decide) ?_ ?_
      · refine zj_iconst dX5_read_64 zic_0 ?_
        exact zj_zret hr rfl dX5_read_65
      · refine zj_aload_n dX5_read_66 rfl ?_
        refine zj_dup dX5_read_67 rfl ?_
        refine zj_getI dX5_read_68 fl_X5_9 rfl h_o0 ?_
        refine zj_iconst dX5_read_71 zic_1 ?_
        refine zj_iadd dX5_read_72 ?_
        refine zj_putI dX5_read_73 fl_X5_9 rfl h_o0 pd_5_0 rfl rfl (fun s8 => ?_)
        refine zj_iinc (v2 := l2 + 1) (lv' := [some (.ref (zb w + o0)), some (.ref (zb w + o1)), some (.int (l2 + 1))]) dX5_read_76 rfl (by rw [zic_1]) (by decide) rfl rfl ?_
        refine zj_goto (tgt := 33) dX5_read_79 (by decide) ?_
        exact h_rec33 _ _
set_option maxRecDepth 100000 in
theorem jl_X5_read_33 {o0 : Nat} {o1 : Nat} {w : zWC} {x : zCX} (hr : zrt x = (some .boolean))  (h_o0 : zC o0 = 5) (h_o1 : zC o1 = 3) : ∀ (n : Nat) (l2 : Int32) (s : zSt), zJ (zQf w x zeI) w x RX5 cX5_read 3 5 (lp_X5_read_33 o0 o1 n l2 s) 33 [some (.ref (zb w + o0)), some (.ref (zb w + o1)), some (.int l2)] [] s := by
  intro n
  induction n with
  | zero => intro l2 s; exact zj_none
  | succ n ih => intro l2 s; exact jb_X5_read_33 hr h_o0 h_o1 (fun l2 s => ih l2 s)
def m_X5_read (o0 : Nat) (o1 : Nat) (s : zSt) : Option (Int32 × zSt) :=
  zlt (zsI s o0 0 0) (fun s1 => zlt (zsI s1 o0 3 0) (fun s2 => (if zN (zT o0 2) = 11 then zlt (zcpU s2 (zT o0 2)) (fun s3 => zcv (m_X0_clear (zT o0 1) s3) (fun s4 => lp_X5_read_33 o0 o1 zFuel 0 s4)) else none)))
set_option maxRecDepth 100000 in
theorem c_X5_read {w : zWC} {o0 : Nat} {o1 : Nat} {s : zSt} (h_o0 : zC o0 = 5) (h_o1 : zC o1 = 3) {a : Int32 × zSt} (hm : m_X5_read o0 o1 s = some a) : zCn w 5 yX5_read cX5_read 3 (some .boolean) [.ref (zb w + o0), .ref (zb w + o1)] s (zeI a).1 (zeI a).2 :=
  zCn_of (own := RX5) (lv := [some (.ref (zb w + o0)), some (.ref (zb w + o1)), none]) (by decide +kernel) rfl (Nat.le_of_ble_eq_true rfl) rfl (fun x hr => by
    unfold m_X5_read
    refine zj_aload_n dX5_read_0 rfl ?_
    refine zj_iconst dX5_read_1 zic_0 ?_
    refine zj_putI dX5_read_2 fl_X5_9 rfl h_o0 pd_5_0 rfl rfl (fun s1 => ?_)
    refine zj_aload_n dX5_read_5 rfl ?_
    refine zj_iconst dX5_read_6 zic_0 ?_
    refine zj_putI dX5_read_7 fl_X5_34 rfl h_o0 pd_5_3 rfl rfl (fun s2 => ?_)
    refine zj_getsUNTOLD dX5_read_10 (by decide +kernel) ?_
    refine zj_iconst dX5_read_13 zic_0 ?_
    refine zj_aload_n dX5_read_14 rfl ?_
    refine zj_getT dX5_read_15 fl_X5_31 rfl h_o0 ?_
    refine zj_iconst dX5_read_18 zic_0 ?_
    refine zj_bipush dX5_read_19 zbi_11 ?_
    refine zj_acopy dX5_read_21 al_X5_37 (zt_5_2 _ h_o0) (by decide) (Nat.le_of_ble_eq_true rfl) (fun s3 => ?_)
    refine zj_aload_n dX5_read_24 rfl ?_
    refine zj_getT dX5_read_25 fl_X5_18 rfl h_o0 ?_
    refine zj_cVV0 ml_X5_43 (fun a h => c_X0_clear (zt_5_1 _ h_o0) h) (zt_5_1 _ h_o0) rfl (Nat.le_of_ble_eq_true rfl) (Nat.le_of_ble_eq_true rfl) dX5_read_28 (fun s4 => ?_)
    refine zj_iconst dX5_read_31 zic_0 ?_
    refine zj_istore_n (lv' := [some (.ref (zb w + o0)), some (.ref (zb w + o1)), some (.int 0)]) dX5_read_32 rfl (by decide) rfl rfl ?_
    exact jl_X5_read_33 hr h_o0 h_o1 zFuel _ _) hm
def m_X5_setting (o0 : Nat) (p1 : Int32) (s : zSt) : Option (Int64 × zSt) :=
  (if p1 - 256 < 0 then
  some (0, s)
  else
  (if p1 - 256 < 11 then
    (if p1 - 256 < 0 ∨ zN (zT o0 2) ≤ Int32.toNatClampNeg (p1 - 256) then none else some ((zI s (zT o0 2) (Int32.toNatClampNeg (p1 - 256))).toInt64, s))
    else
    some (0, s)))
set_option maxRecDepth 100000 in
theorem c_X5_setting {w : zWC} {o0 : Nat} {p1 : Int32} {s : zSt} (h_o0 : zC o0 = 5) {a : Int64 × zSt} (hm : m_X5_setting o0 p1 s = some a) : zCn w 0 yX5_setting cX5_setting 3 (some .long) [.ref (zb w + o0), .int p1] s (zeL a).1 (zeL a).2 :=
  zCn_of (own := RX5) (lv := [some (.ref (zb w + o0)), some (.int p1), none]) (by decide +kernel) rfl (Nat.le_of_ble_eq_true rfl) rfl (fun x hr => by
    unfold m_X5_setting
    refine zj_iload_n dX5_setting_0 rfl ?_
    refine zj_sipush dX5_setting_1 zsi_256 ?_
    refine zj_isub dX5_setting_4 ?_
    refine zj_istore_n (lv' := [some (.ref (zb w + o0)), some (.int p1), some (.int (p1 - 256))]) dX5_setting_5 rfl (by decide) rfl rfl ?_
    refine zj_iload_n dX5_setting_6 rfl ?_
    refine zj_if_lt (tgt := 16) dX5_setting_7 (by decide) ?_ ?_
    · refine zj_lconst (v := 0) dX5_setting_16 rfl ?_
      refine zj_goto (tgt := 27) dX5_setting_17 (by decide) ?_
      exact zj_lret hr dX5_setting_27
    · refine zj_iload_n dX5_setting_10 rfl ?_
      refine zj_bipush dX5_setting_11 zbi_11 ?_
      refine zj_icmp_lt (tgt := 20) dX5_setting_13 (by decide) ?_ ?_
      · refine zj_aload_n dX5_setting_20 rfl ?_
        refine zj_getT dX5_setting_21 fl_X5_31 rfl h_o0 ?_
        refine zj_iload_n dX5_setting_24 rfl ?_
        refine zj_iald dX5_setting_25 (zt_5_2 _ h_o0) ?_
        refine zj_i2l dX5_setting_26 ?_
        exact zj_lret hr dX5_setting_27
      · refine zj_lconst (v := 0) dX5_setting_16 rfl ?_
        refine zj_goto (tgt := 27) dX5_setting_17 (by decide) ?_
        exact zj_lret hr dX5_setting_27) hm
def m_X5_pullUpper (o0 : Nat) (s : zSt) : Option (Int64 × zSt) :=
  zcl (m_X5_setting o0 257 s) (fun r2 s1 => zcl (m_X5_setting o0 258 s1) (fun r4 s3 => zcl (m_X5_setting o0 260 s3) (fun r6 s5 => zcl (m_X5_setting o0 256 s5) (fun r8 s7 => zcl (m_X5_setting o0 259 s7) (fun r10 s9 => some (((r6 * r8) * ((1000 : Int64) + r10)) * ((r4 * r4) - (r2 * r2)), s9))))))
set_option maxRecDepth 100000 in
theorem c_X5_pullUpper {w : zWC} {o0 : Nat} {s : zSt} (h_o0 : zC o0 = 5) {a : Int64 × zSt} (hm : m_X5_pullUpper o0 s = some a) : zCn w 1 yX5_pullUpper cX5_pullUpper 5 (some .long) [.ref (zb w + o0)] s (zeL a).1 (zeL a).2 :=
  zCn_of (own := RX5) (lv := [some (.ref (zb w + o0)), none, none, none, none]) (by decide +kernel) rfl (Nat.le_of_ble_eq_true rfl) rfl (fun x hr => by
    unfold m_X5_pullUpper
    refine zj_aload_n dX5_pullUpper_0 rfl ?_
    refine zj_sipush dX5_pullUpper_1 zsi_257 ?_
    refine zj_cVL1 ml_X5_97 (fun a h => c_X5_setting h_o0 h) h_o0 rfl (Nat.le_of_ble_eq_true rfl) (Nat.le_of_ble_eq_true rfl) dX5_pullUpper_4 (fun r2 s1 => ?_)
    refine zj_lstore_n (lv' := [some (.ref (zb w + o0)), some (.long r2), none, none, none]) dX5_pullUpper_7 rfl (by decide) rfl rfl ?_
    refine zj_aload_n dX5_pullUpper_8 rfl ?_
    refine zj_sipush dX5_pullUpper_9 zsi_258 ?_
    refine zj_cVL1 ml_X5_97 (fun a h => c_X5_setting h_o0 h) h_o0 rfl (Nat.le_of_ble_eq_true rfl) (Nat.le_of_ble_eq_true rfl) dX5_pullUpper_12 (fun r4 s3 => ?_)
    refine zj_lstore_n (lv' := [some (.ref (zb w + o0)), some (.long r2), none, some (.long r4), none]) dX5_pullUpper_15 rfl (by decide) rfl rfl ?_
    refine zj_aload_n dX5_pullUpper_16 rfl ?_
    refine zj_sipush dX5_pullUpper_17 zsi_260 ?_
    refine zj_cVL1 ml_X5_97 (fun a h => c_X5_setting h_o0 h) h_o0 rfl (Nat.le_of_ble_eq_true rfl) (Nat.le_of_ble_eq_true rfl) dX5_pullUpper_20 (fun r6 s5 => ?_)
    refine zj_aload_n dX5_pullUpper_23 rfl ?_
    refine zj_sipush dX5_pullUpper_24 zsi_256 ?_
    refine zj_cVL1 ml_X5_97 (fun a h => c_X5_setting h_o0 h) h_o0 rfl (Nat.le_of_ble_eq_true rfl) (Nat.le_of_ble_eq_true rfl) dX5_pullUpper_27 (fun r8 s7 => ?_)
    refine zj_lmul dX5_pullUpper_30 ?_
    refine zj_ldc2 dX5_pullUpper_31 kcL_X5_101 ?_
    refine zj_aload_n dX5_pullUpper_34 rfl ?_
    refine zj_sipush dX5_pullUpper_35 zsi_259 ?_
    refine zj_cVL1 ml_X5_97 (fun a h => c_X5_setting h_o0 h) h_o0 rfl (Nat.le_of_ble_eq_true rfl) (Nat.le_of_ble_eq_true rfl) dX5_pullUpper_38 (fun r10 s9 => ?_)
    refine zj_ladd dX5_pullUpper_41 ?_
    refine zj_lmul dX5_pullUpper_42 ?_
    refine zj_lload_n dX5_pullUpper_43 rfl ?_
    refine zj_lload_n dX5_pullUpper_44 rfl ?_
    refine zj_lmul dX5_pullUpper_45 ?_
    refine zj_lload_n dX5_pullUpper_46 rfl ?_
    refine zj_lload_n dX5_pullUpper_47 rfl ?_
    refine zj_lmul dX5_pullUpper_48 ?_
    refine zj_lsub dX5_pullUpper_49 ?_
    refine zj_lmul dX5_pullUpper_50 ?_
    exact zj_lret hr dX5_pullUpper_51) hm
def m_X5_lower (o0 : Nat) (s : zSt) : Option (Int64 × zSt) :=
  zcl (m_X5_setting o0 257 s) (fun r2 s1 => zcl (m_X5_setting o0 258 s1) (fun r4 s3 => some (((((1000 : Int64) * r2) * r2) * r4) * r4, s3)))
set_option maxRecDepth 100000 in
theorem c_X5_lower {w : zWC} {o0 : Nat} {s : zSt} (h_o0 : zC o0 = 5) {a : Int64 × zSt} (hm : m_X5_lower o0 s = some a) : zCn w 1 yX5_lower cX5_lower 5 (some .long) [.ref (zb w + o0)] s (zeL a).1 (zeL a).2 :=
  zCn_of (own := RX5) (lv := [some (.ref (zb w + o0)), none, none, none, none]) (by decide +kernel) rfl (Nat.le_of_ble_eq_true rfl) rfl (fun x hr => by
    unfold m_X5_lower
    refine zj_aload_n dX5_lower_0 rfl ?_
    refine zj_sipush dX5_lower_1 zsi_257 ?_
    refine zj_cVL1 ml_X5_97 (fun a h => c_X5_setting h_o0 h) h_o0 rfl (Nat.le_of_ble_eq_true rfl) (Nat.le_of_ble_eq_true rfl) dX5_lower_4 (fun r2 s1 => ?_)
    refine zj_lstore_n (lv' := [some (.ref (zb w + o0)), some (.long r2), none, none, none]) dX5_lower_7 rfl (by decide) rfl rfl ?_
    refine zj_aload_n dX5_lower_8 rfl ?_
    refine zj_sipush dX5_lower_9 zsi_258 ?_
    refine zj_cVL1 ml_X5_97 (fun a h => c_X5_setting h_o0 h) h_o0 rfl (Nat.le_of_ble_eq_true rfl) (Nat.le_of_ble_eq_true rfl) dX5_lower_12 (fun r4 s3 => ?_)
    refine zj_lstore_n (lv' := [some (.ref (zb w + o0)), some (.long r2), none, some (.long r4), none]) dX5_lower_15 rfl (by decide) rfl rfl ?_
    refine zj_ldc2 dX5_lower_16 kcL_X5_101 ?_
    refine zj_lload_n dX5_lower_19 rfl ?_
    refine zj_lmul dX5_lower_20 ?_
    refine zj_lload_n dX5_lower_21 rfl ?_
    refine zj_lmul dX5_lower_22 ?_
    refine zj_lload_n dX5_lower_23 rfl ?_
    refine zj_lmul dX5_lower_24 ?_
    refine zj_lload_n dX5_lower_25 rfl ?_
    refine zj_lmul dX5_lower_26 ?_
    exact zj_lret hr dX5_lower_27) hm
def m_X5_restUpper (o0 : Nat) (p1 : Int32) (p2 : Int32) (s : zSt) : Option (Int64 × zSt) :=
  zcl (m_X5_setting o0 263 s) (fun r2 s1 => zcl (m_X5_setting o0 266 s1) (fun r4 s3 => zcl (m_X5_setting o0 265 s3) (fun r6 s5 => zcl (m_X5_lower o0 s5) (fun r8 s7 => zcl (m_X5_lower o0 s7) (fun r10 s9 => zcl (m_X5_setting o0 264 s9) (fun r12 s11 => zcl (m_X5_pullUpper o0 s11) (fun r14 s13 => some (((((r2 + ((r4 * p1.toInt64) * p1.toInt64)) + (p1.toInt64 * r6)) * r10) + ((r12 * p2.toInt64) * (r8 / 10))) + (p1.toInt64 * r14), s13))))))))
set_option maxRecDepth 100000 in
theorem c_X5_restUpper {w : zWC} {o0 : Nat} {p1 : Int32} {p2 : Int32} {s : zSt} (h_o0 : zC o0 = 5) {a : Int64 × zSt} (hm : m_X5_restUpper o0 p1 p2 s = some a) : zCn w 2 yX5_restUpper cX5_restUpper 7 (some .long) [.ref (zb w + o0), .int p1, .int p2] s (zeL a).1 (zeL a).2 :=
  zCn_of (own := RX5) (lv := [some (.ref (zb w + o0)), some (.int p1), some (.int p2), none, none, none, none]) (by decide +kernel) rfl (Nat.le_of_ble_eq_true rfl) rfl (fun x hr => by
    unfold m_X5_restUpper
    refine zj_aload_n dX5_restUpper_0 rfl ?_
    refine zj_sipush dX5_restUpper_1 zsi_263 ?_
    refine zj_cVL1 ml_X5_97 (fun a h => c_X5_setting h_o0 h) h_o0 rfl (Nat.le_of_ble_eq_true rfl) (Nat.le_of_ble_eq_true rfl) dX5_restUpper_4 (fun r2 s1 => ?_)
    refine zj_aload_n dX5_restUpper_7 rfl ?_
    refine zj_sipush dX5_restUpper_8 zsi_266 ?_
    refine zj_cVL1 ml_X5_97 (fun a h => c_X5_setting h_o0 h) h_o0 rfl (Nat.le_of_ble_eq_true rfl) (Nat.le_of_ble_eq_true rfl) dX5_restUpper_11 (fun r4 s3 => ?_)
    refine zj_iload_n dX5_restUpper_14 rfl ?_
    refine zj_i2l dX5_restUpper_15 ?_
    refine zj_lmul dX5_restUpper_16 ?_
    refine zj_iload_n dX5_restUpper_17 rfl ?_
    refine zj_i2l dX5_restUpper_18 ?_
    refine zj_lmul dX5_restUpper_19 ?_
    refine zj_ladd dX5_restUpper_20 ?_
    refine zj_iload_n dX5_restUpper_21 rfl ?_
    refine zj_i2l dX5_restUpper_22 ?_
    refine zj_aload_n dX5_restUpper_23 rfl ?_
    refine zj_sipush dX5_restUpper_24 zsi_265 ?_
    refine zj_cVL1 ml_X5_97 (fun a h => c_X5_setting h_o0 h) h_o0 rfl (Nat.le_of_ble_eq_true rfl) (Nat.le_of_ble_eq_true rfl) dX5_restUpper_27 (fun r6 s5 => ?_)
    refine zj_lmul dX5_restUpper_30 ?_
    refine zj_ladd dX5_restUpper_31 ?_
    refine zj_lstore_n (lv' := [some (.ref (zb w + o0)), some (.int p1), some (.int p2), some (.long ((r2 + ((r4 * p1.toInt64) * p1.toInt64)) + (p1.toInt64 * r6))), none, none, none]) dX5_restUpper_32 rfl (by decide) rfl rfl ?_
    refine zj_aload_n dX5_restUpper_33 rfl ?_
    refine zj_cVL0 ml_X5_103 (fun a h => c_X5_lower h_o0 h) h_o0 rfl (Nat.le_of_ble_eq_true rfl) (Nat.le_of_ble_eq_true rfl) dX5_restUpper_34 (fun r8 s7 => ?_)
    refine zj_ldc2 dX5_restUpper_37 kcL_X5_107 ?_
    refine zj_ldivK dX5_restUpper_40 (by decide) ?_
    refine zj_lstore (lv' := [some (.ref (zb w + o0)), some (.int p1), some (.int p2), some (.long ((r2 + ((r4 * p1.toInt64) * p1.toInt64)) + (p1.toInt64 * r6))), none, some (.long (r8 / 10)), none]) dX5_restUpper_41 (by decide) rfl rfl ?_
    refine zj_lload_n dX5_restUpper_43 rfl ?_
    refine zj_aload_n dX5_restUpper_44 rfl ?_
    refine zj_cVL0 ml_X5_103 (fun a h => c_X5_lower h_o0 h) h_o0 rfl (Nat.le_of_ble_eq_true rfl) (Nat.le_of_ble_eq_true rfl) dX5_restUpper_45 (fun r10 s9 => ?_)
    refine zj_lmul dX5_restUpper_48 ?_
    refine zj_aload_n dX5_restUpper_49 rfl ?_
    refine zj_sipush dX5_restUpper_50 zsi_264 ?_
    refine zj_cVL1 ml_X5_97 (fun a h => c_X5_setting h_o0 h) h_o0 rfl (Nat.le_of_ble_eq_true rfl) (Nat.le_of_ble_eq_true rfl) dX5_restUpper_53 (fun r12 s11 => ?_)
    refine zj_iload_n dX5_restUpper_56 rfl ?_
    refine zj_i2l dX5_restUpper_57 ?_
    refine zj_lmul dX5_restUpper_58 ?_
    refine zj_lload dX5_restUpper_59 rfl ?_
    refine zj_lmul dX5_restUpper_61 ?_
    refine zj_ladd dX5_restUpper_62 ?_
    refine zj_iload_n dX5_restUpper_63 rfl ?_
    refine zj_i2l dX5_restUpper_64 ?_
    refine zj_aload_n dX5_restUpper_65 rfl ?_
    refine zj_cVL0 ml_X5_109 (fun a h => c_X5_pullUpper h_o0 h) h_o0 rfl (Nat.le_of_ble_eq_true rfl) (Nat.le_of_ble_eq_true rfl) dX5_restUpper_66 (fun r14 s13 => ?_)
    refine zj_lmul dX5_restUpper_69 ?_
    refine zj_ladd dX5_restUpper_70 ?_
    exact zj_lret hr dX5_restUpper_71) hm
def m_X6_addStep (o0 : Nat) (p1 : Int32) (p2 : Int32) (s : zSt) : Option (zSt) :=
  (if zI s o0 11 < 120 then
  (if zI s o0 11 < 0 ∨ zN (zT o0 7) ≤ Int32.toNatClampNeg (zI s o0 11) then none else zlt (zsI s (zT o0 7) (Int32.toNatClampNeg (zI s o0 11)) p1) (fun s1 => (if zI s1 o0 11 < 0 ∨ zN (zT o0 8) ≤ Int32.toNatClampNeg (zI s1 o0 11) then none else zlt (zsI s1 (zT o0 8) (Int32.toNatClampNeg (zI s1 o0 11)) p2) (fun s2 => zlt (zsI s2 o0 11 ((zI s2 o0 11) + 1)) (fun s3 => some s3)))))
  else
  some s)
set_option maxRecDepth 100000 in
theorem c_X6_addStep {w : zWC} {o0 : Nat} {p1 : Int32} {p2 : Int32} {s : zSt} (h_o0 : zC o0 = 6) {a : zSt} (hm : m_X6_addStep o0 p1 p2 s = some a) : zCn w 0 yX6_addStep cX6_addStep 3 none [.ref (zb w + o0), .int p1, .int p2] s (zeV a).1 (zeV a).2 :=
  zCn_of (own := RX6) (lv := [some (.ref (zb w + o0)), some (.int p1), some (.int p2)]) (by decide +kernel) rfl (Nat.le_of_ble_eq_true rfl) rfl (fun x hr => by
    unfold m_X6_addStep
    refine zj_aload_n dX6_addStep_0 rfl ?_
    refine zj_getI dX6_addStep_1 fl_X6_47 rfl h_o0 ?_
    refine zj_bipush dX6_addStep_4 zbi_120 ?_
    refine zj_icmp_ge (tgt := 39) dX6_addStep_6 (by decide) ?_ ?_
    · refine zj_aload_n dX6_addStep_9 rfl ?_
      refine zj_getT dX6_addStep_10 fl_X6_35 rfl h_o0 ?_
      refine zj_aload_n dX6_addStep_13 rfl ?_
      refine zj_getI dX6_addStep_14 fl_X6_47 rfl h_o0 ?_
      refine zj_iload_n dX6_addStep_17 rfl ?_
      refine zj_iast dX6_addStep_18 (zt_6_7 _ h_o0) (fun s1 => ?_)
      refine zj_aload_n dX6_addStep_19 rfl ?_
      refine zj_getT dX6_addStep_20 fl_X6_38 rfl h_o0 ?_
      refine zj_aload_n dX6_addStep_23 rfl ?_
      refine zj_getI dX6_addStep_24 fl_X6_47 rfl h_o0 ?_
      refine zj_iload_n dX6_addStep_27 rfl ?_
      refine zj_iast dX6_addStep_28 (zt_6_8 _ h_o0) (fun s2 => ?_)
      refine zj_aload_n dX6_addStep_29 rfl ?_
      refine zj_dup dX6_addStep_30 rfl ?_
      refine zj_getI dX6_addStep_31 fl_X6_47 rfl h_o0 ?_
      refine zj_iconst dX6_addStep_34 zic_1 ?_
      refine zj_iadd dX6_addStep_35 ?_
      refine zj_putI dX6_addStep_36 fl_X6_47 rfl h_o0 pd_6_11 rfl rfl (fun s3 => ?_)
      exact zj_vret hr dX6_addStep_39
    · exact zj_vret hr dX6_addStep_39) hm
def m_X6_addSignStep (o0 : Nat) (p1 : Int32) (s : zSt) : Option (zSt) :=
  (if p1 = 0 then
  some s
  else
  zcv (m_X6_addStep o0 p1 0 s) (fun s1 => some s1))
set_option maxRecDepth 100000 in
theorem c_X6_addSignStep {w : zWC} {o0 : Nat} {p1 : Int32} {s : zSt} (h_o0 : zC o0 = 6) {a : zSt} (hm : m_X6_addSignStep o0 p1 s = some a) : zCn w 1 yX6_addSignStep cX6_addSignStep 2 none [.ref (zb w + o0), .int p1] s (zeV a).1 (zeV a).2 :=
  zCn_of (own := RX6) (lv := [some (.ref (zb w + o0)), some (.int p1)]) (by decide +kernel) rfl (Nat.le_of_ble_eq_true rfl) rfl (fun x hr => by
    unfold m_X6_addSignStep
    refine zj_iload_n dX6_addSignStep_0 rfl ?_
    refine zj_if_eq (tgt := 10) dX6_addSignStep_1 (by decide) ?_ ?_
    · exact zj_vret hr dX6_addSignStep_10
    · refine zj_aload_n dX6_addSignStep_4 rfl ?_
      refine zj_iload_n dX6_addSignStep_5 rfl ?_
      refine zj_iconst dX6_addSignStep_6 zic_0 ?_
      refine zj_cVV2 ml_X6_94 (fun a h => c_X6_addStep h_o0 h) h_o0 rfl (Nat.le_of_ble_eq_true rfl) (Nat.le_of_ble_eq_true rfl) dX6_addSignStep_7 (fun s1 => ?_)
      exact zj_vret hr dX6_addSignStep_10) hm
def m_X6_readUnit_140 (fr : Nat → Nat → Int32 → zSt → Option (Int32 × zSt)) (o0 : Nat) (o1 : Nat) (p2 : Int32) (t0 : Int32) (s : zSt) : Option (Int32 × zSt) :=
  (if t0 = (-1) then
  zcl (m_X3_refuse o1 5 s) (fun r3 s2 => (if r3 = 0 ∨ r3 = 1 then some (r3, s2) else none))
  else
  zcv (m_X6_addStep o0 (zI s o1 4) t0 s) (fun s4 => zcv (m_X3_advance o1 s4) (fun s5 => some (1, s5))))
set_option maxRecDepth 100000 in
theorem j_X6_readUnit_140 {o0 : Nat} {o1 : Nat} {p2 : Int32} {t0 : Int32} {s : zSt} {w : zWC} {x : zCX} {lev : Nat} (hr : zrt x = (some .boolean)) {lev0 : Nat} (hlv : lev0 + 1 ≤ lev) {fr : Nat → Nat → Int32 → zSt → Option (Int32 × zSt)} (hfr : ∀ (o0 : Nat) (o1 : Nat) (p2 : Int32) (s : zSt) (a : Int32 × zSt), zC o0 = 6 → zC o1 = 3 → fr o0 o1 p2 s = some a → zCn w lev0 yX6_readExpression cX6_readExpression 6 (some .boolean) [.ref (zb w + o0), .ref (zb w + o1), .int p2] s (zeI a).1 (zeI a).2) (hle : 3 ≤ lev) (h_o0 : zC o0 = 6) (h_o1 : zC o1 = 3) : zJ (zQf w x zeI) w x RX6 cX6_readUnit 5 lev (m_X6_readUnit_140 fr o0 o1 p2 t0 s) 140 [some (.ref (zb w + o0)), some (.ref (zb w + o1)), none, none, none] [.int t0] s := by
  unfold m_X6_readUnit_140
  refine zj_istore (lv' := [some (.ref (zb w + o0)), some (.ref (zb w + o1)), none, none, some (.int t0)]) dX6_readUnit_140 (by decide) rfl rfl ?_
  refine zj_iload dX6_readUnit_142 rfl ?_
  refine zj_iconst dX6_readUnit_144 zic_m1 ?_
  refine zj_icmp_ne (tgt := 154) dX6_readUnit_145 (by decide) ?_ ?_
  · refine zj_aload_n dX6_readUnit_148 rfl ?_
    refine zj_iconst dX6_readUnit_149 zic_5 ?_
    refine zj_cVI1 ml_X6_62 (fun a h => c_X3_refuse h_o1 h) h_o1 rfl (Nat.le_trans (by decide : 2 ≤ 3) hle) (Nat.le_of_ble_eq_true rfl) dX6_readUnit_150 (fun r3 s2 => ?_)
    exact zj_zretG hr dX6_readUnit_153
  · refine zj_aload_n dX6_readUnit_154 rfl ?_
    refine zj_aload_n dX6_readUnit_155 rfl ?_
    refine zj_getI dX6_readUnit_156 fl_X6_50 rfl h_o1 ?_
    refine zj_iload dX6_readUnit_159 rfl ?_
    refine zj_cVV2 ml_X6_94 (fun a h => c_X6_addStep h_o0 h) h_o0 rfl (Nat.le_trans (by decide : 1 ≤ 3) hle) (Nat.le_of_ble_eq_true rfl) dX6_readUnit_161 (fun s4 => ?_)
    refine zj_aload_n dX6_readUnit_164 rfl ?_
    refine zj_cVV0 ml_X6_91 (fun a h => c_X3_advance h_o1 h) h_o1 rfl (Nat.le_trans (by decide : 2 ≤ 3) hle) (Nat.le_of_ble_eq_true rfl) dX6_readUnit_165 (fun s5 => ?_)
    refine zj_iconst dX6_readUnit_168 zic_1 ?_
    exact zj_zret hr rfl dX6_readUnit_169
def m_X6_readUnit_66 (fr : Nat → Nat → Int32 → zSt → Option (Int32 × zSt)) (o0 : Nat) (o1 : Nat) (p2 : Int32) (l3 : Int32) (s : zSt) : Option (Int32 × zSt) :=
  zlt (zsI s o0 1 ((zI s o0 1) + 1)) (fun s1 => (if l3 = 0 then
  (if zI s1 o1 4 = 3 then
    m_X6_readUnit_140 fr o0 o1 p2 (zI s1 o1 6) s1
    else
    zcl (m_X8_indexOf (zT o0 4) (zI s1 o0 0) (zL s1 o1 7) s1) (fun r7 s6 => m_X6_readUnit_140 fr o0 o1 p2 r7 s6))
  else
  zcv (m_X3_advance o1 s1) (fun s8 => zcl (fr o0 o1 (p2 + 1) s8) (fun r10 s9 => (if r10 = 0 then
    some (0, s9)
    else
    zcl (m_X3_take o1 41 s9) (fun r12 s11 => (if r12 = 0 then
      some (0, s11)
      else
      some (1, s11))))))))
set_option maxRecDepth 100000 in
theorem j_X6_readUnit_66 {o0 : Nat} {o1 : Nat} {p2 : Int32} {l3 : Int32} {s : zSt} {w : zWC} {x : zCX} {lev : Nat} (hr : zrt x = (some .boolean)) {lev0 : Nat} (hlv : lev0 + 1 ≤ lev) {fr : Nat → Nat → Int32 → zSt → Option (Int32 × zSt)} (hfr : ∀ (o0 : Nat) (o1 : Nat) (p2 : Int32) (s : zSt) (a : Int32 × zSt), zC o0 = 6 → zC o1 = 3 → fr o0 o1 p2 s = some a → zCn w lev0 yX6_readExpression cX6_readExpression 6 (some .boolean) [.ref (zb w + o0), .ref (zb w + o1), .int p2] s (zeI a).1 (zeI a).2) (hle : 3 ≤ lev) (h_o0 : zC o0 = 6) (h_o1 : zC o1 = 3) : zJ (zQf w x zeI) w x RX6 cX6_readUnit 5 lev (m_X6_readUnit_66 fr o0 o1 p2 l3 s) 66 [some (.ref (zb w + o0)), some (.ref (zb w + o1)), some (.int p2), some (.int l3), none] [] s := by
  unfold m_X6_readUnit_66
  refine zj_aload_n dX6_readUnit_66 rfl ?_
  refine zj_dup dX6_readUnit_67 rfl ?_
  refine zj_getI dX6_readUnit_68 fl_X6_15 rfl h_o0 ?_
  refine zj_iconst dX6_readUnit_71 zic_1 ?_
  refine zj_iadd dX6_readUnit_72 ?_
  refine zj_putI dX6_readUnit_73 fl_X6_15 rfl h_o0 pd_6_1 rfl rfl (fun s1 => ?_)
  refine zj_iload_n dX6_readUnit_76 rfl ?_
  refine zj_if_eq (tgt := 110) dX6_readUnit_77 (by decide) ?_ ?_
  · refine zj_aload_n dX6_readUnit_110 rfl ?_
    refine zj_getI dX6_readUnit_111 fl_X6_50 rfl h_o1 ?_
    refine zj_iconst dX6_readUnit_114 zic_3 ?_
    refine zj_icmp_ne (tgt := 125) dX6_readUnit_115 (by decide) ?_ ?_
    · refine zj_aload_n dX6_readUnit_118 rfl ?_
      refine zj_getI dX6_readUnit_119 fl_X6_98 rfl h_o1 ?_
      refine zj_goto (tgt := 140) dX6_readUnit_122 (by decide) ?_
      refine zj_weak [true, true, false, false, false] rfl ?_
      exact j_X6_readUnit_140 hr hlv hfr hle h_o0 h_o1
    · refine zj_aload_n dX6_readUnit_125 rfl ?_
      refine zj_getT dX6_readUnit_126 fl_X6_25 rfl h_o0 ?_
      refine zj_aload_n dX6_readUnit_129 rfl ?_
      refine zj_getI dX6_readUnit_130 fl_X6_9 rfl h_o0 ?_
      refine zj_aload_n dX6_readUnit_133 rfl ?_
      refine zj_getL dX6_readUnit_134 fl_X6_101 rfl h_o1 ?_
      refine zj_cNI3 ml_X6_105 (fun a h => c_X8_indexOf (zt_6_4 _ h_o0) h) (Nat.le_trans (by decide : 1 ≤ 3) hle) (Nat.le_of_ble_eq_true rfl) dX6_readUnit_137 (fun r7 s6 => ?_)
      refine zj_weak [true, true, false, false, false] rfl ?_
      exact j_X6_readUnit_140 hr hlv hfr hle h_o0 h_o1
  · refine zj_aload_n dX6_readUnit_80 rfl ?_
    refine zj_cVV0 ml_X6_91 (fun a h => c_X3_advance h_o1 h) h_o1 rfl (Nat.le_trans (by decide : 2 ≤ 3) hle) (Nat.le_of_ble_eq_true rfl) dX6_readUnit_81 (fun s8 => ?_)
    refine zj_aload_n dX6_readUnit_84 rfl ?_
    refine zj_aload_n dX6_readUnit_85 rfl ?_
    refine zj_iload_n dX6_readUnit_86 rfl ?_
    refine zj_iconst dX6_readUnit_87 zic_1 ?_
    refine zj_iadd dX6_readUnit_88 ?_
    refine zj_cVI2 ml_X6_73 (fun a h => hfr _ _ _ _ _ h_o0 h_o1 h) h_o0 rfl hlv (Nat.le_of_ble_eq_true rfl) dX6_readUnit_89 (fun r10 s9 => ?_)
    refine zj_if_eq (tgt := 108) dX6_readUnit_92 (by decide) ?_ ?_
    · refine zj_iconst dX6_readUnit_108 zic_0 ?_
      exact zj_zret hr rfl dX6_readUnit_109
    · refine zj_aload_n dX6_readUnit_95 rfl ?_
      refine zj_bipush dX6_readUnit_96 zbi_41 ?_
      refine zj_cVI1 ml_X6_70 (fun a h => c_X3_take h_o1 h) h_o1 rfl (Nat.le_trans (by decide : 3 ≤ 3) hle) (Nat.le_of_ble_eq_true rfl) dX6_readUnit_98 (fun r12 s11 => ?_)
      refine zj_if_eq (tgt := 108) dX6_readUnit_101 (by decide) ?_ ?_
      · refine zj_iconst dX6_readUnit_108 zic_0 ?_
        exact zj_zret hr rfl dX6_readUnit_109
      · refine zj_iconst dX6_readUnit_104 zic_1 ?_
        refine zj_goto (tgt := 109) dX6_readUnit_105 (by decide) ?_
        exact zj_zret hr rfl dX6_readUnit_109
def m_X6_readUnit_60 (fr : Nat → Nat → Int32 → zSt → Option (Int32 × zSt)) (o0 : Nat) (o1 : Nat) (p2 : Int32) (s : zSt) : Option (Int32 × zSt) :=
  zcl (m_X3_refuse o1 2 s) (fun r14 s13 => (if r14 = 0 ∨ r14 = 1 then some (r14, s13) else none))
set_option maxRecDepth 100000 in
theorem j_X6_readUnit_60 {o0 : Nat} {o1 : Nat} {p2 : Int32} {s : zSt} {w : zWC} {x : zCX} {lev : Nat} (hr : zrt x = (some .boolean)) {lev0 : Nat} (hlv : lev0 + 1 ≤ lev) {fr : Nat → Nat → Int32 → zSt → Option (Int32 × zSt)} (hfr : ∀ (o0 : Nat) (o1 : Nat) (p2 : Int32) (s : zSt) (a : Int32 × zSt), zC o0 = 6 → zC o1 = 3 → fr o0 o1 p2 s = some a → zCn w lev0 yX6_readExpression cX6_readExpression 6 (some .boolean) [.ref (zb w + o0), .ref (zb w + o1), .int p2] s (zeI a).1 (zeI a).2) (hle : 3 ≤ lev) (h_o0 : zC o0 = 6) (h_o1 : zC o1 = 3) : zJ (zQf w x zeI) w x RX6 cX6_readUnit 5 lev (m_X6_readUnit_60 fr o0 o1 p2 s) 60 [none, some (.ref (zb w + o1)), none, none, none] [] s := by
  unfold m_X6_readUnit_60
  refine zj_aload_n dX6_readUnit_60 rfl ?_
  refine zj_iconst dX6_readUnit_61 zic_2 ?_
  refine zj_cVI1 ml_X6_62 (fun a h => c_X3_refuse h_o1 h) h_o1 rfl (Nat.le_trans (by decide : 2 ≤ 3) hle) (Nat.le_of_ble_eq_true rfl) dX6_readUnit_62 (fun r14 s13 => ?_)
  exact zj_zretG hr dX6_readUnit_65
def m_X6_readUnit_41 (fr : Nat → Nat → Int32 → zSt → Option (Int32 × zSt)) (o0 : Nat) (o1 : Nat) (p2 : Int32) (l3 : Int32) (s : zSt) : Option (Int32 × zSt) :=
  (if zI s o0 1 < 60 then
  (if l3 = 0 then
    m_X6_readUnit_66 fr o0 o1 p2 l3 s
    else
    (if 6 < p2 then
      m_X6_readUnit_60 fr o0 o1 p2 s
      else
      m_X6_readUnit_66 fr o0 o1 p2 l3 s))
  else
  m_X6_readUnit_60 fr o0 o1 p2 s)
set_option maxRecDepth 100000 in
theorem j_X6_readUnit_41 {o0 : Nat} {o1 : Nat} {p2 : Int32} {l3 : Int32} {s : zSt} {w : zWC} {x : zCX} {lev : Nat} (hr : zrt x = (some .boolean)) {lev0 : Nat} (hlv : lev0 + 1 ≤ lev) {fr : Nat → Nat → Int32 → zSt → Option (Int32 × zSt)} (hfr : ∀ (o0 : Nat) (o1 : Nat) (p2 : Int32) (s : zSt) (a : Int32 × zSt), zC o0 = 6 → zC o1 = 3 → fr o0 o1 p2 s = some a → zCn w lev0 yX6_readExpression cX6_readExpression 6 (some .boolean) [.ref (zb w + o0), .ref (zb w + o1), .int p2] s (zeI a).1 (zeI a).2) (hle : 3 ≤ lev) (h_o0 : zC o0 = 6) (h_o1 : zC o1 = 3) : zJ (zQf w x zeI) w x RX6 cX6_readUnit 5 lev (m_X6_readUnit_41 fr o0 o1 p2 l3 s) 41 [some (.ref (zb w + o0)), some (.ref (zb w + o1)), some (.int p2), some (.int l3), none] [] s := by
  unfold m_X6_readUnit_41
  refine zj_aload_n dX6_readUnit_41 rfl ?_
  refine zj_getI dX6_readUnit_42 fl_X6_15 rfl h_o0 ?_
  refine zj_bipush dX6_readUnit_45 zbi_60 ?_
  refine zj_icmp_ge (tgt := 60) dX6_readUnit_47 (by decide) ?_ ?_
  · refine zj_iload_n dX6_readUnit_50 rfl ?_
    refine zj_if_eq (tgt := 66) dX6_readUnit_51 (by decide) ?_ ?_
    · exact j_X6_readUnit_66 hr hlv hfr hle h_o0 h_o1
    · refine zj_iload_n dX6_readUnit_54 rfl ?_
      refine zj_bipush dX6_readUnit_55 zbi_6 ?_
      refine zj_icmp_le (tgt := 66) dX6_readUnit_57 (by decide) ?_ ?_
      · refine zj_weak [false, true, false, false, false] rfl ?_
        exact j_X6_readUnit_60 hr hlv hfr hle h_o0 h_o1
      · exact j_X6_readUnit_66 hr hlv hfr hle h_o0 h_o1
  · refine zj_weak [false, true, false, false, false] rfl ?_
    exact j_X6_readUnit_60 hr hlv hfr hle h_o0 h_o1
def m_X6_readUnit_14 (fr : Nat → Nat → Int32 → zSt → Option (Int32 × zSt)) (o0 : Nat) (o1 : Nat) (p2 : Int32) (t0 : Int32) (s : zSt) : Option (Int32 × zSt) :=
  (if t0 = 0 then
  (if zI s o1 4 = 3 then
    m_X6_readUnit_41 fr o0 o1 p2 t0 s
    else
    (if zI s o1 4 = 2 then
      m_X6_readUnit_41 fr o0 o1 p2 t0 s
      else
      zcl (m_X3_refuse o1 2 s) (fun r16 s15 => (if r16 = 0 ∨ r16 = 1 then some (r16, s15) else none))))
  else
  m_X6_readUnit_41 fr o0 o1 p2 t0 s)
set_option maxRecDepth 100000 in
theorem j_X6_readUnit_14 {o0 : Nat} {o1 : Nat} {p2 : Int32} {t0 : Int32} {s : zSt} {w : zWC} {x : zCX} {lev : Nat} (hr : zrt x = (some .boolean)) {lev0 : Nat} (hlv : lev0 + 1 ≤ lev) {fr : Nat → Nat → Int32 → zSt → Option (Int32 × zSt)} (hfr : ∀ (o0 : Nat) (o1 : Nat) (p2 : Int32) (s : zSt) (a : Int32 × zSt), zC o0 = 6 → zC o1 = 3 → fr o0 o1 p2 s = some a → zCn w lev0 yX6_readExpression cX6_readExpression 6 (some .boolean) [.ref (zb w + o0), .ref (zb w + o1), .int p2] s (zeI a).1 (zeI a).2) (hle : 3 ≤ lev) (h_o0 : zC o0 = 6) (h_o1 : zC o1 = 3) : zJ (zQf w x zeI) w x RX6 cX6_readUnit 5 lev (m_X6_readUnit_14 fr o0 o1 p2 t0 s) 14 [some (.ref (zb w + o0)), some (.ref (zb w + o1)), some (.int p2), none, none] [.int t0] s := by
  unfold m_X6_readUnit_14
  refine zj_istore_n (lv' := [some (.ref (zb w + o0)), some (.ref (zb w + o1)), some (.int p2), some (.int t0), none]) dX6_readUnit_14 rfl (by decide) rfl rfl ?_
  refine zj_iload_n dX6_readUnit_15 rfl ?_
  refine zj_if_ne (tgt := 41) dX6_readUnit_16 (by decide) ?_ ?_
  · refine zj_aload_n dX6_readUnit_19 rfl ?_
    refine zj_getI dX6_readUnit_20 fl_X6_50 rfl h_o1 ?_
    refine zj_iconst dX6_readUnit_23 zic_3 ?_
    refine zj_icmp_eq (tgt := 41) dX6_readUnit_24 (by decide) ?_ ?_
    · exact j_X6_readUnit_41 hr hlv hfr hle h_o0 h_o1
    · refine zj_aload_n dX6_readUnit_27 rfl ?_
      refine zj_getI dX6_readUnit_28 fl_X6_50 rfl h_o1 ?_
      refine zj_iconst dX6_readUnit_31 zic_2 ?_
      refine zj_icmp_eq (tgt := 41) dX6_readUnit_32 (by decide) ?_ ?_
      · exact j_X6_readUnit_41 hr hlv hfr hle h_o0 h_o1
      · refine zj_aload_n dX6_readUnit_35 rfl ?_
        refine zj_iconst dX6_readUnit_36 zic_2 ?_
        refine zj_cVI1 ml_X6_62 (fun a h => c_X3_refuse h_o1 h) h_o1 rfl (Nat.le_trans (by decide : 2 ≤ 3) hle) (Nat.le_of_ble_eq_true rfl) dX6_readUnit_37 (fun r16 s15 => ?_)
        exact zj_zretG hr dX6_readUnit_40
  · exact j_X6_readUnit_41 hr hlv hfr hle h_o0 h_o1
def f_X6_readUnit (fr : Nat → Nat → Int32 → zSt → Option (Int32 × zSt)) (o0 : Nat) (o1 : Nat) (p2 : Int32) (s : zSt) : Option (Int32 × zSt) :=
  (if zI s o1 4 = 40 then
  m_X6_readUnit_14 fr o0 o1 p2 1 s
  else
  m_X6_readUnit_14 fr o0 o1 p2 0 s)
set_option maxRecDepth 100000 in
theorem cf_X6_readUnit {w : zWC} {lev : Nat} {lev0 : Nat} (hlv : lev0 + 1 ≤ lev) {fr : Nat → Nat → Int32 → zSt → Option (Int32 × zSt)} (hfr : ∀ (o0 : Nat) (o1 : Nat) (p2 : Int32) (s : zSt) (a : Int32 × zSt), zC o0 = 6 → zC o1 = 3 → fr o0 o1 p2 s = some a → zCn w lev0 yX6_readExpression cX6_readExpression 6 (some .boolean) [.ref (zb w + o0), .ref (zb w + o1), .int p2] s (zeI a).1 (zeI a).2) (hle : 3 ≤ lev) {o0 : Nat} {o1 : Nat} {p2 : Int32} {s : zSt} (h_o0 : zC o0 = 6) (h_o1 : zC o1 = 3) {a : Int32 × zSt} (hm : f_X6_readUnit fr o0 o1 p2 s = some a) : zCn w lev yX6_readUnit cX6_readUnit 5 (some .boolean) [.ref (zb w + o0), .ref (zb w + o1), .int p2] s (zeI a).1 (zeI a).2 :=
  zCn_of (own := RX6) (lv := [some (.ref (zb w + o0)), some (.ref (zb w + o1)), some (.int p2), none, none]) (by decide +kernel) rfl (Nat.le_of_ble_eq_true rfl) rfl (fun x hr => by
    unfold f_X6_readUnit
    refine zj_aload_n dX6_readUnit_0 rfl ?_
    refine zj_getI dX6_readUnit_1 fl_X6_50 rfl h_o1 ?_
    refine zj_bipush dX6_readUnit_4 zbi_40 ?_
    refine zj_icmp_ne (tgt := 13) dX6_readUnit_6 (by decide) ?_ ?_
    · refine zj_iconst dX6_readUnit_9 zic_1 ?_
      refine zj_goto (tgt := 14) dX6_readUnit_10 (by decide) ?_
      exact j_X6_readUnit_14 hr hlv hfr hle h_o0 h_o1
    · refine zj_iconst dX6_readUnit_13 zic_0 ?_
      exact j_X6_readUnit_14 hr hlv hfr hle h_o0 h_o1) hm
def m_X6_readExpression_92 (fr : Nat → Nat → Int32 → zSt → Option (Int32 × zSt)) (o0 : Nat) (o1 : Nat) (p2 : Int32) (rec8 : Int32 → Int32 → Int32 → zSt → Option (Int32 × zSt)) (l3 : Int32) (l4 : Int32) (l5 : Int32) (s : zSt) : Option (Int32 × zSt) :=
  zcv (m_X3_advance o1 s) (fun s4 => rec8 l3 l4 (l5 + 1) s4)
set_option maxRecDepth 100000 in
theorem j_X6_readExpression_92 {o0 : Nat} {o1 : Nat} {p2 : Int32} {rec8 : Int32 → Int32 → Int32 → zSt → Option (Int32 × zSt)} {l3 : Int32} {l4 : Int32} {l5 : Int32} {s : zSt} {w : zWC} {x : zCX} {lev : Nat} (hr : zrt x = (some .boolean)) {lev0 : Nat} (hlv : lev0 + 1 ≤ lev) {fr : Nat → Nat → Int32 → zSt → Option (Int32 × zSt)} (hfr : ∀ (o0 : Nat) (o1 : Nat) (p2 : Int32) (s : zSt) (a : Int32 × zSt), zC o0 = 6 → zC o1 = 3 → fr o0 o1 p2 s = some a → zCn w lev0 yX6_readUnit cX6_readUnit 5 (some .boolean) [.ref (zb w + o0), .ref (zb w + o1), .int p2] s (zeI a).1 (zeI a).2) (hle : 2 ≤ lev) (h_o0 : zC o0 = 6) (h_o1 : zC o1 = 3) (h_rec8 : ∀ (l3 : Int32) (l4 : Int32) (l5 : Int32) (s : zSt), zJ (zQf w x zeI) w x RX6 cX6_readExpression 6 lev (rec8 l3 l4 l5 s) 8 [some (.ref (zb w + o0)), some (.ref (zb w + o1)), some (.int p2), some (.int l3), some (.int l4), some (.int l5)] [] s) : zJ (zQf w x zeI) w x RX6 cX6_readExpression 6 lev (m_X6_readExpression_92 fr o0 o1 p2 rec8 l3 l4 l5 s) 92 [some (.ref (zb w + o0)), some (.ref (zb w + o1)), some (.int p2), some (.int l3), some (.int l4), some (.int l5)] [] s := by
  unfold m_X6_readExpression_92
  refine zj_aload_n dX6_readExpression_92 rfl ?_
  refine zj_cVV0 ml_X6_91 (fun a h => c_X3_advance h_o1 h) h_o1 rfl (Nat.le_trans (by decide : 2 ≤ 2) hle) (Nat.le_of_ble_eq_true rfl) dX6_readExpression_93 (fun s4 => ?_)
  refine zj_iinc (v2 := l5 + 1) (lv' := [some (.ref (zb w + o0)), some (.ref (zb w + o1)), some (.int p2), some (.int l3), some (.int l4), some (.int (l5 + 1))]) dX6_readExpression_96 rfl (by rw [zic_1]) (by decide) rfl rfl ?_
  refine zj_goto (tgt := 8) dX6_readExpression_99 (by decide) ?_
  exact h_rec8 _ _ _ _
def m_X6_readExpression_53 (fr : Nat → Nat → Int32 → zSt → Option (Int32 × zSt)) (o0 : Nat) (o1 : Nat) (p2 : Int32) (rec8 : Int32 → Int32 → Int32 → zSt → Option (Int32 × zSt)) (l3 : Int32) (l5 : Int32) (s : zSt) : Option (Int32 × zSt) :=
  m_X6_readExpression_92 fr o0 o1 p2 rec8 l3 (zI s o1 4) l5 s
set_option maxRecDepth 100000 in
theorem j_X6_readExpression_53 {o0 : Nat} {o1 : Nat} {p2 : Int32} {rec8 : Int32 → Int32 → Int32 → zSt → Option (Int32 × zSt)} {l3 : Int32} {l5 : Int32} {s : zSt} {w : zWC} {x : zCX} {lev : Nat} (hr : zrt x = (some .boolean)) {lev0 : Nat} (hlv : lev0 + 1 ≤ lev) {fr : Nat → Nat → Int32 → zSt → Option (Int32 × zSt)} (hfr : ∀ (o0 : Nat) (o1 : Nat) (p2 : Int32) (s : zSt) (a : Int32 × zSt), zC o0 = 6 → zC o1 = 3 → fr o0 o1 p2 s = some a → zCn w lev0 yX6_readUnit cX6_readUnit 5 (some .boolean) [.ref (zb w + o0), .ref (zb w + o1), .int p2] s (zeI a).1 (zeI a).2) (hle : 2 ≤ lev) (h_o0 : zC o0 = 6) (h_o1 : zC o1 = 3) (h_rec8 : ∀ (l3 : Int32) (l4 : Int32) (l5 : Int32) (s : zSt), zJ (zQf w x zeI) w x RX6 cX6_readExpression 6 lev (rec8 l3 l4 l5 s) 8 [some (.ref (zb w + o0)), some (.ref (zb w + o1)), some (.int p2), some (.int l3), some (.int l4), some (.int l5)] [] s) : zJ (zQf w x zeI) w x RX6 cX6_readExpression 6 lev (m_X6_readExpression_53 fr o0 o1 p2 rec8 l3 l5 s) 53 [some (.ref (zb w + o0)), some (.ref (zb w + o1)), some (.int p2), some (.int l3), none, some (.int l5)] [] s := by
  unfold m_X6_readExpression_53
  refine zj_aload_n dX6_readExpression_53 rfl ?_
  refine zj_getI dX6_readExpression_54 fl_X6_50 rfl h_o1 ?_
  refine zj_istore (lv' := [some (.ref (zb w + o0)), some (.ref (zb w + o1)), some (.int p2), some (.int l3), some (.int (zI s o1 4)), some (.int l5)]) dX6_readExpression_57 (by decide) rfl rfl ?_
  refine zj_goto (tgt := 92) dX6_readExpression_59 (by decide) ?_
  exact j_X6_readExpression_92 hr hlv hfr hle h_o0 h_o1 h_rec8
def m_X6_readExpression_87 (fr : Nat → Nat → Int32 → zSt → Option (Int32 × zSt)) (o0 : Nat) (o1 : Nat) (p2 : Int32) (rec8 : Int32 → Int32 → Int32 → zSt → Option (Int32 × zSt)) (l4 : Int32) (l5 : Int32) (s : zSt) : Option (Int32 × zSt) :=
  m_X6_readExpression_92 fr o0 o1 p2 rec8 (zI s o1 4) l4 l5 s
set_option maxRecDepth 100000 in
theorem j_X6_readExpression_87 {o0 : Nat} {o1 : Nat} {p2 : Int32} {rec8 : Int32 → Int32 → Int32 → zSt → Option (Int32 × zSt)} {l4 : Int32} {l5 : Int32} {s : zSt} {w : zWC} {x : zCX} {lev : Nat} (hr : zrt x = (some .boolean)) {lev0 : Nat} (hlv : lev0 + 1 ≤ lev) {fr : Nat → Nat → Int32 → zSt → Option (Int32 × zSt)} (hfr : ∀ (o0 : Nat) (o1 : Nat) (p2 : Int32) (s : zSt) (a : Int32 × zSt), zC o0 = 6 → zC o1 = 3 → fr o0 o1 p2 s = some a → zCn w lev0 yX6_readUnit cX6_readUnit 5 (some .boolean) [.ref (zb w + o0), .ref (zb w + o1), .int p2] s (zeI a).1 (zeI a).2) (hle : 2 ≤ lev) (h_o0 : zC o0 = 6) (h_o1 : zC o1 = 3) (h_rec8 : ∀ (l3 : Int32) (l4 : Int32) (l5 : Int32) (s : zSt), zJ (zQf w x zeI) w x RX6 cX6_readExpression 6 lev (rec8 l3 l4 l5 s) 8 [some (.ref (zb w + o0)), some (.ref (zb w + o1)), some (.int p2), some (.int l3), some (.int l4), some (.int l5)] [] s) : zJ (zQf w x zeI) w x RX6 cX6_readExpression 6 lev (m_X6_readExpression_87 fr o0 o1 p2 rec8 l4 l5 s) 87 [some (.ref (zb w + o0)), some (.ref (zb w + o1)), some (.int p2), none, some (.int l4), some (.int l5)] [] s := by
  unfold m_X6_readExpression_87
  refine zj_aload_n dX6_readExpression_87 rfl ?_
  refine zj_getI dX6_readExpression_88 fl_X6_50 rfl h_o1 ?_
  refine zj_istore_n (lv' := [some (.ref (zb w + o0)), some (.ref (zb w + o1)), some (.int p2), some (.int (zI s o1 4)), some (.int l4), some (.int l5)]) dX6_readExpression_91 rfl (by decide) rfl rfl ?_
  exact j_X6_readExpression_92 hr hlv hfr hle h_o0 h_o1 h_rec8
def bd_X6_readExpression_8 (fr : Nat → Nat → Int32 → zSt → Option (Int32 × zSt)) (o0 : Nat) (o1 : Nat) (p2 : Int32) (rec8 : Int32 → Int32 → Int32 → zSt → Option (Int32 × zSt)) (l3 : Int32) (l4 : Int32) (l5 : Int32) (s : zSt) : Option (Int32 × zSt) :=
  (if 60 < l5 then
  some (0, s)
  else
  zcl (fr o0 o1 p2 s) (fun r2 s1 => (if r2 = 0 then
    some (0, s1)
    else
    zcv (m_X6_addSignStep o0 l4 s1) (fun s3 => (if zI s3 o1 4 = 42 then
      m_X6_readExpression_53 fr o0 o1 p2 rec8 l3 l5 s3
      else
      (if zI s3 o1 4 = 47 then
        m_X6_readExpression_53 fr o0 o1 p2 rec8 l3 l5 s3
        else
        zcv (m_X6_addSignStep o0 l3 s3) (fun s5 => (if zI s5 o1 4 = 43 then
          m_X6_readExpression_87 fr o0 o1 p2 rec8 0 l5 s5
          else
          (if zI s5 o1 4 = 45 then
            m_X6_readExpression_87 fr o0 o1 p2 rec8 0 l5 s5
            else
            some (1, s5))))))))))
def lp_X6_readExpression_8 (fr : Nat → Nat → Int32 → zSt → Option (Int32 × zSt)) (o0 : Nat) (o1 : Nat) (p2 : Int32) : Nat → Int32 → Int32 → Int32 → zSt → Option (Int32 × zSt)
  | 0, _, _, _, _ => none
  | n + 1, l3, l4, l5, s => bd_X6_readExpression_8 fr o0 o1 p2 (fun l3 l4 l5 s => lp_X6_readExpression_8 fr o0 o1 p2 n l3 l4 l5 s) l3 l4 l5 s
set_option maxRecDepth 100000 in
theorem jb_X6_readExpression_8 {o0 : Nat} {o1 : Nat} {p2 : Int32} {rec8 : Int32 → Int32 → Int32 → zSt → Option (Int32 × zSt)} {l3 : Int32} {l4 : Int32} {l5 : Int32} {s : zSt} {w : zWC} {x : zCX} {lev : Nat} (hr : zrt x = (some .boolean)) {lev0 : Nat} (hlv : lev0 + 1 ≤ lev) {fr : Nat → Nat → Int32 → zSt → Option (Int32 × zSt)} (hfr : ∀ (o0 : Nat) (o1 : Nat) (p2 : Int32) (s : zSt) (a : Int32 × zSt), zC o0 = 6 → zC o1 = 3 → fr o0 o1 p2 s = some a → zCn w lev0 yX6_readUnit cX6_readUnit 5 (some .boolean) [.ref (zb w + o0), .ref (zb w + o1), .int p2] s (zeI a).1 (zeI a).2) (hle : 2 ≤ lev) (h_o0 : zC o0 = 6) (h_o1 : zC o1 = 3) (h_rec8 : ∀ (l3 : Int32) (l4 : Int32) (l5 : Int32) (s : zSt), zJ (zQf w x zeI) w x RX6 cX6_readExpression 6 lev (rec8 l3 l4 l5 s) 8 [some (.ref (zb w + o0)), some (.ref (zb w + o1)), some (.int p2), some (.int l3), some (.int l4), some (.int l5)] [] s) : zJ (zQf w x zeI) w x RX6 cX6_readExpression 6 lev (bd_X6_readExpression_8 fr o0 o1 p2 rec8 l3 l4 l5 s) 8 [some (.ref (zb w + o0)), some (.ref (zb w + o1)), some (.int p2), some (.int l3), some (.int l4), some (.int l5)] [] s := by
  unfold bd_X6_readExpression_8
  refine zj_iload dX6_readExpression_8 rfl ?_
  refine zj_bipush dX6_readExpression_10 zbi_60 ?_
  refine zj_icmp_gt (tgt := 102) dX6_readExpression_12 (by decide) ?_ ?_
  · refine zj_iconst dX6_readExpression_102 zic_0 ?_
    exact zj_zret hr rfl dX6_readExpression_103
  · refine zj_aload_n dX6_readExpression_15 rfl ?_
    refine zj_aload_n dX6_readExpression_16 rfl ?_
    refine zj_iload_n dX6_readExpression_17 rfl ?_
    refine zj_cVI2 ml_X6_84 (fun a h => hfr _ _ _ _ _ h_o0 h_o1 h) h_o0 rfl hlv (Nat.le_of_ble_eq_true rfl) dX6_readExpression_18 (fun r2 s1 => ?_)
    refine zj_if_ne (tgt := 26) dX6_readExpression_21 (by decide) ?_ ?_
    · refine zj_iconst dX6_readExpression_24 zic_0 ?_
      exact zj_zret hr rfl dX6_readExpression_25
    · refine zj_aload_n dX6_readExpression_26 rfl ?_
      refine zj_iload dX6_readExpression_27 rfl ?_
      refine zj_cVV1 ml_X6_87 (fun a h => c_X6_addSignStep h_o0 h) h_o0 rfl (Nat.le_trans (by decide : 2 ≤ 2) hle) (Nat.le_of_ble_eq_true rfl) dX6_readExpression_29 (fun s3 => ?_)
      refine zj_iconst dX6_readExpression_32 zic_0 ?_
      refine zj_istore (lv' := [some (.ref (zb w + o0)), some (.ref (zb w + o1)), some (.int p2), some (.int l3), some (.int 0), some (.int l5)]) dX6_readExpression_33 (by decide) rfl rfl ?_
      refine zj_aload_n dX6_readExpression_35 rfl ?_
      refine zj_getI dX6_readExpression_36 fl_X6_50 rfl h_o1 ?_
      refine zj_bipush dX6_readExpression_39 zbi_42 ?_
      refine zj_icmp_eq (tgt := 53) dX6_readExpression_41 (by decide) ?_ ?_
      · refine zj_weak [true, true, true, true, false, true] rfl ?_
        exact j_X6_readExpression_53 hr hlv hfr hle h_o0 h_o1 h_rec8
      · refine zj_aload_n dX6_readExpression_44 rfl ?_
        refine zj_getI dX6_readExpression_45 fl_X6_50 rfl h_o1 ?_
        refine zj_bipush dX6_readExpression_48 zbi_47 ?_
        refine zj_icmp_ne (tgt := 62) dX6_readExpression_50 (by decide) ?_ ?_
        · refine zj_weak [true, true, true, true, false, true] rfl ?_
          exact j_X6_readExpression_53 hr hlv hfr hle h_o0 h_o1 h_rec8
        · refine zj_aload_n dX6_readExpression_62 rfl ?_
          refine zj_iload_n dX6_readExpression_63 rfl ?_
          refine zj_cVV1 ml_X6_87 (fun a h => c_X6_addSignStep h_o0 h) h_o0 rfl (Nat.le_trans (by decide : 2 ≤ 2) hle) (Nat.le_of_ble_eq_true rfl) dX6_readExpression_64 (fun s5 => ?_)
          refine zj_aload_n dX6_readExpression_67 rfl ?_
          refine zj_getI dX6_readExpression_68 fl_X6_50 rfl h_o1 ?_
          refine zj_bipush dX6_readExpression_71 zbi_43 ?_
          refine zj_icmp_eq (tgt := 87) dX6_readExpression_73 (by decide) ?_ ?_
          · refine zj_weak [true, true, true, false, true, true] rfl ?_
            exact j_X6_readExpression_87 hr hlv hfr hle h_o0 h_o1 h_rec8
          · refine zj_aload_n dX6_readExpression_76 rfl ?_
            refine zj_getI dX6_readExpression_77 fl_X6_50 rfl h_o1 ?_
            refine zj_bipush dX6_readExpression_80 zbi_45 ?_
            refine zj_icmp_eq (tgt := 87) dX6_readExpression_82 (by decide) ?_ ?_
            · refine zj_weak [true, true, true, false, true, true] rfl ?_
              exact j_X6_readExpression_87 hr hlv hfr hle h_o0 h_o1 h_rec8
            · refine zj_iconst dX6_readExpression_85 zic_1 ?_
              exact zj_zret hr rfl dX6_readExpression_86
set_option maxRecDepth 100000 in
theorem jl_X6_readExpression_8 {o0 : Nat} {o1 : Nat} {p2 : Int32} {w : zWC} {x : zCX} {lev : Nat} (hr : zrt x = (some .boolean)) {lev0 : Nat} (hlv : lev0 + 1 ≤ lev) {fr : Nat → Nat → Int32 → zSt → Option (Int32 × zSt)} (hfr : ∀ (o0 : Nat) (o1 : Nat) (p2 : Int32) (s : zSt) (a : Int32 × zSt), zC o0 = 6 → zC o1 = 3 → fr o0 o1 p2 s = some a → zCn w lev0 yX6_readUnit cX6_readUnit 5 (some .boolean) [.ref (zb w + o0), .ref (zb w + o1), .int p2] s (zeI a).1 (zeI a).2) (hle : 2 ≤ lev) (h_o0 : zC o0 = 6) (h_o1 : zC o1 = 3) : ∀ (n : Nat) (l3 : Int32) (l4 : Int32) (l5 : Int32) (s : zSt), zJ (zQf w x zeI) w x RX6 cX6_readExpression 6 lev (lp_X6_readExpression_8 fr o0 o1 p2 n l3 l4 l5 s) 8 [some (.ref (zb w + o0)), some (.ref (zb w + o1)), some (.int p2), some (.int l3), some (.int l4), some (.int l5)] [] s := by
  intro n
  induction n with
  | zero => intro l3 l4 l5 s; exact zj_none
  | succ n ih => intro l3 l4 l5 s; exact jb_X6_readExpression_8 hr hlv hfr hle h_o0 h_o1 (fun l3 l4 l5 s => ih l3 l4 l5 s)
def f_X6_readExpression (fr : Nat → Nat → Int32 → zSt → Option (Int32 × zSt)) (o0 : Nat) (o1 : Nat) (p2 : Int32) (s : zSt) : Option (Int32 × zSt) :=
  lp_X6_readExpression_8 fr o0 o1 p2 zFuel 0 0 0 s
set_option maxRecDepth 100000 in
theorem cf_X6_readExpression {w : zWC} {lev : Nat} {lev0 : Nat} (hlv : lev0 + 1 ≤ lev) {fr : Nat → Nat → Int32 → zSt → Option (Int32 × zSt)} (hfr : ∀ (o0 : Nat) (o1 : Nat) (p2 : Int32) (s : zSt) (a : Int32 × zSt), zC o0 = 6 → zC o1 = 3 → fr o0 o1 p2 s = some a → zCn w lev0 yX6_readUnit cX6_readUnit 5 (some .boolean) [.ref (zb w + o0), .ref (zb w + o1), .int p2] s (zeI a).1 (zeI a).2) (hle : 2 ≤ lev) {o0 : Nat} {o1 : Nat} {p2 : Int32} {s : zSt} (h_o0 : zC o0 = 6) (h_o1 : zC o1 = 3) {a : Int32 × zSt} (hm : f_X6_readExpression fr o0 o1 p2 s = some a) : zCn w lev yX6_readExpression cX6_readExpression 6 (some .boolean) [.ref (zb w + o0), .ref (zb w + o1), .int p2] s (zeI a).1 (zeI a).2 :=
  zCn_of (own := RX6) (lv := [some (.ref (zb w + o0)), some (.ref (zb w + o1)), some (.int p2), none, none, none]) (by decide +kernel) rfl (Nat.le_of_ble_eq_true rfl) rfl (fun x hr => by
    unfold f_X6_readExpression
    refine zj_iconst dX6_readExpression_0 zic_0 ?_
    refine zj_istore_n (lv' := [some (.ref (zb w + o0)), some (.ref (zb w + o1)), some (.int p2), some (.int 0), none, none]) dX6_readExpression_1 rfl (by decide) rfl rfl ?_
    refine zj_iconst dX6_readExpression_2 zic_0 ?_
    refine zj_istore (lv' := [some (.ref (zb w + o0)), some (.ref (zb w + o1)), some (.int p2), some (.int 0), some (.int 0), none]) dX6_readExpression_3 (by decide) rfl rfl ?_
    refine zj_iconst dX6_readExpression_5 zic_0 ?_
    refine zj_istore (lv' := [some (.ref (zb w + o0)), some (.ref (zb w + o1)), some (.int p2), some (.int 0), some (.int 0), some (.int 0)]) dX6_readExpression_6 (by decide) rfl rfl ?_
    exact jl_X6_readExpression_8 hr hlv hfr hle h_o0 h_o1 zFuel _ _ _ _) hm
def m_X6_readExpression : Nat → Nat → Nat → Int32 → zSt → Option (Int32 × zSt)
  | 0, _, _, _, _ => none
  | d + 1, o0, o1, p2, s => f_X6_readExpression (f_X6_readUnit (m_X6_readExpression d)) o0 o1 p2 s
set_option maxRecDepth 100000 in
theorem cd_X6_readExpression {w : zWC} : ∀ (d : Nat) {o0 : Nat} {o1 : Nat} {p2 : Int32} {s : zSt} (h_o0 : zC o0 = 6) (h_o1 : zC o1 = 3) {a : Int32 × zSt}, m_X6_readExpression d o0 o1 p2 s = some a → zCn w (3 + 2 * d) yX6_readExpression cX6_readExpression 6 (some .boolean) [.ref (zb w + o0), .ref (zb w + o1), .int p2] s (zeI a).1 (zeI a).2 := by
  intro d
  induction d with
  | zero => intro o0 o1 p2 s h_o0 h_o1 a hm; cases hm
  | succ d ih =>
    intro o0 o1 p2 s h_o0 h_o1 a hm
    exact cf_X6_readExpression (lev0 := 3 + 2 * d + 1) (by omega) (fun p0 p1 p2 s a h0 h1 h => cf_X6_readUnit (lev0 := 3 + 2 * d) (by omega) (fun q0 q1 q2 s a g0 g1 h => ih g0 g1 h) (by omega) h0 h1 h) (by omega) h_o0 h_o1 hm
set_option maxRecDepth 100000 in
theorem c_X6_readExpression {w : zWC} {o0 : Nat} {o1 : Nat} {p2 : Int32} {s : zSt} (h_o0 : zC o0 = 6) (h_o1 : zC o1 = 3) {a : Int32 × zSt} (hm : m_X6_readExpression 20 o0 o1 p2 s = some a) : zCn w 43 yX6_readExpression cX6_readExpression 6 (some .boolean) [.ref (zb w + o0), .ref (zb w + o1), .int p2] s (zeI a).1 (zeI a).2 := cd_X6_readExpression 20 h_o0 h_o1 hm
