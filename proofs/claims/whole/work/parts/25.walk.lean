def m_X9_fewest_184 (o0 : Nat) (rec38 : Int32 → Int32 → Int32 → zSt → Option (Int32 × zSt)) (k190 : Int32 → Int32 → zSt → Option (Int32 × zSt)) (l1 : Int32) (l2 : Int32) (l3 : Int32) (s : zSt) : Option (Int32 × zSt) :=
  rec38 l1 l2 (l3 + 1) s
set_option maxRecDepth 100000 in
theorem j_X9_fewest_184 {o0 : Nat} {rec38 : Int32 → Int32 → Int32 → zSt → Option (Int32 × zSt)} {k190 : Int32 → Int32 → zSt → Option (Int32 × zSt)} {l1 : Int32} {l2 : Int32} {l3 : Int32} {s : zSt} {w : zWC} {x : zCX} (hr : zrt x = (some .int))  (h_o0 : zC o0 = 9) (h_rec38 : ∀ (l1 : Int32) (l2 : Int32) (l3 : Int32) (s : zSt), zJ (zQf w x zeI) w x RX9 cX9_fewest 7 1 (rec38 l1 l2 l3 s) 38 [some (.ref (zb w + o0)), some (.int l1), some (.int l2), some (.int l3), none, none, none] [] s) (h_k190 : ∀ (l1 : Int32) (l2 : Int32) (s : zSt), zJ (zQf w x zeI) w x RX9 cX9_fewest 7 1 (k190 l1 l2 s) 190 [some (.ref (zb w + o0)), some (.int l1), some (.int l2), none, none, none, none] [] s) : zJ (zQf w x zeI) w x RX9 cX9_fewest 7 1 (m_X9_fewest_184 o0 rec38 k190 l1 l2 l3 s) 184 [some (.ref (zb w + o0)), some (.int l1), some (.int l2), some (.int l3), none, none, none] [] s := by
  unfold m_X9_fewest_184
  refine zj_iinc (v2 := l3 + 1) (lv' := [some (.ref (zb w + o0)), some (.int l1), some (.int l2), some (.int (l3 + 1)), none, none, none]) dX9_fewest_184 rfl (by rw [zic_1]) (by decide) rfl rfl ?_
  refine zj_goto (tgt := 38) dX9_fewest_187 (by decide) ?_
  exact h_rec38 _ _ _ _
def m_X9_fewest_176 (o0 : Nat) (rec38 : Int32 → Int32 → Int32 → zSt → Option (Int32 × zSt)) (k190 : Int32 → Int32 → zSt → Option (Int32 × zSt)) (l1 : Int32) (l2 : Int32) (l3 : Int32) (l6 : Int32) (s : zSt) : Option (Int32 × zSt) :=
  (if l2 < 0 ∨ zN (zT o0 71) ≤ Int32.toNatClampNeg l2 then none else zlt (zsI s (zT o0 71) (Int32.toNatClampNeg l2) l6) (fun s8 => m_X9_fewest_184 o0 rec38 k190 l1 l2 l3 s8))
set_option maxRecDepth 100000 in
theorem j_X9_fewest_176 {o0 : Nat} {rec38 : Int32 → Int32 → Int32 → zSt → Option (Int32 × zSt)} {k190 : Int32 → Int32 → zSt → Option (Int32 × zSt)} {l1 : Int32} {l2 : Int32} {l3 : Int32} {l6 : Int32} {s : zSt} {w : zWC} {x : zCX} (hr : zrt x = (some .int))  (h_o0 : zC o0 = 9) (h_rec38 : ∀ (l1 : Int32) (l2 : Int32) (l3 : Int32) (s : zSt), zJ (zQf w x zeI) w x RX9 cX9_fewest 7 1 (rec38 l1 l2 l3 s) 38 [some (.ref (zb w + o0)), some (.int l1), some (.int l2), some (.int l3), none, none, none] [] s) (h_k190 : ∀ (l1 : Int32) (l2 : Int32) (s : zSt), zJ (zQf w x zeI) w x RX9 cX9_fewest 7 1 (k190 l1 l2 s) 190 [some (.ref (zb w + o0)), some (.int l1), some (.int l2), none, none, none, none] [] s) : zJ (zQf w x zeI) w x RX9 cX9_fewest 7 1 (m_X9_fewest_176 o0 rec38 k190 l1 l2 l3 l6 s) 176 [some (.ref (zb w + o0)), some (.int l1), some (.int l2), some (.int l3), none, none, some (.int l6)] [] s := by
  unfold m_X9_fewest_176
  refine zj_aload_n dX9_fewest_176 rfl ?_
  refine zj_getT dX9_fewest_177 fl_X9_142 rfl h_o0 ?_
  refine zj_iload_n dX9_fewest_180 rfl ?_
  refine zj_iload dX9_fewest_181 rfl ?_
  refine zj_iast dX9_fewest_183 (zt_9_71 _ h_o0) (fun s8 => ?_)
  refine zj_weak [true, true, true, true, false, false, false] rfl ?_
  exact j_X9_fewest_184 hr h_o0 h_rec38 h_k190
def m_X9_fewest_153 (o0 : Nat) (rec38 : Int32 → Int32 → Int32 → zSt → Option (Int32 × zSt)) (k190 : Int32 → Int32 → zSt → Option (Int32 × zSt)) (l1 : Int32) (l2 : Int32) (l3 : Int32) (t0 : Int32) (t1 : Int32) (s : zSt) : Option (Int32 × zSt) :=
  (if l2 < 0 ∨ zN (zT o0 71) ≤ Int32.toNatClampNeg l2 then none else (if zI s (zT o0 71) (Int32.toNatClampNeg l2) < 0 then
  m_X9_fewest_176 o0 rec38 k190 l1 l2 l3 (t0 + t1) s
  else
  (if l2 < 0 ∨ zN (zT o0 71) ≤ Int32.toNatClampNeg l2 then none else (if t0 + t1 < zI s (zT o0 71) (Int32.toNatClampNeg l2) then
    m_X9_fewest_176 o0 rec38 k190 l1 l2 l3 (t0 + t1) s
    else
    m_X9_fewest_184 o0 rec38 k190 l1 l2 l3 s))))
set_option maxRecDepth 100000 in
theorem j_X9_fewest_153 {o0 : Nat} {rec38 : Int32 → Int32 → Int32 → zSt → Option (Int32 × zSt)} {k190 : Int32 → Int32 → zSt → Option (Int32 × zSt)} {l1 : Int32} {l2 : Int32} {l3 : Int32} {t0 : Int32} {t1 : Int32} {s : zSt} {w : zWC} {x : zCX} (hr : zrt x = (some .int))  (h_o0 : zC o0 = 9) (h_rec38 : ∀ (l1 : Int32) (l2 : Int32) (l3 : Int32) (s : zSt), zJ (zQf w x zeI) w x RX9 cX9_fewest 7 1 (rec38 l1 l2 l3 s) 38 [some (.ref (zb w + o0)), some (.int l1), some (.int l2), some (.int l3), none, none, none] [] s) (h_k190 : ∀ (l1 : Int32) (l2 : Int32) (s : zSt), zJ (zQf w x zeI) w x RX9 cX9_fewest 7 1 (k190 l1 l2 s) 190 [some (.ref (zb w + o0)), some (.int l1), some (.int l2), none, none, none, none] [] s) : zJ (zQf w x zeI) w x RX9 cX9_fewest 7 1 (m_X9_fewest_153 o0 rec38 k190 l1 l2 l3 t0 t1 s) 153 [some (.ref (zb w + o0)), some (.int l1), some (.int l2), some (.int l3), none, none, none] [.int t1, .int t0] s := by
  unfold m_X9_fewest_153
  refine zj_iadd dX9_fewest_153 ?_
  refine zj_istore (lv' := [some (.ref (zb w + o0)), some (.int l1), some (.int l2), some (.int l3), none, none, some (.int (t0 + t1))]) dX9_fewest_154 (by decide) rfl rfl ?_
  refine zj_aload_n dX9_fewest_156 rfl ?_
  refine zj_getT dX9_fewest_157 fl_X9_142 rfl h_o0 ?_
  refine zj_iload_n dX9_fewest_160 rfl ?_
  refine zj_iald dX9_fewest_161 (zt_9_71 _ h_o0) ?_
  refine zj_if_lt (tgt := 176) dX9_fewest_162 (by decide) ?_ ?_
  · exact j_X9_fewest_176 hr h_o0 h_rec38 h_k190
  · refine zj_iload dX9_fewest_165 rfl ?_
    refine zj_aload_n dX9_fewest_167 rfl ?_
    refine zj_getT dX9_fewest_168 fl_X9_142 rfl h_o0 ?_
    refine zj_iload_n dX9_fewest_171 rfl ?_
    refine zj_iald dX9_fewest_172 (zt_9_71 _ h_o0) ?_
    refine zj_icmp_ge (tgt := 184) dX9_fewest_173 (by decide) ?_ ?_
    · exact j_X9_fewest_176 hr h_o0 h_rec38 h_k190
    · refine zj_weak [true, true, true, true, false, false, false] rfl ?_
      exact j_X9_fewest_184 hr h_o0 h_rec38 h_k190
def bd_X9_fewest_38 (o0 : Nat) (rec38 : Int32 → Int32 → Int32 → zSt → Option (Int32 × zSt)) (k190 : Int32 → Int32 → zSt → Option (Int32 × zSt)) (l1 : Int32) (l2 : Int32) (l3 : Int32) (s : zSt) : Option (Int32 × zSt) :=
  (if l3 < zI s o0 22 then
  zcl (m_X9_ones l2 s) (fun r7 s6 => (if 1 < r7 then
    (if l3 < 0 ∨ zN (zT o0 14) ≤ Int32.toNatClampNeg l3 then none else (if l3 < 0 ∨ zN (zT o0 14) ≤ Int32.toNatClampNeg l3 then none else (if l3 < 0 ∨ zN (zT o0 69) ≤ Int32.toNatClampNeg l3 then none else (if zI s6 (zT o0 69) (Int32.toNatClampNeg l3) = 0 then
      (if l2 &&& (zI s6 (zT o0 14) (Int32.toNatClampNeg l3)) = 0 then
        m_X9_fewest_184 o0 rec38 k190 l1 l2 l3 s6
        else
        (if l2 &&& ((zI s6 (zT o0 14) (Int32.toNatClampNeg l3)) ^^^ (-1)) = 0 then
          m_X9_fewest_184 o0 rec38 k190 l1 l2 l3 s6
          else
          (if l2 &&& (zI s6 (zT o0 14) (Int32.toNatClampNeg l3)) < 0 ∨ zN (zT o0 71) ≤ Int32.toNatClampNeg (l2 &&& (zI s6 (zT o0 14) (Int32.toNatClampNeg l3))) then none else (if zI s6 (zT o0 71) (Int32.toNatClampNeg (l2 &&& (zI s6 (zT o0 14) (Int32.toNatClampNeg l3)))) < 0 then
            m_X9_fewest_184 o0 rec38 k190 l1 l2 l3 s6
            else
            (if l2 &&& ((zI s6 (zT o0 14) (Int32.toNatClampNeg l3)) ^^^ (-1)) < 0 ∨ zN (zT o0 71) ≤ Int32.toNatClampNeg (l2 &&& ((zI s6 (zT o0 14) (Int32.toNatClampNeg l3)) ^^^ (-1))) then none else (if zI s6 (zT o0 71) (Int32.toNatClampNeg (l2 &&& ((zI s6 (zT o0 14) (Int32.toNatClampNeg l3)) ^^^ (-1)))) < 0 then
              m_X9_fewest_184 o0 rec38 k190 l1 l2 l3 s6
              else
              (if l2 &&& (zI s6 (zT o0 14) (Int32.toNatClampNeg l3)) < 0 ∨ zN (zT o0 71) ≤ Int32.toNatClampNeg (l2 &&& (zI s6 (zT o0 14) (Int32.toNatClampNeg l3))) then none else (if l2 &&& ((zI s6 (zT o0 14) (Int32.toNatClampNeg l3)) ^^^ (-1)) < 0 ∨ zN (zT o0 71) ≤ Int32.toNatClampNeg (l2 &&& ((zI s6 (zT o0 14) (Int32.toNatClampNeg l3)) ^^^ (-1))) then none else (if zI s6 (zT o0 71) (Int32.toNatClampNeg (l2 &&& ((zI s6 (zT o0 14) (Int32.toNatClampNeg l3)) ^^^ (-1)))) < zI s6 (zT o0 71) (Int32.toNatClampNeg (l2 &&& (zI s6 (zT o0 14) (Int32.toNatClampNeg l3)))) then
                (if l2 &&& (zI s6 (zT o0 14) (Int32.toNatClampNeg l3)) < 0 ∨ zN (zT o0 71) ≤ Int32.toNatClampNeg (l2 &&& (zI s6 (zT o0 14) (Int32.toNatClampNeg l3))) then none else m_X9_fewest_153 o0 rec38 k190 l1 l2 l3 1 (zI s6 (zT o0 71) (Int32.toNatClampNeg (l2 &&& (zI s6 (zT o0 14) (Int32.toNatClampNeg l3))))) s6)
                else
                (if l2 &&& ((zI s6 (zT o0 14) (Int32.toNatClampNeg l3)) ^^^ (-1)) < 0 ∨ zN (zT o0 71) ≤ Int32.toNatClampNeg (l2 &&& ((zI s6 (zT o0 14) (Int32.toNatClampNeg l3)) ^^^ (-1))) then none else m_X9_fewest_153 o0 rec38 k190 l1 l2 l3 1 (zI s6 (zT o0 71) (Int32.toNatClampNeg (l2 &&& ((zI s6 (zT o0 14) (Int32.toNatClampNeg l3)) ^^^ (-1))))) s6))))))))))
      else
      m_X9_fewest_184 o0 rec38 k190 l1 l2 l3 s6))))
    else
    k190 l1 l2 s6))
  else
  k190 l1 l2 s)
def lp_X9_fewest_38 (o0 : Nat) (k190 : Int32 → Int32 → zSt → Option (Int32 × zSt)) : Nat → Int32 → Int32 → Int32 → zSt → Option (Int32 × zSt)
  | 0, _, _, _, _ => none
  | n + 1, l1, l2, l3, s => bd_X9_fewest_38 o0 (fun l1 l2 l3 s => lp_X9_fewest_38 o0 k190 n l1 l2 l3 s) k190 l1 l2 l3 s
set_option maxRecDepth 100000 in
theorem jb_X9_fewest_38 {o0 : Nat} {rec38 : Int32 → Int32 → Int32 → zSt → Option (Int32 × zSt)} {k190 : Int32 → Int32 → zSt → Option (Int32 × zSt)} {l1 : Int32} {l2 : Int32} {l3 : Int32} {s : zSt} {w : zWC} {x : zCX} (hr : zrt x = (some .int))  (h_o0 : zC o0 = 9) (h_rec38 : ∀ (l1 : Int32) (l2 : Int32) (l3 : Int32) (s : zSt), zJ (zQf w x zeI) w x RX9 cX9_fewest 7 1 (rec38 l1 l2 l3 s) 38 [some (.ref (zb w + o0)), some (.int l1), some (.int l2), some (.int l3), none, none, none] [] s) (h_k190 : ∀ (l1 : Int32) (l2 : Int32) (s : zSt), zJ (zQf w x zeI) w x RX9 cX9_fewest 7 1 (k190 l1 l2 s) 190 [some (.ref (zb w + o0)), some (.int l1), some (.int l2), none, none, none, none] [] s) : zJ (zQf w x zeI) w x RX9 cX9_fewest 7 1 (bd_X9_fewest_38 o0 rec38 k190 l1 l2 l3 s) 38 [some (.ref (zb w + o0)), some (.int l1), some (.int l2), some (.int l3), none, none, none] [] s := by
  unfold bd_X9_fewest_38
  refine zj_iload_n dX9_fewest_38 rfl ?_
  refine zj_aload_n dX9_fewest_39 rfl ?_
  refine zj_getI dX9_fewest_40 fl_X9_300 rfl h_o0 ?_
  refine zj_icmp_ge (tgt := 190) dX9_fewest_43 (by decide) ?_ ?_
  · refine zj_iload_n dX9_fewest_46 rfl ?_
    refine zj_cSI1 ml_X9_390 (fun a h => c_X9_ones  h) (Nat.le_of_ble_eq_true rfl) (Nat.le_of_ble_eq_true rfl) dX9_fewest_47 (fun r7 s6 => ?_)
    refine zj_iconst dX9_fewest_50 zic_1 ?_
    refine zj_icmp_le (tgt := 190) dX9_fewest_51 (by decide) ?_ ?_
    · refine zj_iload_n dX9_fewest_54 rfl ?_
      refine zj_aload_n dX9_fewest_55 rfl ?_
      refine zj_getT dX9_fewest_56 fl_X9_26 rfl h_o0 ?_
      refine zj_iload_n dX9_fewest_59 rfl ?_
      refine zj_iald dX9_fewest_60 (zt_9_14 _ h_o0) ?_
      refine zj_iand dX9_fewest_61 ?_
      refine zj_istore (lv' := [some (.ref (zb w + o0)), some (.int l1), some (.int l2), some (.int l3), some (.int (l2 &&& (zI s6 (zT o0 14) (Int32.toNatClampNeg l3)))), none, none]) dX9_fewest_62 (by decide) rfl rfl ?_
      refine zj_iload_n dX9_fewest_64 rfl ?_
      refine zj_aload_n dX9_fewest_65 rfl ?_
      refine zj_getT dX9_fewest_66 fl_X9_26 rfl h_o0 ?_
      refine zj_iload_n dX9_fewest_69 rfl ?_
      refine zj_iald dX9_fewest_70 (zt_9_14 _ h_o0) ?_
      refine zj_iconst dX9_fewest_71 zic_m1 ?_
      refine zj_ixor dX9_fewest_72 ?_
      refine zj_iand dX9_fewest_73 ?_
      refine zj_istore (lv' := [some (.ref (zb w + o0)), some (.int l1), some (.int l2), some (.int l3), some (.int (l2 &&& (zI s6 (zT o0 14) (Int32.toNatClampNeg l3)))), some (.int (l2 &&& ((zI s6 (zT o0 14) (Int32.toNatClampNeg l3)) ^^^ (-1)))), none]) dX9_fewest_74 (by decide) rfl rfl ?_
      refine zj_aload_n dX9_fewest_76 rfl ?_
      refine zj_getT dX9_fewest_77 fl_X9_136 rfl h_o0 ?_
      refine zj_iload_n dX9_fewest_80 rfl ?_
      refine zj_zald dX9_fewest_81 (zt_9_69 _ h_o0) ?_
      refine zj_if_ne (tgt := 184) dX9_fewest_82 (by decide) ?_ ?_
      · refine zj_iload dX9_fewest_85 rfl ?_
        refine zj_if_eq (tgt := 184) dX9_fewest_87 (by decide) ?_ ?_
        · refine zj_weak [true, true, true, true, false, false, false] rfl ?_
          exact j_X9_fewest_184 hr h_o0 h_rec38 h_k190
        · refine zj_iload dX9_fewest_90 rfl ?_
          refine zj_if_eq (tgt := 184) dX9_fewest_92 (by decide) ?_ ?_
          · refine zj_weak [true, true, true, true, false, false, false] rfl ?_
            exact j_X9_fewest_184 hr h_o0 h_rec38 h_k190
          · refine zj_aload_n dX9_fewest_95 rfl ?_
            refine zj_getT dX9_fewest_96 fl_X9_142 rfl h_o0 ?_
            refine zj_iload dX9_fewest_99 rfl ?_
            refine zj_iald dX9_fewest_101 (zt_9_71 _ h_o0) ?_
            refine zj_if_lt (tgt := 184) dX9_fewest_102 (by decide) ?_ ?_
            · refine zj_weak [true, true, true, true, false, false, false] rfl ?_
              exact j_X9_fewest_184 hr h_o0 h_rec38 h_k190
            · refine zj_aload_n dX9_fewest_105 rfl ?_
              refine zj_getT dX9_fewest_106 fl_X9_142 rfl h_o0 ?_
              refine zj_iload dX9_fewest_109 rfl ?_
              refine zj_iald dX9_fewest_111 (zt_9_71 _ h_o0) ?_
              refine zj_if_ge (tgt := 118) dX9_fewest_112 (by decide) ?_ ?_
              · refine zj_goto (tgt := 184) dX9_fewest_115 (by decide) ?_
                refine zj_weak [true, true, true, true, false, false, false] rfl ?_
                exact j_X9_fewest_184 hr h_o0 h_rec38 h_k190
              · refine zj_iconst dX9_fewest_118 zic_1 ?_
                refine zj_aload_n dX9_fewest_119 rfl ?_
                refine zj_getT dX9_fewest_120 fl_X9_142 rfl h_o0 ?_
                refine zj_iload dX9_fewest_123 rfl ?_
                refine zj_iald dX9_fewest_125 (zt_9_71 _ h_o0) ?_
                refine zj_aload_n dX9_fewest_126 rfl ?_
                refine zj_getT dX9_fewest_127 fl_X9_142 rfl h_o0 ?_
                refine zj_iload dX9_fewest_130 rfl ?_
                refine zj_iald dX9_fewest_132 (zt_9_71 _ h_o0) ?_
                refine zj_icmp_le (tgt := 146) dX9_fewest_133 (by decide) ?_ ?_
                · refine zj_aload_n dX9_fewest_136 rfl ?_
                  refine zj_getT dX9_fewest_137 fl_X9_142 rfl h_o0 ?_
                  refine zj_iload dX9_fewest_140 rfl ?_
                  refine zj_iald dX9_fewest_142 (zt_9_71 _ h_o0) ?_
                  refine zj_goto (tgt := 153) dX9_fewest_143 (by decide) ?_
                  refine zj_weak [true, true, true, true, false, false, false] rfl ?_
                  exact j_X9_fewest_153 hr h_o0 h_rec38 h_k190
                · refine zj_aload_n dX9_fewest_146 rfl ?_
                  refine zj_getT dX9_fewest_147 fl_X9_142 rfl h_o0 ?_
                  refine zj_iload dX9_fewest_150 rfl ?_
                  refine zj_iald dX9_fewest_152 (zt_9_71 _ h_o0) ?_
                  refine zj_weak [true, true, true, true, false, false, false] rfl ?_
                  exact j_X9_fewest_153 hr h_o0 h_rec38 h_k190
      · refine zj_weak [true, true, true, true, false, false, false] rfl ?_
        exact j_X9_fewest_184 hr h_o0 h_rec38 h_k190
    · refine zj_weak [true, true, true, false, false, false, false] rfl ?_
      exact h_k190 _ _ _
  · refine zj_weak [true, true, true, false, false, false, false] rfl ?_
    exact h_k190 _ _ _
set_option maxRecDepth 100000 in
theorem jl_X9_fewest_38 {o0 : Nat} {k190 : Int32 → Int32 → zSt → Option (Int32 × zSt)} {w : zWC} {x : zCX} (hr : zrt x = (some .int))  (h_o0 : zC o0 = 9) (h_k190 : ∀ (l1 : Int32) (l2 : Int32) (s : zSt), zJ (zQf w x zeI) w x RX9 cX9_fewest 7 1 (k190 l1 l2 s) 190 [some (.ref (zb w + o0)), some (.int l1), some (.int l2), none, none, none, none] [] s) : ∀ (n : Nat) (l1 : Int32) (l2 : Int32) (l3 : Int32) (s : zSt), zJ (zQf w x zeI) w x RX9 cX9_fewest 7 1 (lp_X9_fewest_38 o0 k190 n l1 l2 l3 s) 38 [some (.ref (zb w + o0)), some (.int l1), some (.int l2), some (.int l3), none, none, none] [] s := by
  intro n
  induction n with
  | zero => intro l1 l2 l3 s; exact zj_none
  | succ n ih => intro l1 l2 l3 s; exact jb_X9_fewest_38 hr h_o0 (fun l1 l2 l3 s => ih l1 l2 l3 s) h_k190
def m_X9_fewest_190 (o0 : Nat) (rec7 : Int32 → Int32 → zSt → Option (Int32 × zSt)) (l1 : Int32) (l2 : Int32) (s : zSt) : Option (Int32 × zSt) :=
  rec7 l1 (l2 + 1) s
set_option maxRecDepth 100000 in
theorem j_X9_fewest_190 {o0 : Nat} {rec7 : Int32 → Int32 → zSt → Option (Int32 × zSt)} {l1 : Int32} {l2 : Int32} {s : zSt} {w : zWC} {x : zCX} (hr : zrt x = (some .int))  (h_o0 : zC o0 = 9) (h_rec7 : ∀ (l1 : Int32) (l2 : Int32) (s : zSt), zJ (zQf w x zeI) w x RX9 cX9_fewest 7 1 (rec7 l1 l2 s) 7 [some (.ref (zb w + o0)), some (.int l1), some (.int l2), none, none, none, none] [] s) : zJ (zQf w x zeI) w x RX9 cX9_fewest 7 1 (m_X9_fewest_190 o0 rec7 l1 l2 s) 190 [some (.ref (zb w + o0)), some (.int l1), some (.int l2), none, none, none, none] [] s := by
  unfold m_X9_fewest_190
  refine zj_iinc (v2 := l2 + 1) (lv' := [some (.ref (zb w + o0)), some (.int l1), some (.int (l2 + 1)), none, none, none, none]) dX9_fewest_190 rfl (by rw [zic_1]) (by decide) rfl rfl ?_
  refine zj_goto (tgt := 7) dX9_fewest_193 (by decide) ?_
  exact h_rec7 _ _ _
def m_X9_fewest_35 (o0 : Nat) (rec7 : Int32 → Int32 → zSt → Option (Int32 × zSt)) (l1 : Int32) (l2 : Int32) (t0 : Nat) (t1 : Int32) (t2 : Int32) (s : zSt) : Option (Int32 × zSt) :=
  (if t1 < 0 ∨ zN t0 ≤ Int32.toNatClampNeg t1 then none else zlt (zsI s t0 (Int32.toNatClampNeg t1) t2) (fun s5 => lp_X9_fewest_38 o0 (fun l1_9 l2_9 s_9 => m_X9_fewest_190 o0 rec7 l1_9 l2_9 s_9) zFuel l1 l2 0 s5))
set_option maxRecDepth 100000 in
theorem j_X9_fewest_35 {o0 : Nat} {rec7 : Int32 → Int32 → zSt → Option (Int32 × zSt)} {l1 : Int32} {l2 : Int32} {t0 : Nat} {t1 : Int32} {t2 : Int32} {s : zSt} {w : zWC} {x : zCX} (hr : zrt x = (some .int))  (h_o0 : zC o0 = 9) (h_rec7 : ∀ (l1 : Int32) (l2 : Int32) (s : zSt), zJ (zQf w x zeI) w x RX9 cX9_fewest 7 1 (rec7 l1 l2 s) 7 [some (.ref (zb w + o0)), some (.int l1), some (.int l2), none, none, none, none] [] s) (ht0 : zC t0 = 11) : zJ (zQf w x zeI) w x RX9 cX9_fewest 7 1 (m_X9_fewest_35 o0 rec7 l1 l2 t0 t1 t2 s) 35 [some (.ref (zb w + o0)), some (.int l1), some (.int l2), none, none, none, none] [.int t2, .int t1, .ref (zb w + t0)] s := by
  unfold m_X9_fewest_35
  refine zj_iast dX9_fewest_35 ht0 (fun s5 => ?_)
  refine zj_iconst dX9_fewest_36 zic_0 ?_
  refine zj_istore_n (lv' := [some (.ref (zb w + o0)), some (.int l1), some (.int l2), some (.int 0), none, none, none]) dX9_fewest_37 rfl (by decide) rfl rfl ?_
  refine jl_X9_fewest_38 hr h_o0 (fun l1_9 l2_9 s_9 => ?_) zFuel _ _ _ _
  exact j_X9_fewest_190 hr h_o0 h_rec7
def bd_X9_fewest_7 (o0 : Nat) (rec7 : Int32 → Int32 → zSt → Option (Int32 × zSt)) (l1 : Int32) (l2 : Int32) (s : zSt) : Option (Int32 × zSt) :=
  (if l2 < (1 : Int32) <<< ((zI s o0 21) &&& 31) then
  zcl (m_X9_ones l2 s) (fun r4 s3 => (if r4 < 2 then
    m_X9_fewest_35 o0 rec7 l1 l2 (zT o0 71) l2 0 s3
    else
    m_X9_fewest_35 o0 rec7 l1 l2 (zT o0 71) l2 (-1) s3))
  else
  (if l1 < 0 ∨ zN (zT o0 71) ≤ Int32.toNatClampNeg l1 then none else some (zI s (zT o0 71) (Int32.toNatClampNeg l1), s)))
def lp_X9_fewest_7 (o0 : Nat) : Nat → Int32 → Int32 → zSt → Option (Int32 × zSt)
  | 0, _, _, _ => none
  | n + 1, l1, l2, s => bd_X9_fewest_7 o0 (fun l1 l2 s => lp_X9_fewest_7 o0 n l1 l2 s) l1 l2 s
set_option maxRecDepth 100000 in
theorem jb_X9_fewest_7 {o0 : Nat} {rec7 : Int32 → Int32 → zSt → Option (Int32 × zSt)} {l1 : Int32} {l2 : Int32} {s : zSt} {w : zWC} {x : zCX} (hr : zrt x = (some .int))  (h_o0 : zC o0 = 9) (h_rec7 : ∀ (l1 : Int32) (l2 : Int32) (s : zSt), zJ (zQf w x zeI) w x RX9 cX9_fewest 7 1 (rec7 l1 l2 s) 7 [some (.ref (zb w + o0)), some (.int l1), some (.int l2), none, none, none, none] [] s) : zJ (zQf w x zeI) w x RX9 cX9_fewest 7 1 (bd_X9_fewest_7 o0 rec7 l1 l2 s) 7 [some (.ref (zb w + o0)), some (.int l1), some (.int l2), none, none, none, none] [] s := by
  unfold bd_X9_fewest_7
  refine zj_iload_n dX9_fewest_7 rfl ?_
  refine zj_iconst dX9_fewest_8 zic_1 ?_
  refine zj_aload_n dX9_fewest_9 rfl ?_
  refine zj_getI dX9_fewest_10 fl_X9_297 rfl h_o0 ?_
  refine zj_ishl dX9_fewest_13 ?_
  refine zj_icmp_ge (tgt := 196) dX9_fewest_14 (by decide) ?_ ?_
  · refine zj_aload_n dX9_fewest_17 rfl ?_
    refine zj_getT dX9_fewest_18 fl_X9_142 rfl h_o0 ?_
    refine zj_iload_n dX9_fewest_21 rfl ?_
    refine zj_iload_n dX9_fewest_22 rfl ?_
    refine zj_cSI1 ml_X9_390 (fun a h => c_X9_ones  h) (Nat.le_of_ble_eq_true rfl) (Nat.le_of_ble_eq_true rfl) dX9_fewest_23 (fun r4 s3 => ?_)
    refine zj_iconst dX9_fewest_26 zic_2 ?_
    refine zj_icmp_ge (tgt := 34) dX9_fewest_27 (by decide) ?_ ?_
    · refine zj_iconst dX9_fewest_30 zic_0 ?_
      refine zj_goto (tgt := 35) dX9_fewest_31 (by decide) ?_
      exact j_X9_fewest_35 hr h_o0 h_rec7 (zt_9_71 _ h_o0)
    · refine zj_iconst dX9_fewest_34 zic_m1 ?_
      exact j_X9_fewest_35 hr h_o0 h_rec7 (zt_9_71 _ h_o0)
  · refine zj_aload_n dX9_fewest_196 rfl ?_
    refine zj_getT dX9_fewest_197 fl_X9_142 rfl h_o0 ?_
    refine zj_iload_n dX9_fewest_200 rfl ?_
    refine zj_iald dX9_fewest_201 (zt_9_71 _ h_o0) ?_
    exact zj_iret hr dX9_fewest_202
set_option maxRecDepth 100000 in
theorem jl_X9_fewest_7 {o0 : Nat} {w : zWC} {x : zCX} (hr : zrt x = (some .int))  (h_o0 : zC o0 = 9) : ∀ (n : Nat) (l1 : Int32) (l2 : Int32) (s : zSt), zJ (zQf w x zeI) w x RX9 cX9_fewest 7 1 (lp_X9_fewest_7 o0 n l1 l2 s) 7 [some (.ref (zb w + o0)), some (.int l1), some (.int l2), none, none, none, none] [] s := by
  intro n
  induction n with
  | zero => intro l1 l2 s; exact zj_none
  | succ n ih => intro l1 l2 s; exact jb_X9_fewest_7 hr h_o0 (fun l1 l2 s => ih l1 l2 s)
def m_X9_fewest (o0 : Nat) (s : zSt) : Option (Int32 × zSt) :=
  zcl (m_X9_mayBe o0 s) (fun r2 s1 => lp_X9_fewest_7 o0 zFuel r2 0 s1)
set_option maxRecDepth 100000 in
theorem c_X9_fewest {w : zWC} {o0 : Nat} {s : zSt} (h_o0 : zC o0 = 9) {a : Int32 × zSt} (hm : m_X9_fewest o0 s = some a) : zCn w 1 yX9_fewest cX9_fewest 7 (some .int) [.ref (zb w + o0)] s (zeI a).1 (zeI a).2 :=
  zCn_of (own := RX9) (lv := [some (.ref (zb w + o0)), none, none, none, none, none, none]) (by decide +kernel) rfl (Nat.le_of_ble_eq_true rfl) rfl (fun x hr => by
    unfold m_X9_fewest
    refine zj_aload_n dX9_fewest_0 rfl ?_
    refine zj_cVI0 ml_X9_480 (fun a h => c_X9_mayBe h_o0 h) h_o0 rfl (Nat.le_of_ble_eq_true rfl) (Nat.le_of_ble_eq_true rfl) dX9_fewest_1 (fun r2 s1 => ?_)
    refine zj_istore_n (lv' := [some (.ref (zb w + o0)), some (.int r2), none, none, none, none, none]) dX9_fewest_4 rfl (by decide) rfl rfl ?_
    refine zj_iconst dX9_fewest_5 zic_0 ?_
    refine zj_istore_n (lv' := [some (.ref (zb w + o0)), some (.int r2), some (.int 0), none, none, none, none]) dX9_fewest_6 rfl (by decide) rfl rfl ?_
    exact jl_X9_fewest_7 hr h_o0 zFuel _ _ _) hm
def m_X9_about (o0 : Nat) (p1 : Int32) (s : zSt) : Option (Int32 × zSt) :=
  (if p1 = 0 then
  some (zI s o0 21, s)
  else
  (if p1 = 1 then
    some (zI s o0 22, s)
    else
    (if p1 = 2 then
      some (zI s o0 49, s)
      else
      (if p1 = 3 then
        some (zI s o0 66, s)
        else
        (if p1 = 4 then
          some (zI s o0 30, s)
          else
          (if p1 = 5 then
            some (zI s o0 31, s)
            else
            (if p1 = 6 then
              some (zI s o0 1, s)
              else
              (if p1 = 7 then
                some (zI s o0 65, s)
                else
                some ((-1), s)))))))))
set_option maxRecDepth 100000 in
theorem c_X9_about {w : zWC} {o0 : Nat} {p1 : Int32} {s : zSt} (h_o0 : zC o0 = 9) {a : Int32 × zSt} (hm : m_X9_about o0 p1 s = some a) : zCn w 0 yX9_about cX9_about 2 (some .int) [.ref (zb w + o0), .int p1] s (zeI a).1 (zeI a).2 :=
  zCn_of (own := RX9) (lv := [some (.ref (zb w + o0)), some (.int p1)]) (by decide +kernel) rfl (Nat.le_of_ble_eq_true rfl) rfl (fun x hr => by
    unfold m_X9_about
    refine zj_iload_n dX9_about_0 rfl ?_
    refine zj_split (fun hs1 => ?_) (fun hs1 => ?_)
    · refine zj_tsE (u := 0) (tgt := 48) hs1 dX9_about_1 (by decide) (by decide) rfl (by decide) ?_
      refine zj_aload_n dX9_about_48 rfl ?_
      refine zj_getI dX9_about_49 fl_X9_297 rfl h_o0 ?_
      exact zj_iret hr dX9_about_52
    · refine zj_split (fun hs2 => ?_) (fun hs2 => ?_)
      · refine zj_tsE (u := 1) (tgt := 53) hs2 dX9_about_1 (by decide) (by decide) rfl (by decide) ?_
        refine zj_aload_n dX9_about_53 rfl ?_
        refine zj_getI dX9_about_54 fl_X9_300 rfl h_o0 ?_
        exact zj_iret hr dX9_about_57
      · refine zj_split (fun hs3 => ?_) (fun hs3 => ?_)
        · refine zj_tsE (u := 2) (tgt := 58) hs3 dX9_about_1 (by decide) (by decide) rfl (by decide) ?_
          refine zj_aload_n dX9_about_58 rfl ?_
          refine zj_getI dX9_about_59 fl_X9_405 rfl h_o0 ?_
          exact zj_iret hr dX9_about_62
        · refine zj_split (fun hs4 => ?_) (fun hs4 => ?_)
          · refine zj_tsE (u := 3) (tgt := 63) hs4 dX9_about_1 (by decide) (by decide) rfl (by decide) ?_
            refine zj_aload_n dX9_about_63 rfl ?_
            refine zj_getI dX9_about_64 fl_X9_463 rfl h_o0 ?_
            exact zj_iret hr dX9_about_67
          · refine zj_split (fun hs5 => ?_) (fun hs5 => ?_)
            · refine zj_tsE (u := 4) (tgt := 68) hs5 dX9_about_1 (by decide) (by decide) rfl (by decide) ?_
              refine zj_aload_n dX9_about_68 rfl ?_
              refine zj_getI dX9_about_69 fl_X9_347 rfl h_o0 ?_
              exact zj_iret hr dX9_about_72
            · refine zj_split (fun hs6 => ?_) (fun hs6 => ?_)
              · refine zj_tsE (u := 5) (tgt := 73) hs6 dX9_about_1 (by decide) (by decide) rfl (by decide) ?_
                refine zj_aload_n dX9_about_73 rfl ?_
                refine zj_getI dX9_about_74 fl_X9_350 rfl h_o0 ?_
                exact zj_iret hr dX9_about_77
              · refine zj_split (fun hs7 => ?_) (fun hs7 => ?_)
                · refine zj_tsE (u := 6) (tgt := 78) hs7 dX9_about_1 (by decide) (by decide) rfl (by decide) ?_
                  refine zj_aload_n dX9_about_78 rfl ?_
                  refine zj_getI dX9_about_79 fl_X9_148 rfl h_o0 ?_
                  exact zj_iret hr dX9_about_82
                · refine zj_split (fun hs8 => ?_) (fun hs8 => ?_)
                  · refine zj_tsE (u := 7) (tgt := 83) hs8 dX9_about_1 (by decide) (by decide) rfl (by decide) ?_
                    refine zj_aload_n dX9_about_83 rfl ?_
                    refine zj_getI dX9_about_84 fl_X9_460 rfl h_o0 ?_
                    exact zj_iret hr dX9_about_87
                  · refine zj_tsDef (vs := [0, 1, 2, 3, 4, 5, 6, 7]) (tgt := 88) dX9_about_1 (by decide) (by decide +kernel) (by decide) (by
                      intro u hu
                      simp only [List.mem_cons, List.not_mem_nil, or_false] at hu
                      rcases hu with rfl | rfl | rfl | rfl | rfl | rfl | rfl | rfl
                      · exact hs1
                      · exact hs2
                      · exact hs3
                      · exact hs4
                      · exact hs5
                      · exact hs6
                      · exact hs7
                      · exact hs8
                      ) ?_
                    refine zj_iconst dX9_about_88 zic_m1 ?_
                    exact zj_iret hr dX9_about_89) hm
