def m_X6_readLine (o0 : Nat) (o1 : Nat) (s : zSt) : Option (Int32 × zSt) :=
  (if zI s o0 0 < 12 then
  zcl (m_X3_takeNewName o1 (zT o0 4) (zI s o0 0) s) (fun r2 s1 => (if r2 = 0 then
    some (0, s1)
    else
    zcl (m_X3_take o1 274 s1) (fun r4 s3 => (if r4 = 0 then
      some (0, s3)
      else
      (if zI s3 o0 0 < 0 ∨ zN (zT o0 6) ≤ Int32.toNatClampNeg (zI s3 o0 0) then none else zlt (zsI s3 (zT o0 6) (Int32.toNatClampNeg (zI s3 o0 0)) (zI s3 o0 11)) (fun s5 => zcl (m_X6_readExpression 20 o0 o1 0 s5) (fun r7 s6 => (if r7 = 0 then
        some (0, s6)
        else
        zcl (m_X3_take o1 275 s6) (fun r9 s8 => (if r9 = 0 then
          some (0, s8)
          else
          zcl (m_X3_takeSigned o1 (-9999) 9999 s8) (fun r11 s10 => (if r11 = 0 then
            some (0, s10)
            else
            (if zI s10 o0 0 < 0 ∨ zN (zT o0 5) ≤ Int32.toNatClampNeg (zI s10 o0 0) then none else zlt (zsI s10 (zT o0 5) (Int32.toNatClampNeg (zI s10 o0 0)) (zI s10 o1 8)) (fun s12 => zlt (zsI s12 o0 0 ((zI s12 o0 0) + 1)) (fun s13 => (if zI s13 o0 0 < 0 ∨ zN (zT o0 6) ≤ Int32.toNatClampNeg (zI s13 o0 0) then none else zlt (zsI s13 (zT o0 6) (Int32.toNatClampNeg (zI s13 o0 0)) (zI s13 o0 11)) (fun s14 => zcl (m_X3_take o1 59 s14) (fun r16 s15 => (if r16 = 0 ∨ r16 = 1 then some (r16, s15) else none)))))))))))))))))))
  else
  zcl (m_X3_refuse o1 2 s) (fun r18 s17 => (if r18 = 0 ∨ r18 = 1 then some (r18, s17) else none)))
set_option maxRecDepth 100000 in
theorem c_X6_readLine {w : zWC} {o0 : Nat} {o1 : Nat} {s : zSt} (h_o0 : zC o0 = 6) (h_o1 : zC o1 = 3) {a : Int32 × zSt} (hm : m_X6_readLine o0 o1 s = some a) : zCn w 44 yX6_readLine cX6_readLine 2 (some .boolean) [.ref (zb w + o0), .ref (zb w + o1)] s (zeI a).1 (zeI a).2 :=
  zCn_of (own := RX6) (lv := [some (.ref (zb w + o0)), some (.ref (zb w + o1))]) (by decide +kernel) rfl (Nat.le_of_ble_eq_true rfl) rfl (fun x hr => by
    unfold m_X6_readLine
    refine zj_aload_n dX6_readLine_0 rfl ?_
    refine zj_getI dX6_readLine_1 fl_X6_9 rfl h_o0 ?_
    refine zj_bipush dX6_readLine_4 zbi_12 ?_
    refine zj_icmp_lt (tgt := 15) dX6_readLine_6 (by decide) ?_ ?_
    · refine zj_aload_n dX6_readLine_15 rfl ?_
      refine zj_aload_n dX6_readLine_16 rfl ?_
      refine zj_getT dX6_readLine_17 fl_X6_25 rfl h_o0 ?_
      refine zj_aload_n dX6_readLine_20 rfl ?_
      refine zj_getI dX6_readLine_21 fl_X6_9 rfl h_o0 ?_
      refine zj_cVI2 ml_X6_66 (fun a h => c_X3_takeNewName h_o1 (zt_6_4 _ h_o0) h) h_o1 rfl (Nat.le_of_ble_eq_true rfl) (Nat.le_of_ble_eq_true rfl) dX6_readLine_24 (fun r2 s1 => ?_)
      refine zj_if_eq (tgt := 40) dX6_readLine_27 (by decide) ?_ ?_
      · refine zj_iconst dX6_readLine_40 zic_0 ?_
        exact zj_zret hr rfl dX6_readLine_41
      · refine zj_aload_n dX6_readLine_30 rfl ?_
        refine zj_sipush dX6_readLine_31 zsi_274 ?_
        refine zj_cVI1 ml_X6_70 (fun a h => c_X3_take h_o1 h) h_o1 rfl (Nat.le_of_ble_eq_true rfl) (Nat.le_of_ble_eq_true rfl) dX6_readLine_34 (fun r4 s3 => ?_)
        refine zj_if_ne (tgt := 42) dX6_readLine_37 (by decide) ?_ ?_
        · refine zj_iconst dX6_readLine_40 zic_0 ?_
          exact zj_zret hr rfl dX6_readLine_41
        · refine zj_aload_n dX6_readLine_42 rfl ?_
          refine zj_getT dX6_readLine_43 fl_X6_32 rfl h_o0 ?_
          refine zj_aload_n dX6_readLine_46 rfl ?_
          refine zj_getI dX6_readLine_47 fl_X6_9 rfl h_o0 ?_
          refine zj_aload_n dX6_readLine_50 rfl ?_
          refine zj_getI dX6_readLine_51 fl_X6_47 rfl h_o0 ?_
          refine zj_iast dX6_readLine_54 (zt_6_6 _ h_o0) (fun s5 => ?_)
          refine zj_aload_n dX6_readLine_55 rfl ?_
          refine zj_aload_n dX6_readLine_56 rfl ?_
          refine zj_iconst dX6_readLine_57 zic_0 ?_
          refine zj_cVI2 ml_X6_73 (fun a h => c_X6_readExpression h_o0 h_o1 h) h_o0 rfl (Nat.le_of_ble_eq_true rfl) (Nat.le_of_ble_eq_true rfl) dX6_readLine_58 (fun r7 s6 => ?_)
          refine zj_if_ne (tgt := 66) dX6_readLine_61 (by decide) ?_ ?_
          · refine zj_iconst dX6_readLine_64 zic_0 ?_
            exact zj_zret hr rfl dX6_readLine_65
          · refine zj_aload_n dX6_readLine_66 rfl ?_
            refine zj_sipush dX6_readLine_67 zsi_275 ?_
            refine zj_cVI1 ml_X6_70 (fun a h => c_X3_take h_o1 h) h_o1 rfl (Nat.le_of_ble_eq_true rfl) (Nat.le_of_ble_eq_true rfl) dX6_readLine_70 (fun r9 s8 => ?_)
            refine zj_if_eq (tgt := 89) dX6_readLine_73 (by decide) ?_ ?_
            · refine zj_iconst dX6_readLine_89 zic_0 ?_
              exact zj_zret hr rfl dX6_readLine_90
            · refine zj_aload_n dX6_readLine_76 rfl ?_
              refine zj_sipush dX6_readLine_77 zsi_m9999 ?_
              refine zj_sipush dX6_readLine_80 zsi_9999 ?_
              refine zj_cVI2 ml_X6_77 (fun a h => c_X3_takeSigned h_o1 h) h_o1 rfl (Nat.le_of_ble_eq_true rfl) (Nat.le_of_ble_eq_true rfl) dX6_readLine_83 (fun r11 s10 => ?_)
              refine zj_if_ne (tgt := 91) dX6_readLine_86 (by decide) ?_ ?_
              · refine zj_iconst dX6_readLine_89 zic_0 ?_
                exact zj_zret hr rfl dX6_readLine_90
              · refine zj_aload_n dX6_readLine_91 rfl ?_
                refine zj_getT dX6_readLine_92 fl_X6_29 rfl h_o0 ?_
                refine zj_aload_n dX6_readLine_95 rfl ?_
                refine zj_getI dX6_readLine_96 fl_X6_9 rfl h_o0 ?_
                refine zj_aload_n dX6_readLine_99 rfl ?_
                refine zj_getI dX6_readLine_100 fl_X6_81 rfl h_o1 ?_
                refine zj_iast dX6_readLine_103 (zt_6_5 _ h_o0) (fun s12 => ?_)
                refine zj_aload_n dX6_readLine_104 rfl ?_
                refine zj_dup dX6_readLine_105 rfl ?_
                refine zj_getI dX6_readLine_106 fl_X6_9 rfl h_o0 ?_
                refine zj_iconst dX6_readLine_109 zic_1 ?_
                refine zj_iadd dX6_readLine_110 ?_
                refine zj_putI dX6_readLine_111 fl_X6_9 rfl h_o0 pd_6_0 rfl rfl (fun s13 => ?_)
                refine zj_aload_n dX6_readLine_114 rfl ?_
                refine zj_getT dX6_readLine_115 fl_X6_32 rfl h_o0 ?_
                refine zj_aload_n dX6_readLine_118 rfl ?_
                refine zj_getI dX6_readLine_119 fl_X6_9 rfl h_o0 ?_
                refine zj_aload_n dX6_readLine_122 rfl ?_
                refine zj_getI dX6_readLine_123 fl_X6_47 rfl h_o0 ?_
                refine zj_iast dX6_readLine_126 (zt_6_6 _ h_o0) (fun s14 => ?_)
                refine zj_aload_n dX6_readLine_127 rfl ?_
                refine zj_bipush dX6_readLine_128 zbi_59 ?_
                refine zj_cVI1 ml_X6_70 (fun a h => c_X3_take h_o1 h) h_o1 rfl (Nat.le_of_ble_eq_true rfl) (Nat.le_of_ble_eq_true rfl) dX6_readLine_130 (fun r16 s15 => ?_)
                exact zj_zretG hr dX6_readLine_133
    · refine zj_aload_n dX6_readLine_9 rfl ?_
      refine zj_iconst dX6_readLine_10 zic_2 ?_
      refine zj_cVI1 ml_X6_62 (fun a h => c_X3_refuse h_o1 h) h_o1 rfl (Nat.le_of_ble_eq_true rfl) (Nat.le_of_ble_eq_true rfl) dX6_readLine_11 (fun r18 s17 => ?_)
      exact zj_zretG hr dX6_readLine_14) hm
def m_X6_joined (p0 : Int32) (p1 : Int32) (p2 : Int32) (s : zSt) : Option (Int32 × zSt) :=
  (if p0 = 42 then
  some (p1 * p2, s)
  else
  (if p0 = 43 then
    some (p1 + p2, s)
    else
    (if p0 = 45 then
      some (p1 - p2, s)
      else
      (if p2 = 0 then
        some (0, s)
        else
        (if p2 = 0 then none else some (p1 / p2, s))))))
set_option maxRecDepth 100000 in
theorem c_X6_joined {w : zWC} {p0 : Int32} {p1 : Int32} {p2 : Int32} {s : zSt}  {a : Int32 × zSt} (hm : m_X6_joined p0 p1 p2 s = some a) : zCn w 0 yX6_joined cX6_joined 3 (some .int) [.int p0, .int p1, .int p2] s (zeI a).1 (zeI a).2 :=
  zCn_of (own := RX6) (lv := [some (.int p0), some (.int p1), some (.int p2)]) (by decide +kernel) rfl (Nat.le_of_ble_eq_true rfl) rfl (fun x hr => by
    unfold m_X6_joined
    refine zj_iload_n dX6_joined_0 rfl ?_
    refine zj_split (fun hs1 => ?_) (fun hs1 => ?_)
    · refine zj_tsE (u := 42) (tgt := 40) hs1 dX6_joined_1 (by decide) (by decide) rfl (by decide) ?_
      refine zj_iload_n dX6_joined_40 rfl ?_
      refine zj_iload_n dX6_joined_41 rfl ?_
      refine zj_imul dX6_joined_42 ?_
      exact zj_iret hr dX6_joined_43
    · refine zj_split (fun hs2 => ?_) (fun hs2 => ?_)
      · refine zj_tsE (u := 43) (tgt := 32) hs2 dX6_joined_1 (by decide) (by decide) rfl (by decide) ?_
        refine zj_iload_n dX6_joined_32 rfl ?_
        refine zj_iload_n dX6_joined_33 rfl ?_
        refine zj_iadd dX6_joined_34 ?_
        exact zj_iret hr dX6_joined_35
      · refine zj_split (fun hs3 => ?_) (fun hs3 => ?_)
        · refine zj_tsE (u := 45) (tgt := 36) hs3 dX6_joined_1 (by decide) (by decide) rfl (by decide) ?_
          refine zj_iload_n dX6_joined_36 rfl ?_
          refine zj_iload_n dX6_joined_37 rfl ?_
          refine zj_isub dX6_joined_38 ?_
          exact zj_iret hr dX6_joined_39
        · refine zj_tsDef (vs := [42, 43, 45]) (tgt := 44) dX6_joined_1 (by decide) (by decide +kernel) (by decide) (by
            intro u hu
            simp only [List.mem_cons, List.not_mem_nil, or_false] at hu
            rcases hu with rfl | rfl | rfl
            · exact hs1
            · exact hs2
            · exact hs3
            ) ?_
          refine zj_iload_n dX6_joined_44 rfl ?_
          refine zj_if_ne (tgt := 52) dX6_joined_45 (by decide) ?_ ?_
          · refine zj_iconst dX6_joined_48 zic_0 ?_
            refine zj_goto (tgt := 55) dX6_joined_49 (by decide) ?_
            exact zj_iret hr dX6_joined_55
          · refine zj_iload_n dX6_joined_52 rfl ?_
            refine zj_iload_n dX6_joined_53 rfl ?_
            refine zj_idiv dX6_joined_54 ?_
            exact zj_iret hr dX6_joined_55) hm
def m_X6_valueOf_125 (o0 : Nat) (p1 : Int32) (o2 : Nat) (rec10 : Int32 → Int32 → zSt → Option (Int32 × zSt)) (l3 : Int32) (l4 : Int32) (s : zSt) : Option (Int32 × zSt) :=
  rec10 l3 (l4 + 1) s
set_option maxRecDepth 100000 in
theorem j_X6_valueOf_125 {o0 : Nat} {p1 : Int32} {o2 : Nat} {rec10 : Int32 → Int32 → zSt → Option (Int32 × zSt)} {l3 : Int32} {l4 : Int32} {s : zSt} {w : zWC} {x : zCX} (hr : zrt x = (some .int))  (h_o0 : zC o0 = 6) (h_o2 : zC o2 = 11) (h_rec10 : ∀ (l3 : Int32) (l4 : Int32) (s : zSt), zJ (zQf w x zeI) w x RX6 cX6_valueOf 6 1 (rec10 l3 l4 s) 10 [some (.ref (zb w + o0)), some (.int p1), some (.ref (zb w + o2)), some (.int l3), some (.int l4), none] [] s) : zJ (zQf w x zeI) w x RX6 cX6_valueOf 6 1 (m_X6_valueOf_125 o0 p1 o2 rec10 l3 l4 s) 125 [some (.ref (zb w + o0)), some (.int p1), some (.ref (zb w + o2)), some (.int l3), some (.int l4), none] [] s := by
  unfold m_X6_valueOf_125
  refine zj_iinc (v2 := l4 + 1) (lv' := [some (.ref (zb w + o0)), some (.int p1), some (.ref (zb w + o2)), some (.int l3), some (.int (l4 + 1)), none]) dX6_valueOf_125 rfl (by rw [zic_1]) (by decide) rfl rfl ?_
  refine zj_goto (tgt := 10) dX6_valueOf_128 (by decide) ?_
  exact h_rec10 _ _ _
def m_X6_valueOf_121 (o0 : Nat) (p1 : Int32) (o2 : Nat) (rec10 : Int32 → Int32 → zSt → Option (Int32 × zSt)) (l3 : Int32) (l4 : Int32) (t0 : Nat) (t1 : Int32) (t2 : Int32) (s : zSt) : Option (Int32 × zSt) :=
  (if t1 < 0 ∨ zN t0 ≤ Int32.toNatClampNeg t1 then none else zlt (zsI s t0 (Int32.toNatClampNeg t1) t2) (fun s1 => m_X6_valueOf_125 o0 p1 o2 rec10 (l3 + 1) l4 s1))
set_option maxRecDepth 100000 in
theorem j_X6_valueOf_121 {o0 : Nat} {p1 : Int32} {o2 : Nat} {rec10 : Int32 → Int32 → zSt → Option (Int32 × zSt)} {l3 : Int32} {l4 : Int32} {t0 : Nat} {t1 : Int32} {t2 : Int32} {s : zSt} {w : zWC} {x : zCX} (hr : zrt x = (some .int))  (h_o0 : zC o0 = 6) (h_o2 : zC o2 = 11) (h_rec10 : ∀ (l3 : Int32) (l4 : Int32) (s : zSt), zJ (zQf w x zeI) w x RX6 cX6_valueOf 6 1 (rec10 l3 l4 s) 10 [some (.ref (zb w + o0)), some (.int p1), some (.ref (zb w + o2)), some (.int l3), some (.int l4), none] [] s) (ht0 : zC t0 = 11) : zJ (zQf w x zeI) w x RX6 cX6_valueOf 6 1 (m_X6_valueOf_121 o0 p1 o2 rec10 l3 l4 t0 t1 t2 s) 121 [some (.ref (zb w + o0)), some (.int p1), some (.ref (zb w + o2)), some (.int l3), some (.int l4), none] [.int t2, .int t1, .ref (zb w + t0)] s := by
  unfold m_X6_valueOf_121
  refine zj_iast dX6_valueOf_121 ht0 (fun s1 => ?_)
  refine zj_iinc (v2 := l3 + 1) (lv' := [some (.ref (zb w + o0)), some (.int p1), some (.ref (zb w + o2)), some (.int (l3 + 1)), some (.int l4), none]) dX6_valueOf_122 rfl (by rw [zic_1]) (by decide) rfl rfl ?_
  exact j_X6_valueOf_125 hr h_o0 h_o2 h_rec10
def m_X6_valueOf_82 (o0 : Nat) (p1 : Int32) (o2 : Nat) (rec10 : Int32 → Int32 → zSt → Option (Int32 × zSt)) (l3 : Int32) (l4 : Int32) (l5 : Int32) (s : zSt) : Option (Int32 × zSt) :=
  (if l3 < Int32.ofNat (zN (zT o0 9)) then
  (if l5 = 3 then
    (if l4 < 0 ∨ zN (zT o0 8) ≤ Int32.toNatClampNeg l4 then none else m_X6_valueOf_121 o0 p1 o2 rec10 l3 l4 (zT o0 9) l3 (zI s (zT o0 8) (Int32.toNatClampNeg l4)) s)
    else
    (if l4 < 0 ∨ zN (zT o0 8) ≤ Int32.toNatClampNeg l4 then none else (if zI s (zT o0 8) (Int32.toNatClampNeg l4) < 0 ∨ zN o2 ≤ Int32.toNatClampNeg (zI s (zT o0 8) (Int32.toNatClampNeg l4)) then none else m_X6_valueOf_121 o0 p1 o2 rec10 l3 l4 (zT o0 9) l3 (zI s o2 (Int32.toNatClampNeg (zI s (zT o0 8) (Int32.toNatClampNeg l4)))) s)))
  else
  m_X6_valueOf_125 o0 p1 o2 rec10 l3 l4 s)
set_option maxRecDepth 100000 in
theorem j_X6_valueOf_82 {o0 : Nat} {p1 : Int32} {o2 : Nat} {rec10 : Int32 → Int32 → zSt → Option (Int32 × zSt)} {l3 : Int32} {l4 : Int32} {l5 : Int32} {s : zSt} {w : zWC} {x : zCX} (hr : zrt x = (some .int))  (h_o0 : zC o0 = 6) (h_o2 : zC o2 = 11) (h_rec10 : ∀ (l3 : Int32) (l4 : Int32) (s : zSt), zJ (zQf w x zeI) w x RX6 cX6_valueOf 6 1 (rec10 l3 l4 s) 10 [some (.ref (zb w + o0)), some (.int p1), some (.ref (zb w + o2)), some (.int l3), some (.int l4), none] [] s) : zJ (zQf w x zeI) w x RX6 cX6_valueOf 6 1 (m_X6_valueOf_82 o0 p1 o2 rec10 l3 l4 l5 s) 82 [some (.ref (zb w + o0)), some (.int p1), some (.ref (zb w + o2)), some (.int l3), some (.int l4), some (.int l5)] [] s := by
  unfold m_X6_valueOf_82
  refine zj_iload_n dX6_valueOf_82 rfl ?_
  refine zj_aload_n dX6_valueOf_83 rfl ?_
  refine zj_getT dX6_valueOf_84 fl_X6_41 rfl h_o0 ?_
  refine zj_alen11 dX6_valueOf_87 (zt_6_9 _ h_o0) ?_
  refine zj_icmp_ge (tgt := 125) dX6_valueOf_88 (by decide) ?_ ?_
  · refine zj_aload_n dX6_valueOf_91 rfl ?_
    refine zj_getT dX6_valueOf_92 fl_X6_41 rfl h_o0 ?_
    refine zj_iload_n dX6_valueOf_95 rfl ?_
    refine zj_iload dX6_valueOf_96 rfl ?_
    refine zj_iconst dX6_valueOf_98 zic_3 ?_
    refine zj_icmp_ne (tgt := 112) dX6_valueOf_99 (by decide) ?_ ?_
    · refine zj_aload_n dX6_valueOf_102 rfl ?_
      refine zj_getT dX6_valueOf_103 fl_X6_38 rfl h_o0 ?_
      refine zj_iload dX6_valueOf_106 rfl ?_
      refine zj_iald dX6_valueOf_108 (zt_6_8 _ h_o0) ?_
      refine zj_goto (tgt := 121) dX6_valueOf_109 (by decide) ?_
      refine zj_weak [true, true, true, true, true, false] rfl ?_
      exact j_X6_valueOf_121 hr h_o0 h_o2 h_rec10 (zt_6_9 _ h_o0)
    · refine zj_aload_n dX6_valueOf_112 rfl ?_
      refine zj_aload_n dX6_valueOf_113 rfl ?_
      refine zj_getT dX6_valueOf_114 fl_X6_38 rfl h_o0 ?_
      refine zj_iload dX6_valueOf_117 rfl ?_
      refine zj_iald dX6_valueOf_119 (zt_6_8 _ h_o0) ?_
      refine zj_iald dX6_valueOf_120 h_o2 ?_
      refine zj_weak [true, true, true, true, true, false] rfl ?_
      exact j_X6_valueOf_121 hr h_o0 h_o2 h_rec10 (zt_6_9 _ h_o0)
  · refine zj_weak [true, true, true, true, true, false] rfl ?_
    exact j_X6_valueOf_125 hr h_o0 h_o2 h_rec10
def bd_X6_valueOf_10 (o0 : Nat) (p1 : Int32) (o2 : Nat) (rec10 : Int32 → Int32 → zSt → Option (Int32 × zSt)) (l3 : Int32) (l4 : Int32) (s : zSt) : Option (Int32 × zSt) :=
  (if p1 + 1 < 0 ∨ zN (zT o0 6) ≤ Int32.toNatClampNeg (p1 + 1) then none else (if l4 < zI s (zT o0 6) (Int32.toNatClampNeg (p1 + 1)) then
  (if l4 < 0 ∨ zN (zT o0 7) ≤ Int32.toNatClampNeg l4 then none else (if zI s (zT o0 7) (Int32.toNatClampNeg l4) = 3 then
    m_X6_valueOf_82 o0 p1 o2 rec10 l3 l4 (zI s (zT o0 7) (Int32.toNatClampNeg l4)) s
    else
    (if zI s (zT o0 7) (Int32.toNatClampNeg l4) = 2 then
      m_X6_valueOf_82 o0 p1 o2 rec10 l3 l4 (zI s (zT o0 7) (Int32.toNatClampNeg l4)) s
      else
      (if l3 < 2 then
        m_X6_valueOf_125 o0 p1 o2 rec10 l3 l4 s
        else
        (if (l3 + (-1)) - 1 < 0 ∨ zN (zT o0 9) ≤ Int32.toNatClampNeg ((l3 + (-1)) - 1) then none else (if l3 + (-1) < 0 ∨ zN (zT o0 9) ≤ Int32.toNatClampNeg (l3 + (-1)) then none else zcl (m_X6_joined (zI s (zT o0 7) (Int32.toNatClampNeg l4)) (zI s (zT o0 9) (Int32.toNatClampNeg ((l3 + (-1)) - 1))) (zI s (zT o0 9) (Int32.toNatClampNeg (l3 + (-1)))) s) (fun r3 s2 => (if (l3 + (-1)) - 1 < 0 ∨ zN (zT o0 9) ≤ Int32.toNatClampNeg ((l3 + (-1)) - 1) then none else zlt (zsI s2 (zT o0 9) (Int32.toNatClampNeg ((l3 + (-1)) - 1)) r3) (fun s4 => m_X6_valueOf_125 o0 p1 o2 rec10 (l3 + (-1)) l4 s4)))))))))
  else
  (if (0 : Int32) < 0 ∨ zN (zT o0 9) ≤ Int32.toNatClampNeg 0 then none else some (zI s (zT o0 9) (Int32.toNatClampNeg 0), s))))
def lp_X6_valueOf_10 (o0 : Nat) (p1 : Int32) (o2 : Nat) : Nat → Int32 → Int32 → zSt → Option (Int32 × zSt)
  | 0, _, _, _ => none
  | n + 1, l3, l4, s => bd_X6_valueOf_10 o0 p1 o2 (fun l3 l4 s => lp_X6_valueOf_10 o0 p1 o2 n l3 l4 s) l3 l4 s
set_option maxRecDepth 100000 in
theorem jb_X6_valueOf_10 {o0 : Nat} {p1 : Int32} {o2 : Nat} {rec10 : Int32 → Int32 → zSt → Option (Int32 × zSt)} {l3 : Int32} {l4 : Int32} {s : zSt} {w : zWC} {x : zCX} (hr : zrt x = (some .int))  (h_o0 : zC o0 = 6) (h_o2 : zC o2 = 11) (h_rec10 : ∀ (l3 : Int32) (l4 : Int32) (s : zSt), zJ (zQf w x zeI) w x RX6 cX6_valueOf 6 1 (rec10 l3 l4 s) 10 [some (.ref (zb w + o0)), some (.int p1), some (.ref (zb w + o2)), some (.int l3), some (.int l4), none] [] s) : zJ (zQf w x zeI) w x RX6 cX6_valueOf 6 1 (bd_X6_valueOf_10 o0 p1 o2 rec10 l3 l4 s) 10 [some (.ref (zb w + o0)), some (.int p1), some (.ref (zb w + o2)), some (.int l3), some (.int l4), none] [] s := by
  unfold bd_X6_valueOf_10
  refine zj_iload dX6_valueOf_10 rfl ?_
  refine zj_aload_n dX6_valueOf_12 rfl ?_
  refine zj_getT dX6_valueOf_13 fl_X6_32 rfl h_o0 ?_
  refine zj_iload_n dX6_valueOf_16 rfl ?_
  refine zj_iconst dX6_valueOf_17 zic_1 ?_
  refine zj_iadd dX6_valueOf_18 ?_
  refine zj_iald dX6_valueOf_19 (zt_6_6 _ h_o0) ?_
  refine zj_icmp_ge (tgt := 131) dX6_valueOf_20 (by decide) ?_ ?_
  · refine zj_aload_n dX6_valueOf_23 rfl ?_
    refine zj_getT dX6_valueOf_24 fl_X6_35 rfl h_o0 ?_
    refine zj_iload dX6_valueOf_27 rfl ?_
    refine zj_iald dX6_valueOf_29 (zt_6_7 _ h_o0) ?_
    refine zj_istore (lv' := [some (.ref (zb w + o0)), some (.int p1), some (.ref (zb w + o2)), some (.int l3), some (.int l4), some (.int (zI s (zT o0 7) (Int32.toNatClampNeg l4)))]) dX6_valueOf_30 (by decide) rfl rfl ?_
    refine zj_iload dX6_valueOf_32 rfl ?_
    refine zj_iconst dX6_valueOf_34 zic_3 ?_
    refine zj_icmp_eq (tgt := 82) dX6_valueOf_35 (by decide) ?_ ?_
    · exact j_X6_valueOf_82 hr h_o0 h_o2 h_rec10
    · refine zj_iload dX6_valueOf_38 rfl ?_
      refine zj_iconst dX6_valueOf_40 zic_2 ?_
      refine zj_icmp_eq (tgt := 82) dX6_valueOf_41 (by decide) ?_ ?_
      · exact j_X6_valueOf_82 hr h_o0 h_o2 h_rec10
      · refine zj_iload_n dX6_valueOf_44 rfl ?_
        refine zj_iconst dX6_valueOf_45 zic_2 ?_
        refine zj_icmp_lt (tgt := 125) dX6_valueOf_46 (by decide) ?_ ?_
        · refine zj_weak [true, true, true, true, true, false] rfl ?_
          exact j_X6_valueOf_125 hr h_o0 h_o2 h_rec10
        · refine zj_iinc (v2 := l3 + (-1)) (lv' := [some (.ref (zb w + o0)), some (.int p1), some (.ref (zb w + o2)), some (.int (l3 + (-1))), some (.int l4), some (.int (zI s (zT o0 7) (Int32.toNatClampNeg l4)))]) dX6_valueOf_49 rfl (by rw [zic_m1]) (by decide) rfl rfl ?_
          refine zj_aload_n dX6_valueOf_52 rfl ?_
          refine zj_getT dX6_valueOf_53 fl_X6_41 rfl h_o0 ?_
          refine zj_iload_n dX6_valueOf_56 rfl ?_
          refine zj_iconst dX6_valueOf_57 zic_1 ?_
          refine zj_isub dX6_valueOf_58 ?_
          refine zj_iload dX6_valueOf_59 rfl ?_
          refine zj_aload_n dX6_valueOf_61 rfl ?_
          refine zj_getT dX6_valueOf_62 fl_X6_41 rfl h_o0 ?_
          refine zj_iload_n dX6_valueOf_65 rfl ?_
          refine zj_iconst dX6_valueOf_66 zic_1 ?_
          refine zj_isub dX6_valueOf_67 ?_
          refine zj_iald dX6_valueOf_68 (zt_6_9 _ h_o0) ?_
          refine zj_aload_n dX6_valueOf_69 rfl ?_
          refine zj_getT dX6_valueOf_70 fl_X6_41 rfl h_o0 ?_
          refine zj_iload_n dX6_valueOf_73 rfl ?_
          refine zj_iald dX6_valueOf_74 (zt_6_9 _ h_o0) ?_
          refine zj_cSI3 ml_X6_113 (fun a h => c_X6_joined  h) (Nat.le_of_ble_eq_true rfl) (Nat.le_of_ble_eq_true rfl) dX6_valueOf_75 (fun r3 s2 => ?_)
          refine zj_iast dX6_valueOf_78 (zt_6_9 _ h_o0) (fun s4 => ?_)
          refine zj_goto (tgt := 125) dX6_valueOf_79 (by decide) ?_
          refine zj_weak [true, true, true, true, true, false] rfl ?_
          exact j_X6_valueOf_125 hr h_o0 h_o2 h_rec10
  · refine zj_aload_n dX6_valueOf_131 rfl ?_
    refine zj_getT dX6_valueOf_132 fl_X6_41 rfl h_o0 ?_
    refine zj_iconst dX6_valueOf_135 zic_0 ?_
    refine zj_iald dX6_valueOf_136 (zt_6_9 _ h_o0) ?_
    exact zj_iret hr dX6_valueOf_137
set_option maxRecDepth 100000 in
theorem jl_X6_valueOf_10 {o0 : Nat} {p1 : Int32} {o2 : Nat} {w : zWC} {x : zCX} (hr : zrt x = (some .int))  (h_o0 : zC o0 = 6) (h_o2 : zC o2 = 11) : ∀ (n : Nat) (l3 : Int32) (l4 : Int32) (s : zSt), zJ (zQf w x zeI) w x RX6 cX6_valueOf 6 1 (lp_X6_valueOf_10 o0 p1 o2 n l3 l4 s) 10 [some (.ref (zb w + o0)), some (.int p1), some (.ref (zb w + o2)), some (.int l3), some (.int l4), none] [] s := by
  intro n
  induction n with
  | zero => intro l3 l4 s; exact zj_none
  | succ n ih => intro l3 l4 s; exact jb_X6_valueOf_10 hr h_o0 h_o2 (fun l3 l4 s => ih l3 l4 s)
def m_X6_valueOf (o0 : Nat) (p1 : Int32) (o2 : Nat) (s : zSt) : Option (Int32 × zSt) :=
  (if p1 < 0 ∨ zN (zT o0 6) ≤ Int32.toNatClampNeg p1 then none else lp_X6_valueOf_10 o0 p1 o2 zFuel 0 (zI s (zT o0 6) (Int32.toNatClampNeg p1)) s)
set_option maxRecDepth 100000 in
theorem c_X6_valueOf {w : zWC} {o0 : Nat} {p1 : Int32} {o2 : Nat} {s : zSt} (h_o0 : zC o0 = 6) (h_o2 : zC o2 = 11) {a : Int32 × zSt} (hm : m_X6_valueOf o0 p1 o2 s = some a) : zCn w 1 yX6_valueOf cX6_valueOf 6 (some .int) [.ref (zb w + o0), .int p1, .ref (zb w + o2)] s (zeI a).1 (zeI a).2 :=
  zCn_of (own := RX6) (lv := [some (.ref (zb w + o0)), some (.int p1), some (.ref (zb w + o2)), none, none, none]) (by decide +kernel) rfl (Nat.le_of_ble_eq_true rfl) rfl (fun x hr => by
    unfold m_X6_valueOf
    refine zj_iconst dX6_valueOf_0 zic_0 ?_
    refine zj_istore_n (lv' := [some (.ref (zb w + o0)), some (.int p1), some (.ref (zb w + o2)), some (.int 0), none, none]) dX6_valueOf_1 rfl (by decide) rfl rfl ?_
    refine zj_aload_n dX6_valueOf_2 rfl ?_
    refine zj_getT dX6_valueOf_3 fl_X6_32 rfl h_o0 ?_
    refine zj_iload_n dX6_valueOf_6 rfl ?_
    refine zj_iald dX6_valueOf_7 (zt_6_6 _ h_o0) ?_
    refine zj_istore (lv' := [some (.ref (zb w + o0)), some (.int p1), some (.ref (zb w + o2)), some (.int 0), some (.int (zI s (zT o0 6) (Int32.toNatClampNeg p1))), none]) dX6_valueOf_8 (by decide) rfl rfl ?_
    exact jl_X6_valueOf_10 hr h_o0 h_o2 zFuel _ _ _) hm
def bd_X6_workAll_2 (o0 : Nat) (rec2 : Int32 → zSt → Option (zSt)) (l1 : Int32) (s : zSt) : Option (zSt) :=
  (if l1 < zI s o0 0 then
  zcl (m_X6_valueOf o0 l1 (zT o0 5) s) (fun r2 s1 => (if l1 < 0 ∨ zN (zT o0 2) ≤ Int32.toNatClampNeg l1 then none else zlt (zsI s1 (zT o0 2) (Int32.toNatClampNeg l1) r2) (fun s3 => (if l1 < 0 ∨ zN (zT o0 5) ≤ Int32.toNatClampNeg l1 then none else (if l1 < 0 ∨ zN (zT o0 2) ≤ Int32.toNatClampNeg l1 then none else (if l1 < 0 ∨ zN (zT o0 3) ≤ Int32.toNatClampNeg l1 then none else zlt (zsI s3 (zT o0 3) (Int32.toNatClampNeg l1) ((zI s3 (zT o0 5) (Int32.toNatClampNeg l1)) - (zI s3 (zT o0 2) (Int32.toNatClampNeg l1)))) (fun s4 => rec2 (l1 + 1) s4)))))))
  else
  some s)
def lp_X6_workAll_2 (o0 : Nat) : Nat → Int32 → zSt → Option (zSt)
  | 0, _, _ => none
  | n + 1, l1, s => bd_X6_workAll_2 o0 (fun l1 s => lp_X6_workAll_2 o0 n l1 s) l1 s
set_option maxRecDepth 100000 in
theorem jb_X6_workAll_2 {o0 : Nat} {rec2 : Int32 → zSt → Option (zSt)} {l1 : Int32} {s : zSt} {w : zWC} {x : zCX} (hr : zrt x = none)  (h_o0 : zC o0 = 6) (h_rec2 : ∀ (l1 : Int32) (s : zSt), zJ (zQf w x zeV) w x RX6 cX6_workAll 2 2 (rec2 l1 s) 2 [some (.ref (zb w + o0)), some (.int l1)] [] s) : zJ (zQf w x zeV) w x RX6 cX6_workAll 2 2 (bd_X6_workAll_2 o0 rec2 l1 s) 2 [some (.ref (zb w + o0)), some (.int l1)] [] s := by
  unfold bd_X6_workAll_2
  refine zj_iload_n dX6_workAll_2 rfl ?_
  refine zj_aload_n dX6_workAll_3 rfl ?_
  refine zj_getI dX6_workAll_4 fl_X6_9 rfl h_o0 ?_
  refine zj_icmp_ge (tgt := 50) dX6_workAll_7 (by decide) ?_ ?_
  · refine zj_aload_n dX6_workAll_10 rfl ?_
    refine zj_getT dX6_workAll_11 fl_X6_18 rfl h_o0 ?_
    refine zj_iload_n dX6_workAll_14 rfl ?_
    refine zj_aload_n dX6_workAll_15 rfl ?_
    refine zj_iload_n dX6_workAll_16 rfl ?_
    refine zj_aload_n dX6_workAll_17 rfl ?_
    refine zj_getT dX6_workAll_18 fl_X6_29 rfl h_o0 ?_
    refine zj_cVI2 ml_X6_109 (fun a h => c_X6_valueOf h_o0 (zt_6_5 _ h_o0) h) h_o0 rfl (Nat.le_of_ble_eq_true rfl) (Nat.le_of_ble_eq_true rfl) dX6_workAll_21 (fun r2 s1 => ?_)
    refine zj_iast dX6_workAll_24 (zt_6_2 _ h_o0) (fun s3 => ?_)
    refine zj_aload_n dX6_workAll_25 rfl ?_
    refine zj_getT dX6_workAll_26 fl_X6_22 rfl h_o0 ?_
    refine zj_iload_n dX6_workAll_29 rfl ?_
    refine zj_aload_n dX6_workAll_30 rfl ?_
    refine zj_getT dX6_workAll_31 fl_X6_29 rfl h_o0 ?_
    refine zj_iload_n dX6_workAll_34 rfl ?_
    refine zj_iald dX6_workAll_35 (zt_6_5 _ h_o0) ?_
    refine zj_aload_n dX6_workAll_36 rfl ?_
    refine zj_getT dX6_workAll_37 fl_X6_18 rfl h_o0 ?_
    refine zj_iload_n dX6_workAll_40 rfl ?_
    refine zj_iald dX6_workAll_41 (zt_6_2 _ h_o0) ?_
    refine zj_isub dX6_workAll_42 ?_
    refine zj_iast dX6_workAll_43 (zt_6_3 _ h_o0) (fun s4 => ?_)
    refine zj_iinc (v2 := l1 + 1) (lv' := [some (.ref (zb w + o0)), some (.int (l1 + 1))]) dX6_workAll_44 rfl (by rw [zic_1]) (by decide) rfl rfl ?_
    refine zj_goto (tgt := 2) dX6_workAll_47 (by decide) ?_
    exact h_rec2 _ _
  · exact zj_vret hr dX6_workAll_50
set_option maxRecDepth 100000 in
theorem jl_X6_workAll_2 {o0 : Nat} {w : zWC} {x : zCX} (hr : zrt x = none)  (h_o0 : zC o0 = 6) : ∀ (n : Nat) (l1 : Int32) (s : zSt), zJ (zQf w x zeV) w x RX6 cX6_workAll 2 2 (lp_X6_workAll_2 o0 n l1 s) 2 [some (.ref (zb w + o0)), some (.int l1)] [] s := by
  intro n
  induction n with
  | zero => intro l1 s; exact zj_none
  | succ n ih => intro l1 s; exact jb_X6_workAll_2 hr h_o0 (fun l1 s => ih l1 s)
def m_X6_workAll (o0 : Nat) (s : zSt) : Option (zSt) :=
  lp_X6_workAll_2 o0 zFuel 0 s
set_option maxRecDepth 100000 in
theorem c_X6_workAll {w : zWC} {o0 : Nat} {s : zSt} (h_o0 : zC o0 = 6) {a : zSt} (hm : m_X6_workAll o0 s = some a) : zCn w 2 yX6_workAll cX6_workAll 2 none [.ref (zb w + o0)] s (zeV a).1 (zeV a).2 :=
  zCn_of (own := RX6) (lv := [some (.ref (zb w + o0)), none]) (by decide +kernel) rfl (Nat.le_of_ble_eq_true rfl) rfl (fun x hr => by
    unfold m_X6_workAll
    refine zj_iconst dX6_workAll_0 zic_0 ?_
    refine zj_istore_n (lv' := [some (.ref (zb w + o0)), some (.int 0)]) dX6_workAll_1 rfl (by decide) rfl rfl ?_
    exact jl_X6_workAll_2 hr h_o0 zFuel _ _) hm
def bd_X6_read_17 (o0 : Nat) (o1 : Nat) (rec17 : Int32 → zSt → Option (Int32 × zSt)) (l2 : Int32) (s : zSt) : Option (Int32 × zSt) :=
  (if 12 < l2 then
  some (0, s)
  else
  (if zI s o1 4 = 0 then
    zcv (m_X6_workAll o0 s) (fun s4 => some (1, s4))
    else
    zcl (m_X6_readLine o0 o1 s) (fun r6 s5 => (if r6 = 0 then
      some (0, s5)
      else
      rec17 (l2 + 1) s5))))
def lp_X6_read_17 (o0 : Nat) (o1 : Nat) : Nat → Int32 → zSt → Option (Int32 × zSt)
  | 0, _, _ => none
  | n + 1, l2, s => bd_X6_read_17 o0 o1 (fun l2 s => lp_X6_read_17 o0 o1 n l2 s) l2 s
set_option maxRecDepth 100000 in
theorem jb_X6_read_17 {o0 : Nat} {o1 : Nat} {rec17 : Int32 → zSt → Option (Int32 × zSt)} {l2 : Int32} {s : zSt} {w : zWC} {x : zCX} (hr : zrt x = (some .boolean))  (h_o0 : zC o0 = 6) (h_o1 : zC o1 = 3) (h_rec17 : ∀ (l2 : Int32) (s : zSt), zJ (zQf w x zeI) w x RX6 cX6_read 3 45 (rec17 l2 s) 17 [some (.ref (zb w + o0)), some (.ref (zb w + o1)), some (.int l2)] [] s) : zJ (zQf w x zeI) w x RX6 cX6_read 3 45 (bd_X6_read_17 o0 o1 rec17 l2 s) 17 [some (.ref (zb w + o0)), some (.ref (zb w + o1)), some (.int l2)] [] s := by
  unfold bd_X6_read_17
  refine zj_iload_n dX6_read_17 rfl ?_
  refine zj_bipush dX6_read_18 zbi_12 ?_
  refine zj_icmp_gt (tgt := 52) dX6_read_20 (by decide) ?_ ?_
  · refine zj_iconst dX6_read_52 zic_0 ?_
    exact zj_zret hr rfl dX6_read_53
  · refine zj_aload_n dX6_read_23 rfl ?_
    refine zj_getI dX6_read_24 fl_X6_50 rfl h_o1 ?_
    refine zj_if_ne (tgt := 36) dX6_read_27 (by decide) ?_ ?_
    · refine zj_aload_n dX6_read_30 rfl ?_
      refine zj_cVV0 ml_X6_55 (fun a h => c_X6_workAll h_o0 h) h_o0 rfl (Nat.le_of_ble_eq_true rfl) (Nat.le_of_ble_eq_true rfl) dX6_read_31 (fun s4 => ?_)
      refine zj_iconst dX6_read_34 zic_1 ?_
      exact zj_zret hr rfl dX6_read_35
    · refine zj_aload_n dX6_read_36 rfl ?_
      refine zj_aload_n dX6_read_37 rfl ?_
      refine zj_cVI1 ml_X6_58 (fun a h => c_X6_readLine h_o0 h_o1 h) h_o0 rfl (Nat.le_of_ble_eq_true rfl) (Nat.le_of_ble_eq_true rfl) dX6_read_38 (fun r6 s5 => ?_)
      refine zj_if_ne (tgt := 46) dX6_read_41 (by decide) ?_ ?_
      · refine zj_iconst dX6_read_44 zic_0 ?_
        exact zj_zret hr rfl dX6_read_45
      · refine zj_iinc (v2 := l2 + 1) (lv' := [some (.ref (zb w + o0)), some (.ref (zb w + o1)), some (.int (l2 + 1))]) dX6_read_46 rfl (by rw [zic_1]) (by decide) rfl rfl ?_
        refine zj_goto (tgt := 17) dX6_read_49 (by decide) ?_
        exact h_rec17 _ _
set_option maxRecDepth 100000 in
theorem jl_X6_read_17 {o0 : Nat} {o1 : Nat} {w : zWC} {x : zCX} (hr : zrt x = (some .boolean))  (h_o0 : zC o0 = 6) (h_o1 : zC o1 = 3) : ∀ (n : Nat) (l2 : Int32) (s : zSt), zJ (zQf w x zeI) w x RX6 cX6_read 3 45 (lp_X6_read_17 o0 o1 n l2 s) 17 [some (.ref (zb w + o0)), some (.ref (zb w + o1)), some (.int l2)] [] s := by
  intro n
  induction n with
  | zero => intro l2 s; exact zj_none
  | succ n ih => intro l2 s; exact jb_X6_read_17 hr h_o0 h_o1 (fun l2 s => ih l2 s)
def m_X6_read (o0 : Nat) (o1 : Nat) (s : zSt) : Option (Int32 × zSt) :=
  zlt (zsI s o0 0 0) (fun s1 => zlt (zsI s1 o0 1 0) (fun s2 => zlt (zsI s2 o0 11 0) (fun s3 => lp_X6_read_17 o0 o1 zFuel 0 s3)))
set_option maxRecDepth 100000 in
theorem c_X6_read {w : zWC} {o0 : Nat} {o1 : Nat} {s : zSt} (h_o0 : zC o0 = 6) (h_o1 : zC o1 = 3) {a : Int32 × zSt} (hm : m_X6_read o0 o1 s = some a) : zCn w 45 yX6_read cX6_read 3 (some .boolean) [.ref (zb w + o0), .ref (zb w + o1)] s (zeI a).1 (zeI a).2 :=
  zCn_of (own := RX6) (lv := [some (.ref (zb w + o0)), some (.ref (zb w + o1)), none]) (by decide +kernel) rfl (Nat.le_of_ble_eq_true rfl) rfl (fun x hr => by
    unfold m_X6_read
    refine zj_aload_n dX6_read_0 rfl ?_
    refine zj_iconst dX6_read_1 zic_0 ?_
    refine zj_putI dX6_read_2 fl_X6_9 rfl h_o0 pd_6_0 rfl rfl (fun s1 => ?_)
    refine zj_aload_n dX6_read_5 rfl ?_
    refine zj_iconst dX6_read_6 zic_0 ?_
    refine zj_putI dX6_read_7 fl_X6_15 rfl h_o0 pd_6_1 rfl rfl (fun s2 => ?_)
    refine zj_aload_n dX6_read_10 rfl ?_
    refine zj_iconst dX6_read_11 zic_0 ?_
    refine zj_putI dX6_read_12 fl_X6_47 rfl h_o0 pd_6_11 rfl rfl (fun s3 => ?_)
    refine zj_iconst dX6_read_15 zic_0 ?_
    refine zj_istore_n (lv' := [some (.ref (zb w + o0)), some (.ref (zb w + o1)), some (.int 0)]) dX6_read_16 rfl (by decide) rfl rfl ?_
    exact jl_X6_read_17 hr h_o0 h_o1 zFuel _ _) hm
def m_X6_lastWith_40 (o0 : Nat) (p1 : Int32) (rec4 : Int32 → Int32 → zSt → Option (Int32 × zSt)) (l3 : Int32) (t0 : Int32) (t1 : Int32) (s : zSt) : Option (Int32 × zSt) :=
  (if l3 < 0 ∨ zN (zT o0 10) ≤ Int32.toNatClampNeg l3 then none else zlt (zsI s (zT o0 10) (Int32.toNatClampNeg l3) (t0 + t1)) (fun s3 => rec4 (t0 + t1) (l3 + 1) s3))
set_option maxRecDepth 100000 in
theorem j_X6_lastWith_40 {o0 : Nat} {p1 : Int32} {rec4 : Int32 → Int32 → zSt → Option (Int32 × zSt)} {l3 : Int32} {t0 : Int32} {t1 : Int32} {s : zSt} {w : zWC} {x : zCX} (hr : zrt x = (some .int))  (h_o0 : zC o0 = 6) (h_rec4 : ∀ (l2 : Int32) (l3 : Int32) (s : zSt), zJ (zQf w x zeI) w x RX6 cX6_lastWith 4 2 (rec4 l2 l3 s) 4 [some (.ref (zb w + o0)), some (.int p1), some (.int l2), some (.int l3)] [] s) : zJ (zQf w x zeI) w x RX6 cX6_lastWith 4 2 (m_X6_lastWith_40 o0 p1 rec4 l3 t0 t1 s) 40 [some (.ref (zb w + o0)), some (.int p1), none, some (.int l3)] [.int t1, .int t0] s := by
  unfold m_X6_lastWith_40
  refine zj_iadd dX6_lastWith_40 ?_
  refine zj_istore_n (lv' := [some (.ref (zb w + o0)), some (.int p1), some (.int (t0 + t1)), some (.int l3)]) dX6_lastWith_41 rfl (by decide) rfl rfl ?_
  refine zj_aload_n dX6_lastWith_42 rfl ?_
  refine zj_getT dX6_lastWith_43 fl_X6_44 rfl h_o0 ?_
  refine zj_iload_n dX6_lastWith_46 rfl ?_
  refine zj_iload_n dX6_lastWith_47 rfl ?_
  refine zj_iast dX6_lastWith_48 (zt_6_10 _ h_o0) (fun s3 => ?_)
  refine zj_iinc (v2 := l3 + 1) (lv' := [some (.ref (zb w + o0)), some (.int p1), some (.int (t0 + t1)), some (.int (l3 + 1))]) dX6_lastWith_49 rfl (by rw [zic_1]) (by decide) rfl rfl ?_
  refine zj_goto (tgt := 4) dX6_lastWith_52 (by decide) ?_
  exact h_rec4 _ _ _
def bd_X6_lastWith_4 (o0 : Nat) (p1 : Int32) (rec4 : Int32 → Int32 → zSt → Option (Int32 × zSt)) (l2 : Int32) (l3 : Int32) (s : zSt) : Option (Int32 × zSt) :=
  (if l3 < zI s o0 0 then
  zcl (m_X6_valueOf o0 l3 (zT o0 10) s) (fun r2 s1 => (if (p1 >>> (l3 &&& 31)) &&& 1 = 1 then
    (if l3 < 0 ∨ zN (zT o0 3) ≤ Int32.toNatClampNeg l3 then none else m_X6_lastWith_40 o0 p1 rec4 l3 r2 (zI s1 (zT o0 3) (Int32.toNatClampNeg l3)) s1)
    else
    m_X6_lastWith_40 o0 p1 rec4 l3 r2 0 s1))
  else
  some (l2, s))
def lp_X6_lastWith_4 (o0 : Nat) (p1 : Int32) : Nat → Int32 → Int32 → zSt → Option (Int32 × zSt)
  | 0, _, _, _ => none
  | n + 1, l2, l3, s => bd_X6_lastWith_4 o0 p1 (fun l2 l3 s => lp_X6_lastWith_4 o0 p1 n l2 l3 s) l2 l3 s
set_option maxRecDepth 100000 in
theorem jb_X6_lastWith_4 {o0 : Nat} {p1 : Int32} {rec4 : Int32 → Int32 → zSt → Option (Int32 × zSt)} {l2 : Int32} {l3 : Int32} {s : zSt} {w : zWC} {x : zCX} (hr : zrt x = (some .int))  (h_o0 : zC o0 = 6) (h_rec4 : ∀ (l2 : Int32) (l3 : Int32) (s : zSt), zJ (zQf w x zeI) w x RX6 cX6_lastWith 4 2 (rec4 l2 l3 s) 4 [some (.ref (zb w + o0)), some (.int p1), some (.int l2), some (.int l3)] [] s) : zJ (zQf w x zeI) w x RX6 cX6_lastWith 4 2 (bd_X6_lastWith_4 o0 p1 rec4 l2 l3 s) 4 [some (.ref (zb w + o0)), some (.int p1), some (.int l2), some (.int l3)] [] s := by
  unfold bd_X6_lastWith_4
  refine zj_iload_n dX6_lastWith_4 rfl ?_
  refine zj_aload_n dX6_lastWith_5 rfl ?_
  refine zj_getI dX6_lastWith_6 fl_X6_9 rfl h_o0 ?_
  refine zj_icmp_ge (tgt := 55) dX6_lastWith_9 (by decide) ?_ ?_
  · refine zj_aload_n dX6_lastWith_12 rfl ?_
    refine zj_iload_n dX6_lastWith_13 rfl ?_
    refine zj_aload_n dX6_lastWith_14 rfl ?_
    refine zj_getT dX6_lastWith_15 fl_X6_44 rfl h_o0 ?_
    refine zj_cVI2 ml_X6_109 (fun a h => c_X6_valueOf h_o0 (zt_6_10 _ h_o0) h) h_o0 rfl (Nat.le_of_ble_eq_true rfl) (Nat.le_of_ble_eq_true rfl) dX6_lastWith_18 (fun r2 s1 => ?_)
    refine zj_iload_n dX6_lastWith_21 rfl ?_
    refine zj_iload_n dX6_lastWith_22 rfl ?_
    refine zj_ishr dX6_lastWith_23 ?_
    refine zj_iconst dX6_lastWith_24 zic_1 ?_
    refine zj_iand dX6_lastWith_25 ?_
    refine zj_iconst dX6_lastWith_26 zic_1 ?_
    refine zj_icmp_ne (tgt := 39) dX6_lastWith_27 (by decide) ?_ ?_
    · refine zj_aload_n dX6_lastWith_30 rfl ?_
      refine zj_getT dX6_lastWith_31 fl_X6_22 rfl h_o0 ?_
      refine zj_iload_n dX6_lastWith_34 rfl ?_
      refine zj_iald dX6_lastWith_35 (zt_6_3 _ h_o0) ?_
      refine zj_goto (tgt := 40) dX6_lastWith_36 (by decide) ?_
      refine zj_weak [true, true, false, true] rfl ?_
      exact j_X6_lastWith_40 hr h_o0 h_rec4
    · refine zj_iconst dX6_lastWith_39 zic_0 ?_
      refine zj_weak [true, true, false, true] rfl ?_
      exact j_X6_lastWith_40 hr h_o0 h_rec4
  · refine zj_iload_n dX6_lastWith_55 rfl ?_
    exact zj_iret hr dX6_lastWith_56
set_option maxRecDepth 100000 in
theorem jl_X6_lastWith_4 {o0 : Nat} {p1 : Int32} {w : zWC} {x : zCX} (hr : zrt x = (some .int))  (h_o0 : zC o0 = 6) : ∀ (n : Nat) (l2 : Int32) (l3 : Int32) (s : zSt), zJ (zQf w x zeI) w x RX6 cX6_lastWith 4 2 (lp_X6_lastWith_4 o0 p1 n l2 l3 s) 4 [some (.ref (zb w + o0)), some (.int p1), some (.int l2), some (.int l3)] [] s := by
  intro n
  induction n with
  | zero => intro l2 l3 s; exact zj_none
  | succ n ih => intro l2 l3 s; exact jb_X6_lastWith_4 hr h_o0 (fun l2 l3 s => ih l2 l3 s)
def m_X6_lastWith (o0 : Nat) (p1 : Int32) (s : zSt) : Option (Int32 × zSt) :=
  lp_X6_lastWith_4 o0 p1 zFuel 0 0 s
set_option maxRecDepth 100000 in
theorem c_X6_lastWith {w : zWC} {o0 : Nat} {p1 : Int32} {s : zSt} (h_o0 : zC o0 = 6) {a : Int32 × zSt} (hm : m_X6_lastWith o0 p1 s = some a) : zCn w 2 yX6_lastWith cX6_lastWith 4 (some .int) [.ref (zb w + o0), .int p1] s (zeI a).1 (zeI a).2 :=
  zCn_of (own := RX6) (lv := [some (.ref (zb w + o0)), some (.int p1), none, none]) (by decide +kernel) rfl (Nat.le_of_ble_eq_true rfl) rfl (fun x hr => by
    unfold m_X6_lastWith
    refine zj_iconst dX6_lastWith_0 zic_0 ?_
    refine zj_istore_n (lv' := [some (.ref (zb w + o0)), some (.int p1), some (.int 0), none]) dX6_lastWith_1 rfl (by decide) rfl rfl ?_
    refine zj_iconst dX6_lastWith_2 zic_0 ?_
    refine zj_istore_n (lv' := [some (.ref (zb w + o0)), some (.int p1), some (.int 0), some (.int 0)]) dX6_lastWith_3 rfl (by decide) rfl rfl ?_
    exact jl_X6_lastWith_4 hr h_o0 zFuel _ _ _) hm
def m_X6_moved (o0 : Nat) (p1 : Int32) (s : zSt) : Option (Int32 × zSt) :=
  zcl (m_X6_lastWith o0 4095 s) (fun r2 s1 => zcl (m_X6_lastWith o0 ((4095 : Int32) &&& (((1 : Int32) <<< (p1 &&& 31)) ^^^ (-1))) s1) (fun r4 s3 => some (r2 - r4, s3)))
set_option maxRecDepth 100000 in
theorem c_X6_moved {w : zWC} {o0 : Nat} {p1 : Int32} {s : zSt} (h_o0 : zC o0 = 6) {a : Int32 × zSt} (hm : m_X6_moved o0 p1 s = some a) : zCn w 3 yX6_moved cX6_moved 3 (some .int) [.ref (zb w + o0), .int p1] s (zeI a).1 (zeI a).2 :=
  zCn_of (own := RX6) (lv := [some (.ref (zb w + o0)), some (.int p1), none]) (by decide +kernel) rfl (Nat.le_of_ble_eq_true rfl) rfl (fun x hr => by
    unfold m_X6_moved
    refine zj_sipush dX6_moved_0 zsi_4095 ?_
    refine zj_istore_n (lv' := [some (.ref (zb w + o0)), some (.int p1), some (.int 4095)]) dX6_moved_3 rfl (by decide) rfl rfl ?_
    refine zj_aload_n dX6_moved_4 rfl ?_
    refine zj_iload_n dX6_moved_5 rfl ?_
    refine zj_cVI1 ml_X6_117 (fun a h => c_X6_lastWith h_o0 h) h_o0 rfl (Nat.le_of_ble_eq_true rfl) (Nat.le_of_ble_eq_true rfl) dX6_moved_6 (fun r2 s1 => ?_)
    refine zj_aload_n dX6_moved_9 rfl ?_
    refine zj_iload_n dX6_moved_10 rfl ?_
    refine zj_iconst dX6_moved_11 zic_1 ?_
    refine zj_iload_n dX6_moved_12 rfl ?_
    refine zj_ishl dX6_moved_13 ?_
    refine zj_iconst dX6_moved_14 zic_m1 ?_
    refine zj_ixor dX6_moved_15 ?_
    refine zj_iand dX6_moved_16 ?_
    refine zj_cVI1 ml_X6_117 (fun a h => c_X6_lastWith h_o0 h) h_o0 rfl (Nat.le_of_ble_eq_true rfl) (Nat.le_of_ble_eq_true rfl) dX6_moved_17 (fun r4 s3 => ?_)
    refine zj_isub dX6_moved_20 ?_
    exact zj_iret hr dX6_moved_21) hm
def bd_X7_append_3 (o0 : Nat) (p1 : Int32) (rec3 : Int32 → zSt → Option (zSt)) (l2 : Int32) (s : zSt) : Option (zSt) :=
  (if l2 < 0 then
  some s
  else
  (if zI s o0 1 < 800 then
    (if zI s o0 1 < 0 ∨ zN (zT o0 0) ≤ Int32.toNatClampNeg (zI s o0 1) then none else zlt (zsI s (zT o0 0) (Int32.toNatClampNeg (zI s o0 1)) (vp_nar .byte ((p1 >>> (l2 &&& 31)).toInt8.toInt32))) (fun s1 => zlt (zsI s1 o0 1 ((zI s1 o0 1) + 1)) (fun s2 => rec3 (l2 + (-8)) s2)))
    else
    some s))
def lp_X7_append_3 (o0 : Nat) (p1 : Int32) : Nat → Int32 → zSt → Option (zSt)
  | 0, _, _ => none
  | n + 1, l2, s => bd_X7_append_3 o0 p1 (fun l2 s => lp_X7_append_3 o0 p1 n l2 s) l2 s
set_option maxRecDepth 100000 in
theorem jb_X7_append_3 {o0 : Nat} {p1 : Int32} {rec3 : Int32 → zSt → Option (zSt)} {l2 : Int32} {s : zSt} {w : zWC} {x : zCX} (hr : zrt x = none)  (h_o0 : zC o0 = 7) (h_rec3 : ∀ (l2 : Int32) (s : zSt), zJ (zQf w x zeV) w x RX7 cX7_append 3 0 (rec3 l2 s) 3 [some (.ref (zb w + o0)), some (.int p1), some (.int l2)] [] s) : zJ (zQf w x zeV) w x RX7 cX7_append 3 0 (bd_X7_append_3 o0 p1 rec3 l2 s) 3 [some (.ref (zb w + o0)), some (.int p1), some (.int l2)] [] s := by
  unfold bd_X7_append_3
  refine zj_iload_n dX7_append_3 rfl ?_
  refine zj_if_lt (tgt := 46) dX7_append_4 (by decide) ?_ ?_
  · exact zj_vret hr dX7_append_46
  · refine zj_aload_n dX7_append_7 rfl ?_
    refine zj_getI dX7_append_8 fl_X7_15 rfl h_o0 ?_
    refine zj_sipush dX7_append_11 zsi_800 ?_
    refine zj_icmp_ge (tgt := 46) dX7_append_14 (by decide) ?_ ?_
    · refine zj_aload_n dX7_append_17 rfl ?_
      refine zj_getT dX7_append_18 fl_X7_9 rfl h_o0 ?_
      refine zj_aload_n dX7_append_21 rfl ?_
      refine zj_getI dX7_append_22 fl_X7_15 rfl h_o0 ?_
      refine zj_iload_n dX7_append_25 rfl ?_
      refine zj_iload_n dX7_append_26 rfl ?_
      refine zj_ishr dX7_append_27 ?_
      refine zj_i2b dX7_append_28 ?_
      refine zj_bast dX7_append_29 (zt_7_0 _ h_o0) (fun s1 => ?_)
      refine zj_aload_n dX7_append_30 rfl ?_
      refine zj_dup dX7_append_31 rfl ?_
      refine zj_getI dX7_append_32 fl_X7_15 rfl h_o0 ?_
      refine zj_iconst dX7_append_35 zic_1 ?_
      refine zj_iadd dX7_append_36 ?_
      refine zj_putI dX7_append_37 fl_X7_15 rfl h_o0 pd_7_1 rfl rfl (fun s2 => ?_)
      refine zj_iinc (v2 := l2 + (-8)) (lv' := [some (.ref (zb w + o0)), some (.int p1), some (.int (l2 + (-8)))]) dX7_append_40 rfl (by rw [zic_m8]) (by decide) rfl rfl ?_
      refine zj_goto (tgt := 3) dX7_append_43 (by decide) ?_
      exact h_rec3 _ _
    · exact zj_vret hr dX7_append_46
set_option maxRecDepth 100000 in
theorem jl_X7_append_3 {o0 : Nat} {p1 : Int32} {w : zWC} {x : zCX} (hr : zrt x = none)  (h_o0 : zC o0 = 7) : ∀ (n : Nat) (l2 : Int32) (s : zSt), zJ (zQf w x zeV) w x RX7 cX7_append 3 0 (lp_X7_append_3 o0 p1 n l2 s) 3 [some (.ref (zb w + o0)), some (.int p1), some (.int l2)] [] s := by
  intro n
  induction n with
  | zero => intro l2 s; exact zj_none
  | succ n ih => intro l2 s; exact jb_X7_append_3 hr h_o0 (fun l2 s => ih l2 s)
def m_X7_append (o0 : Nat) (p1 : Int32) (s : zSt) : Option (zSt) :=
  lp_X7_append_3 o0 p1 zFuel 24 s
set_option maxRecDepth 100000 in
theorem c_X7_append {w : zWC} {o0 : Nat} {p1 : Int32} {s : zSt} (h_o0 : zC o0 = 7) {a : zSt} (hm : m_X7_append o0 p1 s = some a) : zCn w 0 yX7_append cX7_append 3 none [.ref (zb w + o0), .int p1] s (zeV a).1 (zeV a).2 :=
  zCn_of (own := RX7) (lv := [some (.ref (zb w + o0)), some (.int p1), none]) (by decide +kernel) rfl (Nat.le_of_ble_eq_true rfl) rfl (fun x hr => by
    unfold m_X7_append
    refine zj_bipush dX7_append_0 zbi_24 ?_
    refine zj_istore_n (lv' := [some (.ref (zb w + o0)), some (.int p1), some (.int 24)]) dX7_append_2 rfl (by decide) rfl rfl ?_
    exact jl_X7_append_3 hr h_o0 zFuel _ _) hm
def m_X8_feed (o0 : Nat) (p1 : Int32) (p2 : Int32) (p3 : Int32) (p4 : Int32) (p5 : Int32) (s : zSt) : Option (Int32 × zSt) :=
  (if 800 < (zI s (zT o0 0) 1) + 20 then
  some ((-1), s)
  else
  zcv (m_X7_append (zT o0 0) p1 s) (fun s1 => zcv (m_X7_append (zT o0 0) p2 s1) (fun s2 => zcv (m_X7_append (zT o0 0) p3 s2) (fun s3 => zcv (m_X7_append (zT o0 0) p4 s3) (fun s4 => zcv (m_X7_append (zT o0 0) p5 s4) (fun s5 => some (zI s5 (zT o0 0) 1, s5)))))))
set_option maxRecDepth 100000 in
theorem c_X8_feed {w : zWC} {o0 : Nat} {p1 : Int32} {p2 : Int32} {p3 : Int32} {p4 : Int32} {p5 : Int32} {s : zSt} (h_o0 : zC o0 = 8) {a : Int32 × zSt} (hm : m_X8_feed o0 p1 p2 p3 p4 p5 s = some a) : zCn w 1 yX8_feed cX8_feed 6 (some .int) [.ref (zb w + o0), .int p1, .int p2, .int p3, .int p4, .int p5] s (zeI a).1 (zeI a).2 :=
  zCn_of (own := RX8) (lv := [some (.ref (zb w + o0)), some (.int p1), some (.int p2), some (.int p3), some (.int p4), some (.int p5)]) (by decide +kernel) rfl (Nat.le_of_ble_eq_true rfl) rfl (fun x hr => by
    unfold m_X8_feed
    refine zj_aload_n dX8_feed_0 rfl ?_
    refine zj_getT dX8_feed_1 fl_X8_10 rfl h_o0 ?_
    refine zj_getI dX8_feed_4 fl_X8_73 rfl (zt_8_0 _ h_o0) ?_
    refine zj_bipush dX8_feed_7 zbi_20 ?_
    refine zj_iadd dX8_feed_9 ?_
    refine zj_sipush dX8_feed_10 zsi_800 ?_
    refine zj_icmp_le (tgt := 18) dX8_feed_13 (by decide) ?_ ?_
    · refine zj_iconst dX8_feed_16 zic_m1 ?_
      exact zj_iret hr dX8_feed_17
    · refine zj_aload_n dX8_feed_18 rfl ?_
      refine zj_getT dX8_feed_19 fl_X8_10 rfl h_o0 ?_
      refine zj_iload_n dX8_feed_22 rfl ?_
      refine zj_cVV1 ml_X8_77 (fun a h => c_X7_append (zt_8_0 _ h_o0) h) (zt_8_0 _ h_o0) rfl (Nat.le_of_ble_eq_true rfl) (Nat.le_of_ble_eq_true rfl) dX8_feed_23 (fun s1 => ?_)
      refine zj_aload_n dX8_feed_26 rfl ?_
      refine zj_getT dX8_feed_27 fl_X8_10 rfl h_o0 ?_
      refine zj_iload_n dX8_feed_30 rfl ?_
      refine zj_cVV1 ml_X8_77 (fun a h => c_X7_append (zt_8_0 _ h_o0) h) (zt_8_0 _ h_o0) rfl (Nat.le_of_ble_eq_true rfl) (Nat.le_of_ble_eq_true rfl) dX8_feed_31 (fun s2 => ?_)
      refine zj_aload_n dX8_feed_34 rfl ?_
      refine zj_getT dX8_feed_35 fl_X8_10 rfl h_o0 ?_
      refine zj_iload_n dX8_feed_38 rfl ?_
      refine zj_cVV1 ml_X8_77 (fun a h => c_X7_append (zt_8_0 _ h_o0) h) (zt_8_0 _ h_o0) rfl (Nat.le_of_ble_eq_true rfl) (Nat.le_of_ble_eq_true rfl) dX8_feed_39 (fun s3 => ?_)
      refine zj_aload_n dX8_feed_42 rfl ?_
      refine zj_getT dX8_feed_43 fl_X8_10 rfl h_o0 ?_
      refine zj_iload dX8_feed_46 rfl ?_
      refine zj_cVV1 ml_X8_77 (fun a h => c_X7_append (zt_8_0 _ h_o0) h) (zt_8_0 _ h_o0) rfl (Nat.le_of_ble_eq_true rfl) (Nat.le_of_ble_eq_true rfl) dX8_feed_48 (fun s4 => ?_)
      refine zj_aload_n dX8_feed_51 rfl ?_
      refine zj_getT dX8_feed_52 fl_X8_10 rfl h_o0 ?_
      refine zj_iload dX8_feed_55 rfl ?_
      refine zj_cVV1 ml_X8_77 (fun a h => c_X7_append (zt_8_0 _ h_o0) h) (zt_8_0 _ h_o0) rfl (Nat.le_of_ble_eq_true rfl) (Nat.le_of_ble_eq_true rfl) dX8_feed_57 (fun s5 => ?_)
      refine zj_aload_n dX8_feed_60 rfl ?_
      refine zj_getT dX8_feed_61 fl_X8_10 rfl h_o0 ?_
      refine zj_getI dX8_feed_64 fl_X8_73 rfl (zt_8_0 _ h_o0) ?_
      exact zj_iret hr dX8_feed_67) hm
def m_X8_end (o0 : Nat) (p1 : Int32) (s : zSt) : Option (Int32 × zSt) :=
  (if p1 < 0 then
  some ((-1), s)
  else
  (if zI s (zT o0 0) 1 < p1 then
    some ((-1), s)
    else
    zlt (zsI s (zT o0 0) 1 p1) (fun s1 => some (p1, s1))))
set_option maxRecDepth 100000 in
theorem c_X8_end {w : zWC} {o0 : Nat} {p1 : Int32} {s : zSt} (h_o0 : zC o0 = 8) {a : Int32 × zSt} (hm : m_X8_end o0 p1 s = some a) : zCn w 0 yX8_end cX8_end 2 (some .int) [.ref (zb w + o0), .int p1] s (zeI a).1 (zeI a).2 :=
  zCn_of (own := RX8) (lv := [some (.ref (zb w + o0)), some (.int p1)]) (by decide +kernel) rfl (Nat.le_of_ble_eq_true rfl) rfl (fun x hr => by
    unfold m_X8_end
    refine zj_iload_n dX8_end_0 rfl ?_
    refine zj_if_lt (tgt := 15) dX8_end_1 (by decide) ?_ ?_
    · refine zj_iconst dX8_end_15 zic_m1 ?_
      exact zj_iret hr dX8_end_16
    · refine zj_iload_n dX8_end_4 rfl ?_
      refine zj_aload_n dX8_end_5 rfl ?_
      refine zj_getT dX8_end_6 fl_X8_10 rfl h_o0 ?_
      refine zj_getI dX8_end_9 fl_X8_73 rfl (zt_8_0 _ h_o0) ?_
      refine zj_icmp_le (tgt := 17) dX8_end_12 (by decide) ?_ ?_
      · refine zj_iconst dX8_end_15 zic_m1 ?_
        exact zj_iret hr dX8_end_16
      · refine zj_aload_n dX8_end_17 rfl ?_
        refine zj_getT dX8_end_18 fl_X8_10 rfl h_o0 ?_
        refine zj_iload_n dX8_end_21 rfl ?_
        refine zj_putI dX8_end_22 fl_X8_73 rfl (zt_8_0 _ h_o0) pd_7_1 rfl rfl (fun s1 => ?_)
        refine zj_iload_n dX8_end_25 rfl ?_
        exact zj_iret hr dX8_end_26) hm
def m_X8_shed (o0 : Nat) (s : zSt) : Option (Int32 × zSt) :=
  zcv (m_X3_open (zT o0 1) 0 s) (fun s1 => (if zC (zR s1 o0 3) = 5 then zcl (m_X5_read (zR s1 o0 3) (zT o0 1) s1) (fun r4 s3 => zlt (zsI s3 (zT o0 0) 1 0) (fun s5 => (if r4 = 0 then
  some ((-1), s5)
  else
  (if zC (zR s5 o0 2) = 5 then (if zC (zR s5 o0 3) = 5 then zlt (zsR s5 o0 2 (zR s5 o0 3)) (fun s8 => zlt (zsR s8 o0 3 (zR s5 o0 2)) (fun s9 => (if zC (zR s9 o0 2) = 5 then some (zI s9 (zR s9 o0 2) 0, s9) else none))) else none) else none)))) else none))
set_option maxRecDepth 100000 in
theorem c_X8_shed {w : zWC} {o0 : Nat} {s : zSt} (h_o0 : zC o0 = 8) {a : Int32 × zSt} (hm : m_X8_shed o0 s = some a) : zCn w 6 yX8_shed cX8_shed 3 (some .int) [.ref (zb w + o0)] s (zeI a).1 (zeI a).2 :=
  zCn_of (own := RX8) (lv := [some (.ref (zb w + o0)), none, none]) (by decide +kernel) rfl (Nat.le_of_ble_eq_true rfl) rfl (fun x hr => by
    unfold m_X8_shed
    refine zj_aload_n dX8_shed_0 rfl ?_
    refine zj_getT dX8_shed_1 fl_X8_21 rfl h_o0 ?_
    refine zj_iconst dX8_shed_4 zic_0 ?_
    refine zj_cVV1 ml_X8_81 (fun a h => c_X3_open (zt_8_1 _ h_o0) h) (zt_8_1 _ h_o0) rfl (Nat.le_of_ble_eq_true rfl) (Nat.le_of_ble_eq_true rfl) dX8_shed_5 (fun s1 => ?_)
    refine zj_aload_n dX8_shed_8 rfl ?_
    refine zj_getR dX8_shed_9 fl_X8_32 rfl h_o0 ?_
    refine zj_split (fun hq2 => ?_) (fun _ => zj_none)
    refine zj_aload_n dX8_shed_12 rfl ?_
    refine zj_getT dX8_shed_13 fl_X8_21 rfl h_o0 ?_
    refine zj_cVI1 ml_X8_85 (fun a h => c_X5_read hq2 (zt_8_1 _ h_o0) h) hq2 rfl (Nat.le_of_ble_eq_true rfl) (Nat.le_of_ble_eq_true rfl) dX8_shed_16 (fun r4 s3 => ?_)
    refine zj_istore_n (lv' := [some (.ref (zb w + o0)), some (.int r4), none]) dX8_shed_19 rfl (by decide) rfl rfl ?_
    refine zj_aload_n dX8_shed_20 rfl ?_
    refine zj_getT dX8_shed_21 fl_X8_10 rfl h_o0 ?_
    refine zj_iconst dX8_shed_24 zic_0 ?_
    refine zj_putI dX8_shed_25 fl_X8_73 rfl (zt_8_0 _ h_o0) pd_7_1 rfl rfl (fun s5 => ?_)
    refine zj_iload_n dX8_shed_28 rfl ?_
    refine zj_if_ne (tgt := 34) dX8_shed_29 (by decide) ?_ ?_
    · refine zj_iconst dX8_shed_32 zic_m1 ?_
      exact zj_iret hr dX8_shed_33
    · refine zj_aload_n dX8_shed_34 rfl ?_
      refine zj_getR dX8_shed_35 fl_X8_28 rfl h_o0 ?_
      refine zj_split (fun hq6 => ?_) (fun _ => zj_none)
      refine zj_astore_n (lv' := [some (.ref (zb w + o0)), some (.int r4), some (.ref (zb w + (zR s5 o0 2)))]) dX8_shed_38 rfl (by decide) rfl rfl ?_
      refine zj_aload_n dX8_shed_39 rfl ?_
      refine zj_aload_n dX8_shed_40 rfl ?_
      refine zj_getR dX8_shed_41 fl_X8_32 rfl h_o0 ?_
      refine zj_split (fun hq7 => ?_) (fun _ => zj_none)
      refine zj_putR dX8_shed_44 fl_X8_28 rfl h_o0 pd_8_2 rfl rfl (fun s8 => ?_)
      refine zj_aload_n dX8_shed_47 rfl ?_
      refine zj_aload_n dX8_shed_48 rfl ?_
      refine zj_putR dX8_shed_49 fl_X8_32 rfl h_o0 pd_8_3 rfl rfl (fun s9 => ?_)
      refine zj_aload_n dX8_shed_52 rfl ?_
      refine zj_getR dX8_shed_53 fl_X8_28 rfl h_o0 ?_
      refine zj_split (fun hq10 => ?_) (fun _ => zj_none)
      refine zj_getI dX8_shed_56 fl_X8_89 rfl hq10 ?_
      exact zj_iret hr dX8_shed_59) hm
def m_X8_houses (o0 : Nat) (s : zSt) : Option (Int32 × zSt) :=
  zcv (m_X3_open (zT o0 1) 0 s) (fun s1 => (if zC (zR s1 o0 5) = 2 then zcl (m_X2_read (zR s1 o0 5) (zT o0 1) s1) (fun r4 s3 => zlt (zsI s3 (zT o0 0) 1 0) (fun s5 => (if r4 = 0 then
  some ((-1), s5)
  else
  (if zC (zR s5 o0 4) = 2 then (if zC (zR s5 o0 5) = 2 then zlt (zsR s5 o0 4 (zR s5 o0 5)) (fun s8 => zlt (zsR s8 o0 5 (zR s5 o0 4)) (fun s9 => (if zC (zR s9 o0 4) = 2 then some (zI s9 (zR s9 o0 4) 0, s9) else none))) else none) else none)))) else none))
set_option maxRecDepth 100000 in
theorem c_X8_houses {w : zWC} {o0 : Nat} {s : zSt} (h_o0 : zC o0 = 8) {a : Int32 × zSt} (hm : m_X8_houses o0 s = some a) : zCn w 5 yX8_houses cX8_houses 3 (some .int) [.ref (zb w + o0)] s (zeI a).1 (zeI a).2 :=
  zCn_of (own := RX8) (lv := [some (.ref (zb w + o0)), none, none]) (by decide +kernel) rfl (Nat.le_of_ble_eq_true rfl) rfl (fun x hr => by
    unfold m_X8_houses
    refine zj_aload_n dX8_houses_0 rfl ?_
    refine zj_getT dX8_houses_1 fl_X8_21 rfl h_o0 ?_
    refine zj_iconst dX8_houses_4 zic_0 ?_
    refine zj_cVV1 ml_X8_81 (fun a h => c_X3_open (zt_8_1 _ h_o0) h) (zt_8_1 _ h_o0) rfl (Nat.le_of_ble_eq_true rfl) (Nat.le_of_ble_eq_true rfl) dX8_houses_5 (fun s1 => ?_)
    refine zj_aload_n dX8_houses_8 rfl ?_
    refine zj_getR dX8_houses_9 fl_X8_42 rfl h_o0 ?_
    refine zj_split (fun hq2 => ?_) (fun _ => zj_none)
    refine zj_aload_n dX8_houses_12 rfl ?_
    refine zj_getT dX8_houses_13 fl_X8_21 rfl h_o0 ?_
    refine zj_cVI1 ml_X8_92 (fun a h => c_X2_read hq2 (zt_8_1 _ h_o0) h) hq2 rfl (Nat.le_of_ble_eq_true rfl) (Nat.le_of_ble_eq_true rfl) dX8_houses_16 (fun r4 s3 => ?_)
    refine zj_istore_n (lv' := [some (.ref (zb w + o0)), some (.int r4), none]) dX8_houses_19 rfl (by decide) rfl rfl ?_
    refine zj_aload_n dX8_houses_20 rfl ?_
    refine zj_getT dX8_houses_21 fl_X8_10 rfl h_o0 ?_
    refine zj_iconst dX8_houses_24 zic_0 ?_
    refine zj_putI dX8_houses_25 fl_X8_73 rfl (zt_8_0 _ h_o0) pd_7_1 rfl rfl (fun s5 => ?_)
    refine zj_iload_n dX8_houses_28 rfl ?_
    refine zj_if_ne (tgt := 34) dX8_houses_29 (by decide) ?_ ?_
    · refine zj_iconst dX8_houses_32 zic_m1 ?_
      exact zj_iret hr dX8_houses_33
    · refine zj_aload_n dX8_houses_34 rfl ?_
      refine zj_getR dX8_houses_35 fl_X8_38 rfl h_o0 ?_
      refine zj_split (fun hq6 => ?_) (fun _ => zj_none)
      refine zj_astore_n (lv' := [some (.ref (zb w + o0)), some (.int r4), some (.ref (zb w + (zR s5 o0 4)))]) dX8_houses_38 rfl (by decide) rfl rfl ?_
      refine zj_aload_n dX8_houses_39 rfl ?_
      refine zj_aload_n dX8_houses_40 rfl ?_
      refine zj_getR dX8_houses_41 fl_X8_42 rfl h_o0 ?_
      refine zj_split (fun hq7 => ?_) (fun _ => zj_none)
      refine zj_putR dX8_houses_44 fl_X8_38 rfl h_o0 pd_8_4 rfl rfl (fun s8 => ?_)
      refine zj_aload_n dX8_houses_47 rfl ?_
      refine zj_aload_n dX8_houses_48 rfl ?_
      refine zj_putR dX8_houses_49 fl_X8_42 rfl h_o0 pd_8_5 rfl rfl (fun s9 => ?_)
      refine zj_aload_n dX8_houses_52 rfl ?_
      refine zj_getR dX8_houses_53 fl_X8_38 rfl h_o0 ?_
      refine zj_split (fun hq10 => ?_) (fun _ => zj_none)
      refine zj_getI dX8_houses_56 fl_X8_93 rfl hq10 ?_
      exact zj_iret hr dX8_houses_59) hm
def m_X8_sum (o0 : Nat) (s : zSt) : Option (Int32 × zSt) :=
  zcv (m_X3_open (zT o0 1) 1 s) (fun s1 => (if zC (zR s1 o0 7) = 6 then zcl (m_X6_read (zR s1 o0 7) (zT o0 1) s1) (fun r4 s3 => zlt (zsI s3 (zT o0 0) 1 0) (fun s5 => (if r4 = 0 then
  some ((-1), s5)
  else
  (if zC (zR s5 o0 6) = 6 then (if zC (zR s5 o0 7) = 6 then zlt (zsR s5 o0 6 (zR s5 o0 7)) (fun s8 => zlt (zsR s8 o0 7 (zR s5 o0 6)) (fun s9 => (if zC (zR s9 o0 6) = 6 then some (zI s9 (zR s9 o0 6) 0, s9) else none))) else none) else none)))) else none))
set_option maxRecDepth 100000 in
theorem c_X8_sum {w : zWC} {o0 : Nat} {s : zSt} (h_o0 : zC o0 = 8) {a : Int32 × zSt} (hm : m_X8_sum o0 s = some a) : zCn w 46 yX8_sum cX8_sum 3 (some .int) [.ref (zb w + o0)] s (zeI a).1 (zeI a).2 :=
  zCn_of (own := RX8) (lv := [some (.ref (zb w + o0)), none, none]) (by decide +kernel) rfl (Nat.le_of_ble_eq_true rfl) rfl (fun x hr => by
    unfold m_X8_sum
    refine zj_aload_n dX8_sum_0 rfl ?_
    refine zj_getT dX8_sum_1 fl_X8_21 rfl h_o0 ?_
    refine zj_iconst dX8_sum_4 zic_1 ?_
    refine zj_cVV1 ml_X8_81 (fun a h => c_X3_open (zt_8_1 _ h_o0) h) (zt_8_1 _ h_o0) rfl (Nat.le_of_ble_eq_true rfl) (Nat.le_of_ble_eq_true rfl) dX8_sum_5 (fun s1 => ?_)
    refine zj_aload_n dX8_sum_8 rfl ?_
    refine zj_getR dX8_sum_9 fl_X8_52 rfl h_o0 ?_
    refine zj_split (fun hq2 => ?_) (fun _ => zj_none)
    refine zj_aload_n dX8_sum_12 rfl ?_
    refine zj_getT dX8_sum_13 fl_X8_21 rfl h_o0 ?_
    refine zj_cVI1 ml_X8_96 (fun a h => c_X6_read hq2 (zt_8_1 _ h_o0) h) hq2 rfl (Nat.le_of_ble_eq_true rfl) (Nat.le_of_ble_eq_true rfl) dX8_sum_16 (fun r4 s3 => ?_)
    refine zj_istore_n (lv' := [some (.ref (zb w + o0)), some (.int r4), none]) dX8_sum_19 rfl (by decide) rfl rfl ?_
    refine zj_aload_n dX8_sum_20 rfl ?_
    refine zj_getT dX8_sum_21 fl_X8_10 rfl h_o0 ?_
    refine zj_iconst dX8_sum_24 zic_0 ?_
    refine zj_putI dX8_sum_25 fl_X8_73 rfl (zt_8_0 _ h_o0) pd_7_1 rfl rfl (fun s5 => ?_)
    refine zj_iload_n dX8_sum_28 rfl ?_
    refine zj_if_ne (tgt := 34) dX8_sum_29 (by decide) ?_ ?_
    · refine zj_iconst dX8_sum_32 zic_m1 ?_
      exact zj_iret hr dX8_sum_33
    · refine zj_aload_n dX8_sum_34 rfl ?_
      refine zj_getR dX8_sum_35 fl_X8_48 rfl h_o0 ?_
      refine zj_split (fun hq6 => ?_) (fun _ => zj_none)
      refine zj_astore_n (lv' := [some (.ref (zb w + o0)), some (.int r4), some (.ref (zb w + (zR s5 o0 6)))]) dX8_sum_38 rfl (by decide) rfl rfl ?_
      refine zj_aload_n dX8_sum_39 rfl ?_
      refine zj_aload_n dX8_sum_40 rfl ?_
      refine zj_getR dX8_sum_41 fl_X8_52 rfl h_o0 ?_
      refine zj_split (fun hq7 => ?_) (fun _ => zj_none)
      refine zj_putR dX8_sum_44 fl_X8_48 rfl h_o0 pd_8_6 rfl rfl (fun s8 => ?_)
      refine zj_aload_n dX8_sum_47 rfl ?_
      refine zj_aload_n dX8_sum_48 rfl ?_
      refine zj_putR dX8_sum_49 fl_X8_52 rfl h_o0 pd_8_7 rfl rfl (fun s9 => ?_)
      refine zj_aload_n dX8_sum_52 rfl ?_
      refine zj_getR dX8_sum_53 fl_X8_48 rfl h_o0 ?_
      refine zj_split (fun hq10 => ?_) (fun _ => zj_none)
      refine zj_getI dX8_sum_56 fl_X8_97 rfl hq10 ?_
      exact zj_iret hr dX8_sum_59) hm
def m_X8_fault (o0 : Nat) (p1 : Int32) (s : zSt) : Option (Int32 × zSt) :=
  (if p1 = 0 then
  some (zI s (zT o0 1) 10, s)
  else
  (if p1 = 1 then
    some (zI s (zT o0 1) 11, s)
    else
    some ((-1), s)))
set_option maxRecDepth 100000 in
theorem c_X8_fault {w : zWC} {o0 : Nat} {p1 : Int32} {s : zSt} (h_o0 : zC o0 = 8) {a : Int32 × zSt} (hm : m_X8_fault o0 p1 s = some a) : zCn w 0 yX8_fault cX8_fault 2 (some .int) [.ref (zb w + o0), .int p1] s (zeI a).1 (zeI a).2 :=
  zCn_of (own := RX8) (lv := [some (.ref (zb w + o0)), some (.int p1)]) (by decide +kernel) rfl (Nat.le_of_ble_eq_true rfl) rfl (fun x hr => by
    unfold m_X8_fault
    refine zj_iload_n dX8_fault_0 rfl ?_
    refine zj_split (fun hs1 => ?_) (fun hs1 => ?_)
    · refine zj_lsw (off := 27) (tgt := 28) dX8_fault_1 (by decide) (by rw [hs1]; decide) (by decide) ?_
      refine zj_aload_n dX8_fault_28 rfl ?_
      refine zj_getT dX8_fault_29 fl_X8_21 rfl h_o0 ?_
      refine zj_getI dX8_fault_32 fl_X8_98 rfl (zt_8_1 _ h_o0) ?_
      exact zj_iret hr dX8_fault_35
    · refine zj_split (fun hs2 => ?_) (fun hs2 => ?_)
      · refine zj_lsw (off := 35) (tgt := 36) dX8_fault_1 (by decide) (by rw [hs2]; decide) (by decide) ?_
        refine zj_aload_n dX8_fault_36 rfl ?_
        refine zj_getT dX8_fault_37 fl_X8_21 rfl h_o0 ?_
        refine zj_getI dX8_fault_40 fl_X8_101 rfl (zt_8_1 _ h_o0) ?_
        exact zj_iret hr dX8_fault_43
      · refine zj_lsw (off := 43) (tgt := 44) dX8_fault_1 (by decide) (by show Op.lookupswitch.offset [(0, 27), (1, 35)] 43 _ = _; rw [lv_osw hs1 (by decide : Int32.toInt 0 = 0), lv_osw hs2 (by decide : Int32.toInt 1 = 1)]; rfl) (by decide) ?_
        refine zj_iconst dX8_fault_44 zic_m1 ?_
        exact zj_iret hr dX8_fault_45) hm
def bd_X8_commonDivisor_3 (rec3 : Int64 → Int64 → Int32 → zSt → Option (Int64 × zSt)) (l0 : Int64) (l2 : Int64) (l4 : Int32) (s : zSt) : Option (Int64 × zSt) :=
  (if l4 < 200 then
  (if l2 = 0 then
    some (l0, s)
    else
    (if l2 = 0 then none else rec3 l2 (l0 - l0 / l2 * l2) (l4 + 1) s))
  else
  some (l0, s))
def lp_X8_commonDivisor_3  : Nat → Int64 → Int64 → Int32 → zSt → Option (Int64 × zSt)
  | 0, _, _, _, _ => none
  | n + 1, l0, l2, l4, s => bd_X8_commonDivisor_3 (fun l0 l2 l4 s => lp_X8_commonDivisor_3  n l0 l2 l4 s) l0 l2 l4 s
set_option maxRecDepth 100000 in
theorem jb_X8_commonDivisor_3 {rec3 : Int64 → Int64 → Int32 → zSt → Option (Int64 × zSt)} {l0 : Int64} {l2 : Int64} {l4 : Int32} {s : zSt} {w : zWC} {x : zCX} (hr : zrt x = (some .long))  (h_rec3 : ∀ (l0 : Int64) (l2 : Int64) (l4 : Int32) (s : zSt), zJ (zQf w x zeL) w x RX8 cX8_commonDivisor 7 0 (rec3 l0 l2 l4 s) 3 [some (.long l0), none, some (.long l2), none, some (.int l4), none, none] [] s) : zJ (zQf w x zeL) w x RX8 cX8_commonDivisor 7 0 (bd_X8_commonDivisor_3 rec3 l0 l2 l4 s) 3 [some (.long l0), none, some (.long l2), none, some (.int l4), none, none] [] s := by
  unfold bd_X8_commonDivisor_3
  refine zj_iload dX8_commonDivisor_3 rfl ?_
  refine zj_sipush dX8_commonDivisor_5 zsi_200 ?_
  refine zj_icmp_ge (tgt := 33) dX8_commonDivisor_8 (by decide) ?_ ?_
  · refine zj_lload_n dX8_commonDivisor_11 rfl ?_
    refine zj_lconst (v := 0) dX8_commonDivisor_12 rfl ?_
    refine zj_lcmp_eq (tgt := 33) dX8_commonDivisor_13 dX8_commonDivisor_14 (by decide) ?_ ?_
    · refine zj_lload_n dX8_commonDivisor_33 rfl ?_
      exact zj_lret hr dX8_commonDivisor_34
    · refine zj_lload_n dX8_commonDivisor_17 rfl ?_
      refine zj_lload_n dX8_commonDivisor_18 rfl ?_
      refine zj_lrem dX8_commonDivisor_19 ?_
      refine zj_lstore (lv' := [some (.long l0), none, some (.long l2), none, some (.int l4), some (.long (l0 - l0 / l2 * l2)), none]) dX8_commonDivisor_20 (by decide) rfl rfl ?_
      refine zj_lload_n dX8_commonDivisor_22 rfl ?_
      refine zj_lstore_n (lv' := [some (.long l2), none, some (.long l2), none, some (.int l4), some (.long (l0 - l0 / l2 * l2)), none]) dX8_commonDivisor_23 rfl (by decide) rfl rfl ?_
      refine zj_lload dX8_commonDivisor_24 rfl ?_
      refine zj_lstore_n (lv' := [some (.long l2), none, some (.long (l0 - l0 / l2 * l2)), none, some (.int l4), some (.long (l0 - l0 / l2 * l2)), none]) dX8_commonDivisor_26 rfl (by decide) rfl rfl ?_
      refine zj_iinc (v2 := l4 + 1) (lv' := [some (.long l2), none, some (.long (l0 - l0 / l2 * l2)), none, some (.int (l4 + 1)), some (.long (l0 - l0 / l2 * l2)), none]) dX8_commonDivisor_27 rfl (by rw [zic_1]) (by decide) rfl rfl ?_
      refine zj_goto (tgt := 3) dX8_commonDivisor_30 (by decide) ?_
      refine zj_weak [true, false, true, false, true, false, false] rfl ?_
      exact h_rec3 _ _ _ _
  · refine zj_lload_n dX8_commonDivisor_33 rfl ?_
    exact zj_lret hr dX8_commonDivisor_34
set_option maxRecDepth 100000 in
theorem jl_X8_commonDivisor_3  {w : zWC} {x : zCX} (hr : zrt x = (some .long))  : ∀ (n : Nat) (l0 : Int64) (l2 : Int64) (l4 : Int32) (s : zSt), zJ (zQf w x zeL) w x RX8 cX8_commonDivisor 7 0 (lp_X8_commonDivisor_3 n l0 l2 l4 s) 3 [some (.long l0), none, some (.long l2), none, some (.int l4), none, none] [] s := by
  intro n
  induction n with
  | zero => intro l0 l2 l4 s; exact zj_none
  | succ n ih => intro l0 l2 l4 s; exact jb_X8_commonDivisor_3 hr (fun l0 l2 l4 s => ih l0 l2 l4 s)
def m_X8_commonDivisor (q0 : Int64) (q2 : Int64) (s : zSt) : Option (Int64 × zSt) :=
  lp_X8_commonDivisor_3 zFuel q0 q2 0 s
set_option maxRecDepth 100000 in
theorem c_X8_commonDivisor {w : zWC} {q0 : Int64} {q2 : Int64} {s : zSt}  {a : Int64 × zSt} (hm : m_X8_commonDivisor q0 q2 s = some a) : zCn w 0 yX8_commonDivisor cX8_commonDivisor 7 (some .long) [.long q0, .long q2] s (zeL a).1 (zeL a).2 :=
  zCn_of (own := RX8) (lv := [some (.long q0), none, some (.long q2), none, none, none, none]) (by decide +kernel) rfl (Nat.le_of_ble_eq_true rfl) rfl (fun x hr => by
    unfold m_X8_commonDivisor
    refine zj_iconst dX8_commonDivisor_0 zic_0 ?_
    refine zj_istore (lv' := [some (.long q0), none, some (.long q2), none, some (.int 0), none, none]) dX8_commonDivisor_1 (by decide) rfl rfl ?_
    exact jl_X8_commonDivisor_3 hr zFuel _ _ _ _) hm
def m_X8_lowest (q0 : Int64) (q2 : Int64) (p4 : Int32) (s : zSt) : Option (Int64 × zSt) :=
  (if q2 = 0 then
  some ((-1000000000000), s)
  else
  zcl (m_J9_abs_067f4 q0 s) (fun r2 s1 => zcl (m_J9_abs_067f4 q2 s1) (fun r4 s3 => zcl (m_X8_commonDivisor r2 r4 s3) (fun r6 s5 => (if r6 = 0 then
    some ((-1000000000000), s5)
    else
    (if p4 = 1 then
      zcl (m_J9_abs_067f4 q2 s5) (fun r8 s7 => (if r6 = 0 then none else some (r8 / r6, s7)))
      else
      (if q2 < 0 then
        (if r6 = 0 then none else some ((-q0) / r6, s5))
        else
        (if r6 = 0 then none else some (q0 / r6, s5)))))))))
set_option maxRecDepth 100000 in
theorem c_X8_lowest {w : zWC} {q0 : Int64} {q2 : Int64} {p4 : Int32} {s : zSt}  {a : Int64 × zSt} (hm : m_X8_lowest q0 q2 p4 s = some a) : zCn w 1 yX8_lowest cX8_lowest 7 (some .long) [.long q0, .long q2, .int p4] s (zeL a).1 (zeL a).2 :=
  zCn_of (own := RX8) (lv := [some (.long q0), none, some (.long q2), none, some (.int p4), none, none]) (by decide +kernel) rfl (Nat.le_of_ble_eq_true rfl) rfl (fun x hr => by
    unfold m_X8_lowest
    refine zj_lload_n dX8_lowest_0 rfl ?_
    refine zj_lconst (v := 0) dX8_lowest_1 rfl ?_
    refine zj_lcmp_ne (tgt := 10) dX8_lowest_2 dX8_lowest_3 (by decide) ?_ ?_
    · refine zj_ldc2 dX8_lowest_6 kcL_X8_108 ?_
      exact zj_lret hr dX8_lowest_9
    · refine zj_lload_n dX8_lowest_10 rfl ?_
      refine zj_cSL1 ml_X8_234 (fun a h => c_J9_abs_067f4  h) (Nat.le_of_ble_eq_true rfl) (Nat.le_of_ble_eq_true rfl) dX8_lowest_11 (fun r2 s1 => ?_)
      refine zj_lload_n dX8_lowest_14 rfl ?_
      refine zj_cSL1 ml_X8_234 (fun a h => c_J9_abs_067f4  h) (Nat.le_of_ble_eq_true rfl) (Nat.le_of_ble_eq_true rfl) dX8_lowest_15 (fun r4 s3 => ?_)
      refine zj_cSL2 ml_X8_238 (fun a h => c_X8_commonDivisor  h) (Nat.le_of_ble_eq_true rfl) (Nat.le_of_ble_eq_true rfl) dX8_lowest_18 (fun r6 s5 => ?_)
      refine zj_lstore (lv' := [some (.long q0), none, some (.long q2), none, some (.int p4), some (.long r6), none]) dX8_lowest_21 (by decide) rfl rfl ?_
      refine zj_lload dX8_lowest_23 rfl ?_
      refine zj_lconst (v := 0) dX8_lowest_25 rfl ?_
      refine zj_lcmp_ne (tgt := 34) dX8_lowest_26 dX8_lowest_27 (by decide) ?_ ?_
      · refine zj_ldc2 dX8_lowest_30 kcL_X8_108 ?_
        exact zj_lret hr dX8_lowest_33
      · refine zj_iload dX8_lowest_34 rfl ?_
        refine zj_iconst dX8_lowest_36 zic_1 ?_
        refine zj_icmp_ne (tgt := 48) dX8_lowest_37 (by decide) ?_ ?_
        · refine zj_lload_n dX8_lowest_40 rfl ?_
          refine zj_cSL1 ml_X8_234 (fun a h => c_J9_abs_067f4  h) (Nat.le_of_ble_eq_true rfl) (Nat.le_of_ble_eq_true rfl) dX8_lowest_41 (fun r8 s7 => ?_)
          refine zj_lload dX8_lowest_44 rfl ?_
          refine zj_ldiv dX8_lowest_46 ?_
          exact zj_lret hr dX8_lowest_47
        · refine zj_lload_n dX8_lowest_48 rfl ?_
          refine zj_lconst (v := 0) dX8_lowest_49 rfl ?_
          refine zj_lcmp_ge (tgt := 59) dX8_lowest_50 dX8_lowest_51 (by decide) ?_ ?_
          · refine zj_lload_n dX8_lowest_54 rfl ?_
            refine zj_lneg dX8_lowest_55 ?_
            refine zj_goto (tgt := 60) dX8_lowest_56 (by decide) ?_
            refine zj_lload dX8_lowest_60 rfl ?_
            refine zj_ldiv dX8_lowest_62 ?_
            exact zj_lret hr dX8_lowest_63
          · refine zj_lload_n dX8_lowest_59 rfl ?_
            refine zj_lload dX8_lowest_60 rfl ?_
            refine zj_ldiv dX8_lowest_62 ?_
            exact zj_lret hr dX8_lowest_63) hm
def m_X8_rest (o0 : Nat) (p1 : Int32) (p2 : Int32) (p3 : Int32) (s : zSt) : Option (Int64 × zSt) :=
  zcl (m_X8_within p1 (-1) 1 s) (fun r2 s1 => (if r2 = 0 then
  some ((-1000000000000), s1)
  else
  zcl (m_X8_within p2 0 999 s1) (fun r4 s3 => (if r4 = 0 then
    some ((-1000000000000), s3)
    else
    zcl (m_X8_within p3 0 1 s3) (fun r6 s5 => (if r6 = 0 then
      some ((-1000000000000), s5)
      else
      (if zC (zR s5 o0 2) = 5 then zcl (m_X5_restUpper (zR s5 o0 2) p1 p2 s5) (fun r9 s8 => (if zC (zR s8 o0 2) = 5 then zcl (m_X5_lower (zR s8 o0 2) s8) (fun r12 s11 => zcl (m_X8_lowest r9 r12 p3 s11) (fun r14 s13 => some (r14, s13))) else none)) else none)))))))
set_option maxRecDepth 100000 in
theorem c_X8_rest {w : zWC} {o0 : Nat} {p1 : Int32} {p2 : Int32} {p3 : Int32} {s : zSt} (h_o0 : zC o0 = 8) {a : Int64 × zSt} (hm : m_X8_rest o0 p1 p2 p3 s = some a) : zCn w 3 yX8_rest cX8_rest 4 (some .long) [.ref (zb w + o0), .int p1, .int p2, .int p3] s (zeL a).1 (zeL a).2 :=
  zCn_of (own := RX8) (lv := [some (.ref (zb w + o0)), some (.int p1), some (.int p2), some (.int p3)]) (by decide +kernel) rfl (Nat.le_of_ble_eq_true rfl) rfl (fun x hr => by
    unfold m_X8_rest
    refine zj_iload_n dX8_rest_0 rfl ?_
    refine zj_iconst dX8_rest_1 zic_m1 ?_
    refine zj_iconst dX8_rest_2 zic_1 ?_
    refine zj_cSI3 ml_X8_104 (fun a h => c_X8_within  h) (Nat.le_of_ble_eq_true rfl) (Nat.le_of_ble_eq_true rfl) dX8_rest_3 (fun r2 s1 => ?_)
    refine zj_if_eq (tgt := 29) dX8_rest_6 (by decide) ?_ ?_
    · refine zj_ldc2 dX8_rest_29 kcL_X8_108 ?_
      exact zj_lret hr dX8_rest_32
    · refine zj_iload_n dX8_rest_9 rfl ?_
      refine zj_iconst dX8_rest_10 zic_0 ?_
      refine zj_sipush dX8_rest_11 zsi_999 ?_
      refine zj_cSI3 ml_X8_104 (fun a h => c_X8_within  h) (Nat.le_of_ble_eq_true rfl) (Nat.le_of_ble_eq_true rfl) dX8_rest_14 (fun r4 s3 => ?_)
      refine zj_if_eq (tgt := 29) dX8_rest_17 (by decide) ?_ ?_
      · refine zj_ldc2 dX8_rest_29 kcL_X8_108 ?_
        exact zj_lret hr dX8_rest_32
      · refine zj_iload_n dX8_rest_20 rfl ?_
        refine zj_iconst dX8_rest_21 zic_0 ?_
        refine zj_iconst dX8_rest_22 zic_1 ?_
        refine zj_cSI3 ml_X8_104 (fun a h => c_X8_within  h) (Nat.le_of_ble_eq_true rfl) (Nat.le_of_ble_eq_true rfl) dX8_rest_23 (fun r6 s5 => ?_)
        refine zj_if_ne (tgt := 33) dX8_rest_26 (by decide) ?_ ?_
        · refine zj_ldc2 dX8_rest_29 kcL_X8_108 ?_
          exact zj_lret hr dX8_rest_32
        · refine zj_aload_n dX8_rest_33 rfl ?_
          refine zj_getR dX8_rest_34 fl_X8_28 rfl h_o0 ?_
          refine zj_split (fun hq7 => ?_) (fun _ => zj_none)
          refine zj_iload_n dX8_rest_37 rfl ?_
          refine zj_iload_n dX8_rest_38 rfl ?_
          refine zj_cVL2 ml_X8_110 (fun a h => c_X5_restUpper hq7 h) hq7 rfl (Nat.le_of_ble_eq_true rfl) (Nat.le_of_ble_eq_true rfl) dX8_rest_39 (fun r9 s8 => ?_)
          refine zj_aload_n dX8_rest_42 rfl ?_
          refine zj_getR dX8_rest_43 fl_X8_28 rfl h_o0 ?_
          refine zj_split (fun hq10 => ?_) (fun _ => zj_none)
          refine zj_cVL0 ml_X8_114 (fun a h => c_X5_lower hq10 h) hq10 rfl (Nat.le_of_ble_eq_true rfl) (Nat.le_of_ble_eq_true rfl) dX8_rest_46 (fun r12 s11 => ?_)
          refine zj_iload_n dX8_rest_49 rfl ?_
          refine zj_cSL3 ml_X8_118 (fun a h => c_X8_lowest  h) (Nat.le_of_ble_eq_true rfl) (Nat.le_of_ble_eq_true rfl) dX8_rest_50 (fun r14 s13 => ?_)
          exact zj_lret hr dX8_rest_53) hm
