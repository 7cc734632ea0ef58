def m_X9_signed_85 (o0 : Nat) (p1 : Int32) (p2 : Int32) (l3 : Int32) (l5 : Int32) (s : zSt) : Option (Int32 × zSt) :=
  zlt (zsI s o0 2 4) (fun s1 => zlt (zsI s1 o0 3 l3) (fun s2 => some (l5, s2)))
set_option maxRecDepth 100000 in
theorem j_X9_signed_85 {o0 : Nat} {p1 : Int32} {p2 : Int32} {l3 : Int32} {l5 : Int32} {s : zSt} {w : zWC} {x : zCX} (hr : zrt x = (some .int))  (h_o0 : zC o0 = 9) : zJ (zQf w x zeI) w x RX9 cX9_signed 6 2 (m_X9_signed_85 o0 p1 p2 l3 l5 s) 85 [some (.ref (zb w + o0)), none, none, some (.int l3), none, some (.int l5)] [] s := by
  unfold m_X9_signed_85
  refine zj_aload_n dX9_signed_85 rfl ?_
  refine zj_iconst dX9_signed_86 zic_4 ?_
  refine zj_putI dX9_signed_87 fl_X9_192 rfl h_o0 pd_9_2 rfl rfl (fun s1 => ?_)
  refine zj_aload_n dX9_signed_90 rfl ?_
  refine zj_iload_n dX9_signed_91 rfl ?_
  refine zj_putI dX9_signed_92 fl_X9_13 rfl h_o0 pd_9_3 rfl rfl (fun s2 => ?_)
  refine zj_goto (tgt := 102) dX9_signed_95 (by decide) ?_
  refine zj_iload dX9_signed_102 rfl ?_
  exact zj_iret hr dX9_signed_104
def m_X9_signed_71 (o0 : Nat) (p1 : Int32) (p2 : Int32) (l3 : Int32) (t0 : Int32) (s : zSt) : Option (Int32 × zSt) :=
  (if t0 < p1 then
  m_X9_signed_85 o0 p1 p2 l3 t0 s
  else
  (if p2 < t0 then
    m_X9_signed_85 o0 p1 p2 l3 t0 s
    else
    zcv (m_X9_token o0 s) (fun s3 => some (t0, s3))))
set_option maxRecDepth 100000 in
theorem j_X9_signed_71 {o0 : Nat} {p1 : Int32} {p2 : Int32} {l3 : Int32} {t0 : Int32} {s : zSt} {w : zWC} {x : zCX} (hr : zrt x = (some .int))  (h_o0 : zC o0 = 9) : zJ (zQf w x zeI) w x RX9 cX9_signed 6 2 (m_X9_signed_71 o0 p1 p2 l3 t0 s) 71 [some (.ref (zb w + o0)), some (.int p1), some (.int p2), some (.int l3), none, none] [.int t0] s := by
  unfold m_X9_signed_71
  refine zj_istore (lv' := [some (.ref (zb w + o0)), some (.int p1), some (.int p2), some (.int l3), none, some (.int t0)]) dX9_signed_71 (by decide) rfl rfl ?_
  refine zj_iload dX9_signed_73 rfl ?_
  refine zj_iload_n dX9_signed_75 rfl ?_
  refine zj_icmp_lt (tgt := 85) dX9_signed_76 (by decide) ?_ ?_
  · refine zj_weak [true, false, false, true, false, true] rfl ?_
    exact j_X9_signed_85 hr h_o0
  · refine zj_iload dX9_signed_79 rfl ?_
    refine zj_iload_n dX9_signed_81 rfl ?_
    refine zj_icmp_le (tgt := 98) dX9_signed_82 (by decide) ?_ ?_
    · refine zj_weak [true, false, false, true, false, true] rfl ?_
      exact j_X9_signed_85 hr h_o0
    · refine zj_aload_n dX9_signed_98 rfl ?_
      refine zj_cVV0 ml_X9_195 (fun a h => c_X9_token h_o0 h) h_o0 rfl (Nat.le_of_ble_eq_true rfl) (Nat.le_of_ble_eq_true rfl) dX9_signed_99 (fun s3 => ?_)
      refine zj_iload dX9_signed_102 rfl ?_
      exact zj_iret hr dX9_signed_104
def m_X9_signed_39 (o0 : Nat) (p1 : Int32) (p2 : Int32) (l3 : Int32) (l4 : Int32) (s : zSt) : Option (Int32 × zSt) :=
  (if zI s o0 6 = 2 then
  (if l4 = 0 then
    m_X9_signed_71 o0 p1 p2 l3 (zI s o0 8) s
    else
    m_X9_signed_71 o0 p1 p2 l3 (-(zI s o0 8)) s)
  else
  zcv (m_X9_wrong o0 2 s) (fun s4 => some (0, s4)))
set_option maxRecDepth 100000 in
theorem j_X9_signed_39 {o0 : Nat} {p1 : Int32} {p2 : Int32} {l3 : Int32} {l4 : Int32} {s : zSt} {w : zWC} {x : zCX} (hr : zrt x = (some .int))  (h_o0 : zC o0 = 9) : zJ (zQf w x zeI) w x RX9 cX9_signed 6 2 (m_X9_signed_39 o0 p1 p2 l3 l4 s) 39 [some (.ref (zb w + o0)), some (.int p1), some (.int p2), some (.int l3), some (.int l4), none] [] s := by
  unfold m_X9_signed_39
  refine zj_aload_n dX9_signed_39 rfl ?_
  refine zj_getI dX9_signed_40 fl_X9_179 rfl h_o0 ?_
  refine zj_iconst dX9_signed_43 zic_2 ?_
  refine zj_icmp_eq (tgt := 54) dX9_signed_44 (by decide) ?_ ?_
  · refine zj_iload dX9_signed_54 rfl ?_
    refine zj_if_eq (tgt := 67) dX9_signed_56 (by decide) ?_ ?_
    · refine zj_aload_n dX9_signed_67 rfl ?_
      refine zj_getI dX9_signed_68 fl_X9_176 rfl h_o0 ?_
      refine zj_weak [true, true, true, true, false, false] rfl ?_
      exact j_X9_signed_71 hr h_o0
    · refine zj_aload_n dX9_signed_59 rfl ?_
      refine zj_getI dX9_signed_60 fl_X9_176 rfl h_o0 ?_
      refine zj_ineg dX9_signed_63 ?_
      refine zj_goto (tgt := 71) dX9_signed_64 (by decide) ?_
      refine zj_weak [true, true, true, true, false, false] rfl ?_
      exact j_X9_signed_71 hr h_o0
  · refine zj_aload_n dX9_signed_47 rfl ?_
    refine zj_iconst dX9_signed_48 zic_2 ?_
    refine zj_cVV1 ml_X9_242 (fun a h => c_X9_wrong h_o0 h) h_o0 rfl (Nat.le_of_ble_eq_true rfl) (Nat.le_of_ble_eq_true rfl) dX9_signed_49 (fun s4 => ?_)
    refine zj_iconst dX9_signed_52 zic_0 ?_
    exact zj_iret hr dX9_signed_53
def m_X9_signed_28 (o0 : Nat) (p1 : Int32) (p2 : Int32) (l3 : Int32) (t0 : Int32) (s : zSt) : Option (Int32 × zSt) :=
  (if t0 = 0 then
  m_X9_signed_39 o0 p1 p2 l3 t0 s
  else
  zcv (m_X9_token o0 s) (fun s5 => m_X9_signed_39 o0 p1 p2 l3 t0 s5))
set_option maxRecDepth 100000 in
theorem j_X9_signed_28 {o0 : Nat} {p1 : Int32} {p2 : Int32} {l3 : Int32} {t0 : Int32} {s : zSt} {w : zWC} {x : zCX} (hr : zrt x = (some .int))  (h_o0 : zC o0 = 9) : zJ (zQf w x zeI) w x RX9 cX9_signed 6 2 (m_X9_signed_28 o0 p1 p2 l3 t0 s) 28 [some (.ref (zb w + o0)), some (.int p1), some (.int p2), some (.int l3), none, none] [.int t0] s := by
  unfold m_X9_signed_28
  refine zj_istore (lv' := [some (.ref (zb w + o0)), some (.int p1), some (.int p2), some (.int l3), some (.int t0), none]) dX9_signed_28 (by decide) rfl rfl ?_
  refine zj_iload dX9_signed_30 rfl ?_
  refine zj_if_eq (tgt := 39) dX9_signed_32 (by decide) ?_ ?_
  · exact j_X9_signed_39 hr h_o0
  · refine zj_aload_n dX9_signed_35 rfl ?_
    refine zj_cVV0 ml_X9_195 (fun a h => c_X9_token h_o0 h) h_o0 rfl (Nat.le_of_ble_eq_true rfl) (Nat.le_of_ble_eq_true rfl) dX9_signed_36 (fun s5 => ?_)
    exact j_X9_signed_39 hr h_o0
def m_X9_signed (o0 : Nat) (p1 : Int32) (p2 : Int32) (s : zSt) : Option (Int32 × zSt) :=
  (if 0 < zI s o0 2 then
  some (0, s)
  else
  (if zI s o0 6 = 45 then
    m_X9_signed_28 o0 p1 p2 (zI s o0 7) 1 s
    else
    m_X9_signed_28 o0 p1 p2 (zI s o0 7) 0 s))
set_option maxRecDepth 100000 in
theorem c_X9_signed {w : zWC} {o0 : Nat} {p1 : Int32} {p2 : Int32} {s : zSt} (h_o0 : zC o0 = 9) {a : Int32 × zSt} (hm : m_X9_signed o0 p1 p2 s = some a) : zCn w 2 yX9_signed cX9_signed 6 (some .int) [.ref (zb w + o0), .int p1, .int p2] s (zeI a).1 (zeI a).2 :=
  zCn_of (own := RX9) (lv := [some (.ref (zb w + o0)), some (.int p1), some (.int p2), none, none, none]) (by decide +kernel) rfl (Nat.le_of_ble_eq_true rfl) rfl (fun x hr => by
    unfold m_X9_signed
    refine zj_aload_n dX9_signed_0 rfl ?_
    refine zj_getI dX9_signed_1 fl_X9_192 rfl h_o0 ?_
    refine zj_if_le (tgt := 9) dX9_signed_4 (by decide) ?_ ?_
    · refine zj_iconst dX9_signed_7 zic_0 ?_
      exact zj_iret hr dX9_signed_8
    · refine zj_aload_n dX9_signed_9 rfl ?_
      refine zj_getI dX9_signed_10 fl_X9_169 rfl h_o0 ?_
      refine zj_istore_n (lv' := [some (.ref (zb w + o0)), some (.int p1), some (.int p2), some (.int (zI s o0 7)), none, none]) dX9_signed_13 rfl (by decide) rfl rfl ?_
      refine zj_aload_n dX9_signed_14 rfl ?_
      refine zj_getI dX9_signed_15 fl_X9_179 rfl h_o0 ?_
      refine zj_bipush dX9_signed_18 zbi_45 ?_
      refine zj_icmp_ne (tgt := 27) dX9_signed_20 (by decide) ?_ ?_
      · refine zj_iconst dX9_signed_23 zic_1 ?_
        refine zj_goto (tgt := 28) dX9_signed_24 (by decide) ?_
        exact j_X9_signed_28 hr h_o0
      · refine zj_iconst dX9_signed_27 zic_0 ?_
        exact j_X9_signed_28 hr h_o0) hm
def m_X9_named_33 (o0 : Nat) (p1 : Int32) (s : zSt) : Option (Int64 × zSt) :=
  (if zI s o0 2 = 0 then
  zcv (m_X9_token o0 s) (fun s4 => some (zL s o0 9, s4))
  else
  some (zL s o0 9, s))
set_option maxRecDepth 100000 in
theorem j_X9_named_33 {o0 : Nat} {p1 : Int32} {s : zSt} {w : zWC} {x : zCX} (hr : zrt x = (some .long))  (h_o0 : zC o0 = 9) : zJ (zQf w x zeL) w x RX9 cX9_named 4 2 (m_X9_named_33 o0 p1 s) 33 [some (.ref (zb w + o0)), none, none, none] [] s := by
  unfold m_X9_named_33
  refine zj_aload_n dX9_named_33 rfl ?_
  refine zj_getL dX9_named_34 fl_X9_172 rfl h_o0 ?_
  refine zj_lstore_n (lv' := [some (.ref (zb w + o0)), none, some (.long (zL s o0 9)), none]) dX9_named_37 rfl (by decide) rfl rfl ?_
  refine zj_aload_n dX9_named_38 rfl ?_
  refine zj_getI dX9_named_39 fl_X9_192 rfl h_o0 ?_
  refine zj_if_ne (tgt := 49) dX9_named_42 (by decide) ?_ ?_
  · refine zj_aload_n dX9_named_45 rfl ?_
    refine zj_cVV0 ml_X9_195 (fun a h => c_X9_token h_o0 h) h_o0 rfl (Nat.le_of_ble_eq_true rfl) (Nat.le_of_ble_eq_true rfl) dX9_named_46 (fun s4 => ?_)
    refine zj_lload_n dX9_named_49 rfl ?_
    exact zj_lret hr dX9_named_50
  · refine zj_lload_n dX9_named_49 rfl ?_
    exact zj_lret hr dX9_named_50
def m_X9_named (o0 : Nat) (p1 : Int32) (s : zSt) : Option (Int64 × zSt) :=
  (if 0 < zI s o0 2 then
  some (0, s)
  else
  zcl (m_X9_isName o0 s) (fun r2 s1 => (if r2 = 0 then
    zcv (m_X9_wrong o0 2 s1) (fun s3 => m_X9_named_33 o0 p1 s3)
    else
    (if p1 = 0 then
      m_X9_named_33 o0 p1 s1
      else
      zcv (m_X9_wrong o0 3 s1) (fun s5 => m_X9_named_33 o0 p1 s5)))))
set_option maxRecDepth 100000 in
theorem c_X9_named {w : zWC} {o0 : Nat} {p1 : Int32} {s : zSt} (h_o0 : zC o0 = 9) {a : Int64 × zSt} (hm : m_X9_named o0 p1 s = some a) : zCn w 2 yX9_named cX9_named 4 (some .long) [.ref (zb w + o0), .int p1] s (zeL a).1 (zeL a).2 :=
  zCn_of (own := RX9) (lv := [some (.ref (zb w + o0)), some (.int p1), none, none]) (by decide +kernel) rfl (Nat.le_of_ble_eq_true rfl) rfl (fun x hr => by
    unfold m_X9_named
    refine zj_aload_n dX9_named_0 rfl ?_
    refine zj_getI dX9_named_1 fl_X9_192 rfl h_o0 ?_
    refine zj_if_le (tgt := 9) dX9_named_4 (by decide) ?_ ?_
    · refine zj_lconst (v := 0) dX9_named_7 rfl ?_
      exact zj_lret hr dX9_named_8
    · refine zj_aload_n dX9_named_9 rfl ?_
      refine zj_cVI0 ml_X9_245 (fun a h => c_X9_isName h_o0 h) h_o0 rfl (Nat.le_of_ble_eq_true rfl) (Nat.le_of_ble_eq_true rfl) dX9_named_10 (fun r2 s1 => ?_)
      refine zj_if_ne (tgt := 24) dX9_named_13 (by decide) ?_ ?_
      · refine zj_aload_n dX9_named_16 rfl ?_
        refine zj_iconst dX9_named_17 zic_2 ?_
        refine zj_cVV1 ml_X9_242 (fun a h => c_X9_wrong h_o0 h) h_o0 rfl (Nat.le_of_ble_eq_true rfl) (Nat.le_of_ble_eq_true rfl) dX9_named_18 (fun s3 => ?_)
        refine zj_goto (tgt := 33) dX9_named_21 (by decide) ?_
        refine zj_weak [true, false, false, false] rfl ?_
        exact j_X9_named_33 hr h_o0
      · refine zj_iload_n dX9_named_24 rfl ?_
        refine zj_if_eq (tgt := 33) dX9_named_25 (by decide) ?_ ?_
        · refine zj_weak [true, false, false, false] rfl ?_
          exact j_X9_named_33 hr h_o0
        · refine zj_aload_n dX9_named_28 rfl ?_
          refine zj_iconst dX9_named_29 zic_3 ?_
          refine zj_cVV1 ml_X9_242 (fun a h => c_X9_wrong h_o0 h) h_o0 rfl (Nat.le_of_ble_eq_true rfl) (Nat.le_of_ble_eq_true rfl) dX9_named_30 (fun s5 => ?_)
          refine zj_weak [true, false, false, false] rfl ?_
          exact j_X9_named_33 hr h_o0) hm
def m_X9_plainOf (p0 : Int32) (s : zSt) : Option (Int32 × zSt) :=
  (if p0 = 0 then
  some (50, s)
  else
  (if p0 = 2 then
    some (50, s)
    else
    (if p0 = 4 then
      some (50, s)
      else
      (if p0 = 1 then
        some (5, s)
        else
        (if p0 = 5 then
          some (90, s)
          else
          (if p0 = 6 then
            some (1, s)
            else
            some (0, s)))))))
set_option maxRecDepth 100000 in
theorem c_X9_plainOf {w : zWC} {p0 : Int32} {s : zSt}  {a : Int32 × zSt} (hm : m_X9_plainOf p0 s = some a) : zCn w 0 yX9_plainOf cX9_plainOf 1 (some .int) [.int p0] s (zeI a).1 (zeI a).2 :=
  zCn_of (own := RX9) (lv := [some (.int p0)]) (by decide +kernel) rfl (Nat.le_of_ble_eq_true rfl) rfl (fun x hr => by
    unfold m_X9_plainOf
    refine zj_iload_n dX9_plainOf_0 rfl ?_
    refine zj_if_eq (tgt := 14) dX9_plainOf_1 (by decide) ?_ ?_
    · refine zj_bipush dX9_plainOf_14 zbi_50 ?_
      refine zj_goto (tgt := 49) dX9_plainOf_16 (by decide) ?_
      exact zj_iret hr dX9_plainOf_49
    · refine zj_iload_n dX9_plainOf_4 rfl ?_
      refine zj_iconst dX9_plainOf_5 zic_2 ?_
      refine zj_icmp_eq (tgt := 14) dX9_plainOf_6 (by decide) ?_ ?_
      · refine zj_bipush dX9_plainOf_14 zbi_50 ?_
        refine zj_goto (tgt := 49) dX9_plainOf_16 (by decide) ?_
        exact zj_iret hr dX9_plainOf_49
      · refine zj_iload_n dX9_plainOf_9 rfl ?_
        refine zj_iconst dX9_plainOf_10 zic_4 ?_
        refine zj_icmp_ne (tgt := 19) dX9_plainOf_11 (by decide) ?_ ?_
        · refine zj_bipush dX9_plainOf_14 zbi_50 ?_
          refine zj_goto (tgt := 49) dX9_plainOf_16 (by decide) ?_
          exact zj_iret hr dX9_plainOf_49
        · refine zj_iload_n dX9_plainOf_19 rfl ?_
          refine zj_iconst dX9_plainOf_20 zic_1 ?_
          refine zj_icmp_ne (tgt := 28) dX9_plainOf_21 (by decide) ?_ ?_
          · refine zj_iconst dX9_plainOf_24 zic_5 ?_
            refine zj_goto (tgt := 49) dX9_plainOf_25 (by decide) ?_
            exact zj_iret hr dX9_plainOf_49
          · refine zj_iload_n dX9_plainOf_28 rfl ?_
            refine zj_iconst dX9_plainOf_29 zic_5 ?_
            refine zj_icmp_ne (tgt := 38) dX9_plainOf_30 (by decide) ?_ ?_
            · refine zj_bipush dX9_plainOf_33 zbi_90 ?_
              refine zj_goto (tgt := 49) dX9_plainOf_35 (by decide) ?_
              exact zj_iret hr dX9_plainOf_49
            · refine zj_iload_n dX9_plainOf_38 rfl ?_
              refine zj_bipush dX9_plainOf_39 zbi_6 ?_
              refine zj_icmp_ne (tgt := 48) dX9_plainOf_41 (by decide) ?_ ?_
              · refine zj_iconst dX9_plainOf_44 zic_1 ?_
                refine zj_goto (tgt := 49) dX9_plainOf_45 (by decide) ?_
                exact zj_iret hr dX9_plainOf_49
              · refine zj_iconst dX9_plainOf_48 zic_0 ?_
                exact zj_iret hr dX9_plainOf_49) hm
def m_X9_which (o0 : Nat) (s : zSt) : Option (Int32 × zSt) :=
  zcl (m_X9_isWord o0 1650551916 s) (fun r2 s1 => (if r2 = 0 then
  zcl (m_X9_isWord o0 7499620 s1) (fun r4 s3 => (if r4 = 0 then
    zcl (m_X9_isWord o0 2003399269 s3) (fun r6 s5 => (if r6 = 0 then
      zcl (m_X9_isWord o0 1684106608 s5) (fun r8 s7 => (if r8 = 0 then
        zcl (m_X9_isWord o0 491327153267 s7) (fun r10 s9 => (if r10 = 0 then
          zcl (m_X9_isWord o0 2053468783 s9) (fun r12 s11 => (if r12 = 0 then
            zcl (m_X9_isWord o0 427121010032 s11) (fun r14 s13 => (if r14 = 0 then
              zcl (m_X9_isWord o0 2002874989 s13) (fun r16 s15 => (if r16 = 0 then
                zcl (m_X9_isWord o0 1769107310 s15) (fun r18 s17 => (if r18 = 0 then
                  some ((-1), s17)
                  else
                  some (10, s17)))
                else
                some (9, s15)))
              else
              some (8, s13)))
            else
            some (7, s11)))
          else
          some (6, s9)))
        else
        some (5, s7)))
      else
      some (4, s5)))
    else
    some (3, s3)))
  else
  some (0, s1)))
set_option maxRecDepth 100000 in
theorem c_X9_which {w : zWC} {o0 : Nat} {s : zSt} (h_o0 : zC o0 = 9) {a : Int32 × zSt} (hm : m_X9_which o0 s = some a) : zCn w 1 yX9_which cX9_which 1 (some .int) [.ref (zb w + o0)] s (zeI a).1 (zeI a).2 :=
  zCn_of (own := RX9) (lv := [some (.ref (zb w + o0))]) (by decide +kernel) rfl (Nat.le_of_ble_eq_true rfl) rfl (fun x hr => by
    unfold m_X9_which
    refine zj_aload_n dX9_which_0 rfl ?_
    refine zj_ldc2 dX9_which_1 kcL_X9_198 ?_
    refine zj_cVI1 ml_X9_238 (fun a h => c_X9_isWord h_o0 h) h_o0 rfl (Nat.le_of_ble_eq_true rfl) (Nat.le_of_ble_eq_true rfl) dX9_which_4 (fun r2 s1 => ?_)
    refine zj_if_eq (tgt := 14) dX9_which_7 (by decide) ?_ ?_
    · refine zj_aload_n dX9_which_14 rfl ?_
      refine zj_ldc2 dX9_which_15 kcL_X9_204 ?_
      refine zj_cVI1 ml_X9_238 (fun a h => c_X9_isWord h_o0 h) h_o0 rfl (Nat.le_of_ble_eq_true rfl) (Nat.le_of_ble_eq_true rfl) dX9_which_18 (fun r4 s3 => ?_)
      refine zj_if_eq (tgt := 28) dX9_which_21 (by decide) ?_ ?_
      · refine zj_aload_n dX9_which_28 rfl ?_
        refine zj_ldc2 dX9_which_29 kcL_X9_206 ?_
        refine zj_cVI1 ml_X9_238 (fun a h => c_X9_isWord h_o0 h) h_o0 rfl (Nat.le_of_ble_eq_true rfl) (Nat.le_of_ble_eq_true rfl) dX9_which_32 (fun r6 s5 => ?_)
        refine zj_if_eq (tgt := 42) dX9_which_35 (by decide) ?_ ?_
        · refine zj_aload_n dX9_which_42 rfl ?_
          refine zj_ldc2 dX9_which_43 kcL_X9_208 ?_
          refine zj_cVI1 ml_X9_238 (fun a h => c_X9_isWord h_o0 h) h_o0 rfl (Nat.le_of_ble_eq_true rfl) (Nat.le_of_ble_eq_true rfl) dX9_which_46 (fun r8 s7 => ?_)
          refine zj_if_eq (tgt := 56) dX9_which_49 (by decide) ?_ ?_
          · refine zj_aload_n dX9_which_56 rfl ?_
            refine zj_ldc2 dX9_which_57 kcL_X9_210 ?_
            refine zj_cVI1 ml_X9_238 (fun a h => c_X9_isWord h_o0 h) h_o0 rfl (Nat.le_of_ble_eq_true rfl) (Nat.le_of_ble_eq_true rfl) dX9_which_60 (fun r10 s9 => ?_)
            refine zj_if_eq (tgt := 71) dX9_which_63 (by decide) ?_ ?_
            · refine zj_aload_n dX9_which_71 rfl ?_
              refine zj_ldc2 dX9_which_72 kcL_X9_212 ?_
              refine zj_cVI1 ml_X9_238 (fun a h => c_X9_isWord h_o0 h) h_o0 rfl (Nat.le_of_ble_eq_true rfl) (Nat.le_of_ble_eq_true rfl) dX9_which_75 (fun r12 s11 => ?_)
              refine zj_if_eq (tgt := 86) dX9_which_78 (by decide) ?_ ?_
              · refine zj_aload_n dX9_which_86 rfl ?_
                refine zj_ldc2 dX9_which_87 kcL_X9_214 ?_
                refine zj_cVI1 ml_X9_238 (fun a h => c_X9_isWord h_o0 h) h_o0 rfl (Nat.le_of_ble_eq_true rfl) (Nat.le_of_ble_eq_true rfl) dX9_which_90 (fun r14 s13 => ?_)
                refine zj_if_eq (tgt := 101) dX9_which_93 (by decide) ?_ ?_
                · refine zj_aload_n dX9_which_101 rfl ?_
                  refine zj_ldc2 dX9_which_102 kcL_X9_216 ?_
                  refine zj_cVI1 ml_X9_238 (fun a h => c_X9_isWord h_o0 h) h_o0 rfl (Nat.le_of_ble_eq_true rfl) (Nat.le_of_ble_eq_true rfl) dX9_which_105 (fun r16 s15 => ?_)
                  refine zj_if_eq (tgt := 116) dX9_which_108 (by decide) ?_ ?_
                  · refine zj_aload_n dX9_which_116 rfl ?_
                    refine zj_ldc2 dX9_which_117 kcL_X9_218 ?_
                    refine zj_cVI1 ml_X9_238 (fun a h => c_X9_isWord h_o0 h) h_o0 rfl (Nat.le_of_ble_eq_true rfl) (Nat.le_of_ble_eq_true rfl) dX9_which_120 (fun r18 s17 => ?_)
                    refine zj_if_eq (tgt := 131) dX9_which_123 (by decide) ?_ ?_
                    · refine zj_iconst dX9_which_131 zic_m1 ?_
                      exact zj_iret hr dX9_which_132
                    · refine zj_bipush dX9_which_126 zbi_10 ?_
                      refine zj_goto (tgt := 132) dX9_which_128 (by decide) ?_
                      exact zj_iret hr dX9_which_132
                  · refine zj_bipush dX9_which_111 zbi_9 ?_
                    refine zj_goto (tgt := 132) dX9_which_113 (by decide) ?_
                    exact zj_iret hr dX9_which_132
                · refine zj_bipush dX9_which_96 zbi_8 ?_
                  refine zj_goto (tgt := 132) dX9_which_98 (by decide) ?_
                  exact zj_iret hr dX9_which_132
              · refine zj_bipush dX9_which_81 zbi_7 ?_
                refine zj_goto (tgt := 132) dX9_which_83 (by decide) ?_
                exact zj_iret hr dX9_which_132
            · refine zj_bipush dX9_which_66 zbi_6 ?_
              refine zj_goto (tgt := 132) dX9_which_68 (by decide) ?_
              exact zj_iret hr dX9_which_132
          · refine zj_iconst dX9_which_52 zic_5 ?_
            refine zj_goto (tgt := 132) dX9_which_53 (by decide) ?_
            exact zj_iret hr dX9_which_132
        · refine zj_iconst dX9_which_38 zic_4 ?_
          refine zj_goto (tgt := 132) dX9_which_39 (by decide) ?_
          exact zj_iret hr dX9_which_132
      · refine zj_iconst dX9_which_24 zic_3 ?_
        refine zj_goto (tgt := 132) dX9_which_25 (by decide) ?_
        exact zj_iret hr dX9_which_132
    · refine zj_iconst dX9_which_10 zic_0 ?_
      refine zj_goto (tgt := 132) dX9_which_11 (by decide) ?_
      exact zj_iret hr dX9_which_132) hm
def m_X9_causeOf_32 (o0 : Nat) (q1 : Int64) (rec5 : Int32 → Int32 → zSt → Option (Int32 × zSt)) (l4 : Int32) (t0 : Int32) (s : zSt) : Option (Int32 × zSt) :=
  rec5 t0 (l4 + 1) s
set_option maxRecDepth 100000 in
theorem j_X9_causeOf_32 {o0 : Nat} {q1 : Int64} {rec5 : Int32 → Int32 → zSt → Option (Int32 × zSt)} {l4 : Int32} {t0 : Int32} {s : zSt} {w : zWC} {x : zCX} (hr : zrt x = (some .int))  (h_o0 : zC o0 = 9) (h_rec5 : ∀ (l3 : Int32) (l4 : Int32) (s : zSt), zJ (zQf w x zeI) w x RX9 cX9_causeOf 5 0 (rec5 l3 l4 s) 5 [some (.ref (zb w + o0)), some (.long q1), none, some (.int l3), some (.int l4)] [] s) : zJ (zQf w x zeI) w x RX9 cX9_causeOf 5 0 (m_X9_causeOf_32 o0 q1 rec5 l4 t0 s) 32 [some (.ref (zb w + o0)), some (.long q1), none, none, some (.int l4)] [.int t0] s := by
  unfold m_X9_causeOf_32
  refine zj_istore_n (lv' := [some (.ref (zb w + o0)), some (.long q1), none, some (.int t0), some (.int l4)]) dX9_causeOf_32 rfl (by decide) rfl rfl ?_
  refine zj_iinc (v2 := l4 + 1) (lv' := [some (.ref (zb w + o0)), some (.long q1), none, some (.int t0), some (.int (l4 + 1))]) dX9_causeOf_33 rfl (by rw [zic_1]) (by decide) rfl rfl ?_
  refine zj_goto (tgt := 5) dX9_causeOf_36 (by decide) ?_
  exact h_rec5 _ _ _
def bd_X9_causeOf_5 (o0 : Nat) (q1 : Int64) (rec5 : Int32 → Int32 → zSt → Option (Int32 × zSt)) (l3 : Int32) (l4 : Int32) (s : zSt) : Option (Int32 × zSt) :=
  (if l4 < zI s o0 18 then
  (if l4 < 0 ∨ zN (zT o0 16) ≤ Int32.toNatClampNeg l4 then none else (if zL s (zT o0 16) (Int32.toNatClampNeg l4) = q1 then
    m_X9_causeOf_32 o0 q1 rec5 l4 l4 s
    else
    m_X9_causeOf_32 o0 q1 rec5 l4 l3 s))
  else
  some (l3, s))
def lp_X9_causeOf_5 (o0 : Nat) (q1 : Int64) : Nat → Int32 → Int32 → zSt → Option (Int32 × zSt)
  | 0, _, _, _ => none
  | n + 1, l3, l4, s => bd_X9_causeOf_5 o0 q1 (fun l3 l4 s => lp_X9_causeOf_5 o0 q1 n l3 l4 s) l3 l4 s
set_option maxRecDepth 100000 in
theorem jb_X9_causeOf_5 {o0 : Nat} {q1 : Int64} {rec5 : Int32 → Int32 → zSt → Option (Int32 × zSt)} {l3 : Int32} {l4 : Int32} {s : zSt} {w : zWC} {x : zCX} (hr : zrt x = (some .int))  (h_o0 : zC o0 = 9) (h_rec5 : ∀ (l3 : Int32) (l4 : Int32) (s : zSt), zJ (zQf w x zeI) w x RX9 cX9_causeOf 5 0 (rec5 l3 l4 s) 5 [some (.ref (zb w + o0)), some (.long q1), none, some (.int l3), some (.int l4)] [] s) : zJ (zQf w x zeI) w x RX9 cX9_causeOf 5 0 (bd_X9_causeOf_5 o0 q1 rec5 l3 l4 s) 5 [some (.ref (zb w + o0)), some (.long q1), none, some (.int l3), some (.int l4)] [] s := by
  unfold bd_X9_causeOf_5
  refine zj_iload dX9_causeOf_5 rfl ?_
  refine zj_aload_n dX9_causeOf_7 rfl ?_
  refine zj_getI dX9_causeOf_8 fl_X9_252 rfl h_o0 ?_
  refine zj_icmp_ge (tgt := 39) dX9_causeOf_11 (by decide) ?_ ?_
  · refine zj_aload_n dX9_causeOf_14 rfl ?_
    refine zj_getT dX9_causeOf_15 fl_X9_33 rfl h_o0 ?_
    refine zj_iload dX9_causeOf_18 rfl ?_
    refine zj_lald dX9_causeOf_20 (zt_9_16 _ h_o0) ?_
    refine zj_lload_n dX9_causeOf_21 rfl ?_
    refine zj_lcmp_ne (tgt := 31) dX9_causeOf_22 dX9_causeOf_23 (by decide) ?_ ?_
    · refine zj_iload dX9_causeOf_26 rfl ?_
      refine zj_goto (tgt := 32) dX9_causeOf_28 (by decide) ?_
      refine zj_weak [true, true, false, false, true] rfl ?_
      exact j_X9_causeOf_32 hr h_o0 h_rec5
    · refine zj_iload_n dX9_causeOf_31 rfl ?_
      refine zj_weak [true, true, false, false, true] rfl ?_
      exact j_X9_causeOf_32 hr h_o0 h_rec5
  · refine zj_iload_n dX9_causeOf_39 rfl ?_
    exact zj_iret hr dX9_causeOf_40
set_option maxRecDepth 100000 in
theorem jl_X9_causeOf_5 {o0 : Nat} {q1 : Int64} {w : zWC} {x : zCX} (hr : zrt x = (some .int))  (h_o0 : zC o0 = 9) : ∀ (n : Nat) (l3 : Int32) (l4 : Int32) (s : zSt), zJ (zQf w x zeI) w x RX9 cX9_causeOf 5 0 (lp_X9_causeOf_5 o0 q1 n l3 l4 s) 5 [some (.ref (zb w + o0)), some (.long q1), none, some (.int l3), some (.int l4)] [] s := by
  intro n
  induction n with
  | zero => intro l3 l4 s; exact zj_none
  | succ n ih => intro l3 l4 s; exact jb_X9_causeOf_5 hr h_o0 (fun l3 l4 s => ih l3 l4 s)
def m_X9_causeOf (o0 : Nat) (q1 : Int64) (s : zSt) : Option (Int32 × zSt) :=
  lp_X9_causeOf_5 o0 q1 zFuel (-1) 0 s
set_option maxRecDepth 100000 in
theorem c_X9_causeOf {w : zWC} {o0 : Nat} {q1 : Int64} {s : zSt} (h_o0 : zC o0 = 9) {a : Int32 × zSt} (hm : m_X9_causeOf o0 q1 s = some a) : zCn w 0 yX9_causeOf cX9_causeOf 5 (some .int) [.ref (zb w + o0), .long q1] s (zeI a).1 (zeI a).2 :=
  zCn_of (own := RX9) (lv := [some (.ref (zb w + o0)), some (.long q1), none, none, none]) (by decide +kernel) rfl (Nat.le_of_ble_eq_true rfl) rfl (fun x hr => by
    unfold m_X9_causeOf
    refine zj_iconst dX9_causeOf_0 zic_m1 ?_
    refine zj_istore_n (lv' := [some (.ref (zb w + o0)), some (.long q1), none, some (.int (-1)), none]) dX9_causeOf_1 rfl (by decide) rfl rfl ?_
    refine zj_iconst dX9_causeOf_2 zic_0 ?_
    refine zj_istore (lv' := [some (.ref (zb w + o0)), some (.long q1), none, some (.int (-1)), some (.int 0)]) dX9_causeOf_3 (by decide) rfl rfl ?_
    exact jl_X9_causeOf_5 hr h_o0 zFuel _ _ _) hm
def m_X9_readTold_73 (o0 : Nat) (p1 : Int32) (s : zSt) : Option (zSt) :=
  (if p1 = 0 then
  zcv (m_X9_want o0 1852137842 s) (fun s6 => zcl (m_X9_toldNumber o0 1 20 s6) (fun r8 s7 => (if (1 : Int32) < 0 ∨ zN (zT o0 11) ≤ Int32.toNatClampNeg 1 then none else zlt (zsI s7 (zT o0 11) (Int32.toNatClampNeg 1) r8) (fun s9 => zcv (m_X9_want o0 6709618 s9) (fun s10 => (if (1 : Int32) < 0 ∨ zN (zT o0 11) ≤ Int32.toNatClampNeg 1 then none else zcl (m_X9_toldNumber o0 ((zI s10 (zT o0 11) (Int32.toNatClampNeg 1)) + 1) 99 s10) (fun r12 s11 => (if (2 : Int32) < 0 ∨ zN (zT o0 11) ≤ Int32.toNatClampNeg 2 then none else zlt (zsI s11 (zT o0 11) (Int32.toNatClampNeg 2) r12) (fun s13 => some s13)))))))))
  else
  some s)
set_option maxRecDepth 100000 in
theorem j_X9_readTold_73 {o0 : Nat} {p1 : Int32} {s : zSt} {w : zWC} {x : zCX} (hr : zrt x = none)  (h_o0 : zC o0 = 9) : zJ (zQf w x zeV) w x RX9 cX9_readTold 2 3 (m_X9_readTold_73 o0 p1 s) 73 [some (.ref (zb w + o0)), some (.int p1)] [] s := by
  unfold m_X9_readTold_73
  refine zj_iload_n dX9_readTold_73 rfl ?_
  refine zj_if_eq (tgt := 78) dX9_readTold_74 (by decide) ?_ ?_
  · refine zj_aload_n dX9_readTold_78 rfl ?_
    refine zj_ldc2 dX9_readTold_79 kcL_X9_200 ?_
    refine zj_cVV1 ml_X9_262 (fun a h => c_X9_want h_o0 h) h_o0 rfl (Nat.le_of_ble_eq_true rfl) (Nat.le_of_ble_eq_true rfl) dX9_readTold_82 (fun s6 => ?_)
    refine zj_aload_n dX9_readTold_85 rfl ?_
    refine zj_getT dX9_readTold_86 fl_X9_17 rfl h_o0 ?_
    refine zj_iconst dX9_readTold_89 zic_1 ?_
    refine zj_aload_n dX9_readTold_90 rfl ?_
    refine zj_iconst dX9_readTold_91 zic_1 ?_
    refine zj_bipush dX9_readTold_92 zbi_20 ?_
    refine zj_cVI2 ml_X9_259 (fun a h => c_X9_toldNumber h_o0 h) h_o0 rfl (Nat.le_of_ble_eq_true rfl) (Nat.le_of_ble_eq_true rfl) dX9_readTold_94 (fun r8 s7 => ?_)
    refine zj_iast dX9_readTold_97 (zt_9_11 _ h_o0) (fun s9 => ?_)
    refine zj_aload_n dX9_readTold_98 rfl ?_
    refine zj_ldc2 dX9_readTold_99 kcL_X9_202 ?_
    refine zj_cVV1 ml_X9_262 (fun a h => c_X9_want h_o0 h) h_o0 rfl (Nat.le_of_ble_eq_true rfl) (Nat.le_of_ble_eq_true rfl) dX9_readTold_102 (fun s10 => ?_)
    refine zj_aload_n dX9_readTold_105 rfl ?_
    refine zj_getT dX9_readTold_106 fl_X9_17 rfl h_o0 ?_
    refine zj_iconst dX9_readTold_109 zic_2 ?_
    refine zj_aload_n dX9_readTold_110 rfl ?_
    refine zj_aload_n dX9_readTold_111 rfl ?_
    refine zj_getT dX9_readTold_112 fl_X9_17 rfl h_o0 ?_
    refine zj_iconst dX9_readTold_115 zic_1 ?_
    refine zj_iald dX9_readTold_116 (zt_9_11 _ h_o0) ?_
    refine zj_iconst dX9_readTold_117 zic_1 ?_
    refine zj_iadd dX9_readTold_118 ?_
    refine zj_bipush dX9_readTold_119 zbi_99 ?_
    refine zj_cVI2 ml_X9_259 (fun a h => c_X9_toldNumber h_o0 h) h_o0 rfl (Nat.le_of_ble_eq_true rfl) (Nat.le_of_ble_eq_true rfl) dX9_readTold_121 (fun r12 s11 => ?_)
    refine zj_iast dX9_readTold_124 (zt_9_11 _ h_o0) (fun s13 => ?_)
    exact zj_vret hr dX9_readTold_125
  · exact zj_vret hr dX9_readTold_77
def m_X9_readTold_69 (o0 : Nat) (p1 : Int32) (t0 : Nat) (t1 : Int32) (t2 : Nat) (t3 : Int32) (t4 : Int32) (s : zSt) : Option (zSt) :=
  zcl (m_X9_toldNumber t2 t3 t4 s) (fun r4 s3 => (if t1 < 0 ∨ zN t0 ≤ Int32.toNatClampNeg t1 then none else zlt (zsI s3 t0 (Int32.toNatClampNeg t1) r4) (fun s5 => m_X9_readTold_73 o0 p1 s5)))
set_option maxRecDepth 100000 in
theorem j_X9_readTold_69 {o0 : Nat} {p1 : Int32} {t0 : Nat} {t1 : Int32} {t2 : Nat} {t3 : Int32} {t4 : Int32} {s : zSt} {w : zWC} {x : zCX} (hr : zrt x = none)  (h_o0 : zC o0 = 9) (ht0 : zC t0 = 11) (ht2 : zC t2 = 9) : zJ (zQf w x zeV) w x RX9 cX9_readTold 2 3 (m_X9_readTold_69 o0 p1 t0 t1 t2 t3 t4 s) 69 [some (.ref (zb w + o0)), some (.int p1)] [.int t4, .int t3, .ref (zb w + t2), .int t1, .ref (zb w + t0)] s := by
  unfold m_X9_readTold_69
  refine zj_cVI2 ml_X9_259 (fun a h => c_X9_toldNumber ht2 h) ht2 rfl (Nat.le_of_ble_eq_true rfl) (Nat.le_of_ble_eq_true rfl) dX9_readTold_69 (fun r4 s3 => ?_)
  refine zj_iast dX9_readTold_72 ht0 (fun s5 => ?_)
  exact j_X9_readTold_73 hr h_o0
def m_X9_readTold_57 (o0 : Nat) (p1 : Int32) (t0 : Nat) (t1 : Int32) (t2 : Nat) (t3 : Int32) (s : zSt) : Option (zSt) :=
  (if p1 = 5 then
  m_X9_readTold_69 o0 p1 t0 t1 t2 t3 100 s
  else
  m_X9_readTold_69 o0 p1 t0 t1 t2 t3 99 s)
set_option maxRecDepth 100000 in
theorem j_X9_readTold_57 {o0 : Nat} {p1 : Int32} {t0 : Nat} {t1 : Int32} {t2 : Nat} {t3 : Int32} {s : zSt} {w : zWC} {x : zCX} (hr : zrt x = none)  (h_o0 : zC o0 = 9) (ht0 : zC t0 = 11) (ht2 : zC t2 = 9) : zJ (zQf w x zeV) w x RX9 cX9_readTold 2 3 (m_X9_readTold_57 o0 p1 t0 t1 t2 t3 s) 57 [some (.ref (zb w + o0)), some (.int p1)] [.int t3, .ref (zb w + t2), .int t1, .ref (zb w + t0)] s := by
  unfold m_X9_readTold_57
  refine zj_iload_n dX9_readTold_57 rfl ?_
  refine zj_iconst dX9_readTold_58 zic_5 ?_
  refine zj_icmp_ne (tgt := 67) dX9_readTold_59 (by decide) ?_ ?_
  · refine zj_bipush dX9_readTold_62 zbi_100 ?_
    refine zj_goto (tgt := 69) dX9_readTold_64 (by decide) ?_
    exact j_X9_readTold_69 hr h_o0 ht0 ht2
  · refine zj_bipush dX9_readTold_67 zbi_99 ?_
    exact j_X9_readTold_69 hr h_o0 ht0 ht2
def m_X9_readTold_52 (o0 : Nat) (p1 : Int32) (t0 : Nat) (t1 : Int32) (t2 : Nat) (s : zSt) : Option (zSt) :=
  m_X9_readTold_57 o0 p1 t0 t1 t2 0 s
set_option maxRecDepth 100000 in
theorem j_X9_readTold_52 {o0 : Nat} {p1 : Int32} {t0 : Nat} {t1 : Int32} {t2 : Nat} {s : zSt} {w : zWC} {x : zCX} (hr : zrt x = none)  (h_o0 : zC o0 = 9) (ht0 : zC t0 = 11) (ht2 : zC t2 = 9) : zJ (zQf w x zeV) w x RX9 cX9_readTold 2 3 (m_X9_readTold_52 o0 p1 t0 t1 t2 s) 52 [some (.ref (zb w + o0)), some (.int p1)] [.ref (zb w + t2), .int t1, .ref (zb w + t0)] s := by
  unfold m_X9_readTold_52
  refine zj_iconst dX9_readTold_52 zic_0 ?_
  refine zj_goto (tgt := 57) dX9_readTold_53 (by decide) ?_
  exact j_X9_readTold_57 hr h_o0 ht0 ht2
def m_X9_readTold (o0 : Nat) (p1 : Int32) (s : zSt) : Option (zSt) :=
  (if p1 < 0 ∨ zN (zT o0 15) ≤ Int32.toNatClampNeg p1 then none else zlt (zsI s (zT o0 15) (Int32.toNatClampNeg p1) (vp_nar .boolean 1)) (fun s1 => zcv (m_X9_token o0 s1) (fun s2 => (if p1 < 7 then
  (if p1 = 3 then
    m_X9_readTold_52 o0 p1 (zT o0 11) p1 o0 s2
    else
    (if p1 = 5 then
      m_X9_readTold_52 o0 p1 (zT o0 11) p1 o0 s2
      else
      m_X9_readTold_57 o0 p1 (zT o0 11) p1 o0 1 s2))
  else
  zcl (m_X9_signed o0 (-999) 999 s2) (fun r15 s14 => (if p1 < 0 ∨ zN (zT o0 11) ≤ Int32.toNatClampNeg p1 then none else zlt (zsI s14 (zT o0 11) (Int32.toNatClampNeg p1) r15) (fun s16 => m_X9_readTold_73 o0 p1 s16)))))))
set_option maxRecDepth 100000 in
theorem c_X9_readTold {w : zWC} {o0 : Nat} {p1 : Int32} {s : zSt} (h_o0 : zC o0 = 9) {a : zSt} (hm : m_X9_readTold o0 p1 s = some a) : zCn w 3 yX9_readTold cX9_readTold 2 none [.ref (zb w + o0), .int p1] s (zeV a).1 (zeV a).2 :=
  zCn_of (own := RX9) (lv := [some (.ref (zb w + o0)), some (.int p1)]) (by decide +kernel) rfl (Nat.le_of_ble_eq_true rfl) rfl (fun x hr => by
    unfold m_X9_readTold
    refine zj_aload_n dX9_readTold_0 rfl ?_
    refine zj_getT dX9_readTold_1 fl_X9_29 rfl h_o0 ?_
    refine zj_iload_n dX9_readTold_4 rfl ?_
    refine zj_iconst dX9_readTold_5 zic_1 ?_
    refine zj_zast dX9_readTold_6 (zt_9_15 _ h_o0) (fun s1 => ?_)
    refine zj_aload_n dX9_readTold_7 rfl ?_
    refine zj_cVV0 ml_X9_195 (fun a h => c_X9_token h_o0 h) h_o0 rfl (Nat.le_of_ble_eq_true rfl) (Nat.le_of_ble_eq_true rfl) dX9_readTold_8 (fun s2 => ?_)
    refine zj_iload_n dX9_readTold_11 rfl ?_
    refine zj_bipush dX9_readTold_12 zbi_7 ?_
    refine zj_icmp_lt (tgt := 36) dX9_readTold_14 (by decide) ?_ ?_
    · refine zj_aload_n dX9_readTold_36 rfl ?_
      refine zj_getT dX9_readTold_37 fl_X9_17 rfl h_o0 ?_
      refine zj_iload_n dX9_readTold_40 rfl ?_
      refine zj_aload_n dX9_readTold_41 rfl ?_
      refine zj_iload_n dX9_readTold_42 rfl ?_
      refine zj_iconst dX9_readTold_43 zic_3 ?_
      refine zj_icmp_eq (tgt := 52) dX9_readTold_44 (by decide) ?_ ?_
      · exact j_X9_readTold_52 hr h_o0 (zt_9_11 _ h_o0) h_o0
      · refine zj_iload_n dX9_readTold_47 rfl ?_
        refine zj_iconst dX9_readTold_48 zic_5 ?_
        refine zj_icmp_ne (tgt := 56) dX9_readTold_49 (by decide) ?_ ?_
        · exact j_X9_readTold_52 hr h_o0 (zt_9_11 _ h_o0) h_o0
        · refine zj_iconst dX9_readTold_56 zic_1 ?_
          exact j_X9_readTold_57 hr h_o0 (zt_9_11 _ h_o0) h_o0
    · refine zj_aload_n dX9_readTold_17 rfl ?_
      refine zj_getT dX9_readTold_18 fl_X9_17 rfl h_o0 ?_
      refine zj_iload_n dX9_readTold_21 rfl ?_
      refine zj_aload_n dX9_readTold_22 rfl ?_
      refine zj_sipush dX9_readTold_23 zsi_m999 ?_
      refine zj_sipush dX9_readTold_26 zsi_999 ?_
      refine zj_cVI2 ml_X9_255 (fun a h => c_X9_signed h_o0 h) h_o0 rfl (Nat.le_of_ble_eq_true rfl) (Nat.le_of_ble_eq_true rfl) dX9_readTold_29 (fun r15 s14 => ?_)
      refine zj_iast dX9_readTold_32 (zt_9_11 _ h_o0) (fun s16 => ?_)
      refine zj_goto (tgt := 73) dX9_readTold_33 (by decide) ?_
      exact j_X9_readTold_73 hr h_o0) hm
def m_X9_readCause_21 (o0 : Nat) (t0 : Nat) (t1 : Int32) (s : zSt) : Option (zSt) :=
  zcl (m_X9_named t0 t1 s) (fun r5 s4 => (if 0 < zI s4 o0 2 then
  some s4
  else
  (if zI s4 o0 18 < 0 ∨ zN (zT o0 16) ≤ Int32.toNatClampNeg (zI s4 o0 18) then none else zlt (zsL s4 (zT o0 16) (Int32.toNatClampNeg (zI s4 o0 18)) r5) (fun s6 => zlt (zsI s6 o0 18 ((zI s6 o0 18) + 1)) (fun s7 => some s7)))))
set_option maxRecDepth 100000 in
theorem j_X9_readCause_21 {o0 : Nat} {t0 : Nat} {t1 : Int32} {s : zSt} {w : zWC} {x : zCX} (hr : zrt x = none)  (h_o0 : zC o0 = 9) (ht0 : zC t0 = 9) : zJ (zQf w x zeV) w x RX9 cX9_readCause 3 3 (m_X9_readCause_21 o0 t0 t1 s) 21 [some (.ref (zb w + o0)), none, none] [.int t1, .ref (zb w + t0)] s := by
  unfold m_X9_readCause_21
  refine zj_cVL1 ml_X9_270 (fun a h => c_X9_named ht0 h) ht0 rfl (Nat.le_of_ble_eq_true rfl) (Nat.le_of_ble_eq_true rfl) dX9_readCause_21 (fun r5 s4 => ?_)
  refine zj_lstore_n (lv' := [some (.ref (zb w + o0)), some (.long r5), none]) dX9_readCause_24 rfl (by decide) rfl rfl ?_
  refine zj_aload_n dX9_readCause_25 rfl ?_
  refine zj_getI dX9_readCause_26 fl_X9_192 rfl h_o0 ?_
  refine zj_if_le (tgt := 33) dX9_readCause_29 (by decide) ?_ ?_
  · exact zj_vret hr dX9_readCause_32
  · refine zj_aload_n dX9_readCause_33 rfl ?_
    refine zj_getT dX9_readCause_34 fl_X9_33 rfl h_o0 ?_
    refine zj_aload_n dX9_readCause_37 rfl ?_
    refine zj_getI dX9_readCause_38 fl_X9_252 rfl h_o0 ?_
    refine zj_lload_n dX9_readCause_41 rfl ?_
    refine zj_last dX9_readCause_42 (zt_9_16 _ h_o0) (fun s6 => ?_)
    refine zj_aload_n dX9_readCause_43 rfl ?_
    refine zj_dup dX9_readCause_44 rfl ?_
    refine zj_getI dX9_readCause_45 fl_X9_252 rfl h_o0 ?_
    refine zj_iconst dX9_readCause_48 zic_1 ?_
    refine zj_iadd dX9_readCause_49 ?_
    refine zj_putI dX9_readCause_50 fl_X9_252 rfl h_o0 pd_9_18 rfl rfl (fun s7 => ?_)
    exact zj_vret hr dX9_readCause_53
def m_X9_readCause (o0 : Nat) (s : zSt) : Option (zSt) :=
  zcv (m_X9_token o0 s) (fun s1 => zcl (m_X9_causeOf o0 (zL s1 o0 9) s1) (fun r3 s2 => (if r3 < 0 then
  m_X9_readCause_21 o0 o0 0 s2
  else
  m_X9_readCause_21 o0 o0 1 s2)))
set_option maxRecDepth 100000 in
theorem c_X9_readCause {w : zWC} {o0 : Nat} {s : zSt} (h_o0 : zC o0 = 9) {a : zSt} (hm : m_X9_readCause o0 s = some a) : zCn w 3 yX9_readCause cX9_readCause 3 none [.ref (zb w + o0)] s (zeV a).1 (zeV a).2 :=
  zCn_of (own := RX9) (lv := [some (.ref (zb w + o0)), none, none]) (by decide +kernel) rfl (Nat.le_of_ble_eq_true rfl) rfl (fun x hr => by
    unfold m_X9_readCause
    refine zj_aload_n dX9_readCause_0 rfl ?_
    refine zj_cVV0 ml_X9_195 (fun a h => c_X9_token h_o0 h) h_o0 rfl (Nat.le_of_ble_eq_true rfl) (Nat.le_of_ble_eq_true rfl) dX9_readCause_1 (fun s1 => ?_)
    refine zj_aload_n dX9_readCause_4 rfl ?_
    refine zj_aload_n dX9_readCause_5 rfl ?_
    refine zj_aload_n dX9_readCause_6 rfl ?_
    refine zj_getL dX9_readCause_7 fl_X9_172 rfl h_o0 ?_
    refine zj_cVI1 ml_X9_266 (fun a h => c_X9_causeOf h_o0 h) h_o0 rfl (Nat.le_of_ble_eq_true rfl) (Nat.le_of_ble_eq_true rfl) dX9_readCause_10 (fun r3 s2 => ?_)
    refine zj_if_lt (tgt := 20) dX9_readCause_13 (by decide) ?_ ?_
    · refine zj_iconst dX9_readCause_20 zic_0 ?_
      exact j_X9_readCause_21 hr h_o0 h_o0
    · refine zj_iconst dX9_readCause_16 zic_1 ?_
      refine zj_goto (tgt := 21) dX9_readCause_17 (by decide) ?_
      exact j_X9_readCause_21 hr h_o0 h_o0) hm
def m_X9_readTrial_39 (o0 : Nat) (rec8 : Int32 → Int32 → zSt → Option (zSt)) (k46 : Int32 → zSt → Option (zSt)) (l2 : Int32) (t0 : Int32) (s : zSt) : Option (zSt) :=
  rec8 t0 (l2 + 1) s
set_option maxRecDepth 100000 in
theorem j_X9_readTrial_39 {o0 : Nat} {rec8 : Int32 → Int32 → zSt → Option (zSt)} {k46 : Int32 → zSt → Option (zSt)} {l2 : Int32} {t0 : Int32} {s : zSt} {w : zWC} {x : zCX} (hr : zrt x = none)  (h_o0 : zC o0 = 9) (h_rec8 : ∀ (l1 : Int32) (l2 : Int32) (s : zSt), zJ (zQf w x zeV) w x RX9 cX9_readTrial 6 3 (rec8 l1 l2 s) 8 [some (.ref (zb w + o0)), some (.int l1), some (.int l2), none, none, none] [] s) (h_k46 : ∀ (l1 : Int32) (s : zSt), zJ (zQf w x zeV) w x RX9 cX9_readTrial 6 3 (k46 l1 s) 46 [some (.ref (zb w + o0)), some (.int l1), none, none, none, none] [] s) : zJ (zQf w x zeV) w x RX9 cX9_readTrial 6 3 (m_X9_readTrial_39 o0 rec8 k46 l2 t0 s) 39 [some (.ref (zb w + o0)), none, some (.int l2), none, none, none] [.int t0] s := by
  unfold m_X9_readTrial_39
  refine zj_istore_n (lv' := [some (.ref (zb w + o0)), some (.int t0), some (.int l2), none, none, none]) dX9_readTrial_39 rfl (by decide) rfl rfl ?_
  refine zj_iinc (v2 := l2 + 1) (lv' := [some (.ref (zb w + o0)), some (.int t0), some (.int (l2 + 1)), none, none, none]) dX9_readTrial_40 rfl (by rw [zic_1]) (by decide) rfl rfl ?_
  refine zj_goto (tgt := 8) dX9_readTrial_43 (by decide) ?_
  exact h_rec8 _ _ _
def m_X9_readTrial_34 (o0 : Nat) (rec8 : Int32 → Int32 → zSt → Option (zSt)) (k46 : Int32 → zSt → Option (zSt)) (l2 : Int32) (s : zSt) : Option (zSt) :=
  m_X9_readTrial_39 o0 rec8 k46 l2 1 s
set_option maxRecDepth 100000 in
theorem j_X9_readTrial_34 {o0 : Nat} {rec8 : Int32 → Int32 → zSt → Option (zSt)} {k46 : Int32 → zSt → Option (zSt)} {l2 : Int32} {s : zSt} {w : zWC} {x : zCX} (hr : zrt x = none)  (h_o0 : zC o0 = 9) (h_rec8 : ∀ (l1 : Int32) (l2 : Int32) (s : zSt), zJ (zQf w x zeV) w x RX9 cX9_readTrial 6 3 (rec8 l1 l2 s) 8 [some (.ref (zb w + o0)), some (.int l1), some (.int l2), none, none, none] [] s) (h_k46 : ∀ (l1 : Int32) (s : zSt), zJ (zQf w x zeV) w x RX9 cX9_readTrial 6 3 (k46 l1 s) 46 [some (.ref (zb w + o0)), some (.int l1), none, none, none, none] [] s) : zJ (zQf w x zeV) w x RX9 cX9_readTrial 6 3 (m_X9_readTrial_34 o0 rec8 k46 l2 s) 34 [some (.ref (zb w + o0)), none, some (.int l2), none, none, none] [] s := by
  unfold m_X9_readTrial_34
  refine zj_iconst dX9_readTrial_34 zic_1 ?_
  refine zj_goto (tgt := 39) dX9_readTrial_35 (by decide) ?_
  exact j_X9_readTrial_39 hr h_o0 h_rec8 h_k46
def bd_X9_readTrial_8 (o0 : Nat) (rec8 : Int32 → Int32 → zSt → Option (zSt)) (k46 : Int32 → zSt → Option (zSt)) (l1 : Int32) (l2 : Int32) (s : zSt) : Option (zSt) :=
  (if l2 < zI s o0 19 then
  (if l1 = 0 then
    (if l2 < 0 ∨ zN (zT o0 17) ≤ Int32.toNatClampNeg l2 then none else (if zL s (zT o0 17) (Int32.toNatClampNeg l2) = zL s o0 9 then
      m_X9_readTrial_34 o0 rec8 k46 l2 s
      else
      m_X9_readTrial_39 o0 rec8 k46 l2 0 s))
    else
    m_X9_readTrial_34 o0 rec8 k46 l2 s)
  else
  k46 l1 s)
def lp_X9_readTrial_8 (o0 : Nat) (k46 : Int32 → zSt → Option (zSt)) : Nat → Int32 → Int32 → zSt → Option (zSt)
  | 0, _, _, _ => none
  | n + 1, l1, l2, s => bd_X9_readTrial_8 o0 (fun l1 l2 s => lp_X9_readTrial_8 o0 k46 n l1 l2 s) k46 l1 l2 s
set_option maxRecDepth 100000 in
theorem jb_X9_readTrial_8 {o0 : Nat} {rec8 : Int32 → Int32 → zSt → Option (zSt)} {k46 : Int32 → zSt → Option (zSt)} {l1 : Int32} {l2 : Int32} {s : zSt} {w : zWC} {x : zCX} (hr : zrt x = none)  (h_o0 : zC o0 = 9) (h_rec8 : ∀ (l1 : Int32) (l2 : Int32) (s : zSt), zJ (zQf w x zeV) w x RX9 cX9_readTrial 6 3 (rec8 l1 l2 s) 8 [some (.ref (zb w + o0)), some (.int l1), some (.int l2), none, none, none] [] s) (h_k46 : ∀ (l1 : Int32) (s : zSt), zJ (zQf w x zeV) w x RX9 cX9_readTrial 6 3 (k46 l1 s) 46 [some (.ref (zb w + o0)), some (.int l1), none, none, none, none] [] s) : zJ (zQf w x zeV) w x RX9 cX9_readTrial 6 3 (bd_X9_readTrial_8 o0 rec8 k46 l1 l2 s) 8 [some (.ref (zb w + o0)), some (.int l1), some (.int l2), none, none, none] [] s := by
  unfold bd_X9_readTrial_8
  refine zj_iload_n dX9_readTrial_8 rfl ?_
  refine zj_aload_n dX9_readTrial_9 rfl ?_
  refine zj_getI dX9_readTrial_10 fl_X9_274 rfl h_o0 ?_
  refine zj_icmp_ge (tgt := 46) dX9_readTrial_13 (by decide) ?_ ?_
  · refine zj_iload_n dX9_readTrial_16 rfl ?_
    refine zj_if_ne (tgt := 34) dX9_readTrial_17 (by decide) ?_ ?_
    · refine zj_aload_n dX9_readTrial_20 rfl ?_
      refine zj_getT dX9_readTrial_21 fl_X9_37 rfl h_o0 ?_
      refine zj_iload_n dX9_readTrial_24 rfl ?_
      refine zj_lald dX9_readTrial_25 (zt_9_17 _ h_o0) ?_
      refine zj_aload_n dX9_readTrial_26 rfl ?_
      refine zj_getL dX9_readTrial_27 fl_X9_172 rfl h_o0 ?_
      refine zj_lcmp_ne (tgt := 38) dX9_readTrial_30 dX9_readTrial_31 (by decide) ?_ ?_
      · refine zj_weak [true, false, true, false, false, false] rfl ?_
        exact j_X9_readTrial_34 hr h_o0 h_rec8 h_k46
      · refine zj_iconst dX9_readTrial_38 zic_0 ?_
        refine zj_weak [true, false, true, false, false, false] rfl ?_
        exact j_X9_readTrial_39 hr h_o0 h_rec8 h_k46
    · refine zj_weak [true, false, true, false, false, false] rfl ?_
      exact j_X9_readTrial_34 hr h_o0 h_rec8 h_k46
  · refine zj_weak [true, true, false, false, false, false] rfl ?_
    exact h_k46 _ _
set_option maxRecDepth 100000 in
theorem jl_X9_readTrial_8 {o0 : Nat} {k46 : Int32 → zSt → Option (zSt)} {w : zWC} {x : zCX} (hr : zrt x = none)  (h_o0 : zC o0 = 9) (h_k46 : ∀ (l1 : Int32) (s : zSt), zJ (zQf w x zeV) w x RX9 cX9_readTrial 6 3 (k46 l1 s) 46 [some (.ref (zb w + o0)), some (.int l1), none, none, none, none] [] s) : ∀ (n : Nat) (l1 : Int32) (l2 : Int32) (s : zSt), zJ (zQf w x zeV) w x RX9 cX9_readTrial 6 3 (lp_X9_readTrial_8 o0 k46 n l1 l2 s) 8 [some (.ref (zb w + o0)), some (.int l1), some (.int l2), none, none, none] [] s := by
  intro n
  induction n with
  | zero => intro l1 l2 s; exact zj_none
  | succ n ih => intro l1 l2 s; exact jb_X9_readTrial_8 hr h_o0 (fun l1 l2 s => ih l1 l2 s) h_k46
def m_X9_readTrial_134 (o0 : Nat) (rec81 : Int64 → Int32 → zSt → Option (zSt)) (k158 : Int64 → Int32 → zSt → Option (zSt)) (l2 : Int64) (l4 : Int32) (l5 : Int32) (s : zSt) : Option (zSt) :=
  (if 0 < zI s o0 2 then
  some s
  else
  zcv (m_X9_token o0 s) (fun s14 => rec81 l2 (l4 ||| ((1 : Int32) <<< (l5 &&& 31))) s14))
set_option maxRecDepth 100000 in
theorem j_X9_readTrial_134 {o0 : Nat} {rec81 : Int64 → Int32 → zSt → Option (zSt)} {k158 : Int64 → Int32 → zSt → Option (zSt)} {l2 : Int64} {l4 : Int32} {l5 : Int32} {s : zSt} {w : zWC} {x : zCX} (hr : zrt x = none)  (h_o0 : zC o0 = 9) (h_rec81 : ∀ (l2 : Int64) (l4 : Int32) (s : zSt), zJ (zQf w x zeV) w x RX9 cX9_readTrial 6 3 (rec81 l2 l4 s) 81 [some (.ref (zb w + o0)), none, some (.long l2), none, some (.int l4), none] [] s) (h_k158 : ∀ (l2 : Int64) (l4 : Int32) (s : zSt), zJ (zQf w x zeV) w x RX9 cX9_readTrial 6 3 (k158 l2 l4 s) 158 [some (.ref (zb w + o0)), none, some (.long l2), none, some (.int l4), none] [] s) : zJ (zQf w x zeV) w x RX9 cX9_readTrial 6 3 (m_X9_readTrial_134 o0 rec81 k158 l2 l4 l5 s) 134 [some (.ref (zb w + o0)), none, some (.long l2), none, some (.int l4), some (.int l5)] [] s := by
  unfold m_X9_readTrial_134
  refine zj_aload_n dX9_readTrial_134 rfl ?_
  refine zj_getI dX9_readTrial_135 fl_X9_192 rfl h_o0 ?_
  refine zj_if_le (tgt := 142) dX9_readTrial_138 (by decide) ?_ ?_
  · exact zj_vret hr dX9_readTrial_141
  · refine zj_iload dX9_readTrial_142 rfl ?_
    refine zj_iconst dX9_readTrial_144 zic_1 ?_
    refine zj_iload dX9_readTrial_145 rfl ?_
    refine zj_ishl dX9_readTrial_147 ?_
    refine zj_ior dX9_readTrial_148 ?_
    refine zj_istore (lv' := [some (.ref (zb w + o0)), none, some (.long l2), none, some (.int (l4 ||| ((1 : Int32) <<< (l5 &&& 31)))), some (.int l5)]) dX9_readTrial_149 (by decide) rfl rfl ?_
    refine zj_aload_n dX9_readTrial_151 rfl ?_
    refine zj_cVV0 ml_X9_195 (fun a h => c_X9_token h_o0 h) h_o0 rfl (Nat.le_of_ble_eq_true rfl) (Nat.le_of_ble_eq_true rfl) dX9_readTrial_152 (fun s14 => ?_)
    refine zj_goto (tgt := 81) dX9_readTrial_155 (by decide) ?_
    refine zj_weak [true, false, true, false, true, false] rfl ?_
    exact h_rec81 _ _ _
def bd_X9_readTrial_81 (o0 : Nat) (rec81 : Int64 → Int32 → zSt → Option (zSt)) (k158 : Int64 → Int32 → zSt → Option (zSt)) (l2 : Int64) (l4 : Int32) (s : zSt) : Option (zSt) :=
  (if zI s o0 2 = 0 then
  zcl (m_X9_isName o0 s) (fun r10 s9 => (if r10 = 0 then
    k158 l2 l4 s9
    else
    zcl (m_X9_causeOf o0 (zL s9 o0 9) s9) (fun r12 s11 => (if r12 < 0 then
      zcv (m_X9_wrong o0 5 s11) (fun s13 => m_X9_readTrial_134 o0 rec81 k158 l2 l4 r12 s13)
      else
      (if (l4 >>> (r12 &&& 31)) &&& 1 = 1 then
        zcv (m_X9_wrong o0 3 s11) (fun s15 => m_X9_readTrial_134 o0 rec81 k158 l2 l4 r12 s15)
        else
        m_X9_readTrial_134 o0 rec81 k158 l2 l4 r12 s11)))))
  else
  k158 l2 l4 s)
def lp_X9_readTrial_81 (o0 : Nat) (k158 : Int64 → Int32 → zSt → Option (zSt)) : Nat → Int64 → Int32 → zSt → Option (zSt)
  | 0, _, _, _ => none
  | n + 1, l2, l4, s => bd_X9_readTrial_81 o0 (fun l2 l4 s => lp_X9_readTrial_81 o0 k158 n l2 l4 s) k158 l2 l4 s
set_option maxRecDepth 100000 in
theorem jb_X9_readTrial_81 {o0 : Nat} {rec81 : Int64 → Int32 → zSt → Option (zSt)} {k158 : Int64 → Int32 → zSt → Option (zSt)} {l2 : Int64} {l4 : Int32} {s : zSt} {w : zWC} {x : zCX} (hr : zrt x = none)  (h_o0 : zC o0 = 9) (h_rec81 : ∀ (l2 : Int64) (l4 : Int32) (s : zSt), zJ (zQf w x zeV) w x RX9 cX9_readTrial 6 3 (rec81 l2 l4 s) 81 [some (.ref (zb w + o0)), none, some (.long l2), none, some (.int l4), none] [] s) (h_k158 : ∀ (l2 : Int64) (l4 : Int32) (s : zSt), zJ (zQf w x zeV) w x RX9 cX9_readTrial 6 3 (k158 l2 l4 s) 158 [some (.ref (zb w + o0)), none, some (.long l2), none, some (.int l4), none] [] s) : zJ (zQf w x zeV) w x RX9 cX9_readTrial 6 3 (bd_X9_readTrial_81 o0 rec81 k158 l2 l4 s) 81 [some (.ref (zb w + o0)), none, some (.long l2), none, some (.int l4), none] [] s := by
  unfold bd_X9_readTrial_81
  refine zj_aload_n dX9_readTrial_81 rfl ?_
  refine zj_getI dX9_readTrial_82 fl_X9_192 rfl h_o0 ?_
  refine zj_if_ne (tgt := 158) dX9_readTrial_85 (by decide) ?_ ?_
  · refine zj_aload_n dX9_readTrial_88 rfl ?_
    refine zj_cVI0 ml_X9_245 (fun a h => c_X9_isName h_o0 h) h_o0 rfl (Nat.le_of_ble_eq_true rfl) (Nat.le_of_ble_eq_true rfl) dX9_readTrial_89 (fun r10 s9 => ?_)
    refine zj_if_eq (tgt := 158) dX9_readTrial_92 (by decide) ?_ ?_
    · exact h_k158 _ _ _
    · refine zj_aload_n dX9_readTrial_95 rfl ?_
      refine zj_aload_n dX9_readTrial_96 rfl ?_
      refine zj_getL dX9_readTrial_97 fl_X9_172 rfl h_o0 ?_
      refine zj_cVI1 ml_X9_266 (fun a h => c_X9_causeOf h_o0 h) h_o0 rfl (Nat.le_of_ble_eq_true rfl) (Nat.le_of_ble_eq_true rfl) dX9_readTrial_100 (fun r12 s11 => ?_)
      refine zj_istore (lv' := [some (.ref (zb w + o0)), none, some (.long l2), none, some (.int l4), some (.int r12)]) dX9_readTrial_103 (by decide) rfl rfl ?_
      refine zj_iload dX9_readTrial_105 rfl ?_
      refine zj_if_ge (tgt := 118) dX9_readTrial_107 (by decide) ?_ ?_
      · refine zj_aload_n dX9_readTrial_110 rfl ?_
        refine zj_iconst dX9_readTrial_111 zic_5 ?_
        refine zj_cVV1 ml_X9_242 (fun a h => c_X9_wrong h_o0 h) h_o0 rfl (Nat.le_of_ble_eq_true rfl) (Nat.le_of_ble_eq_true rfl) dX9_readTrial_112 (fun s13 => ?_)
        refine zj_goto (tgt := 134) dX9_readTrial_115 (by decide) ?_
        exact j_X9_readTrial_134 hr h_o0 h_rec81 h_k158
      · refine zj_iload dX9_readTrial_118 rfl ?_
        refine zj_iload dX9_readTrial_120 rfl ?_
        refine zj_ishr dX9_readTrial_122 ?_
        refine zj_iconst dX9_readTrial_123 zic_1 ?_
        refine zj_iand dX9_readTrial_124 ?_
        refine zj_iconst dX9_readTrial_125 zic_1 ?_
        refine zj_icmp_ne (tgt := 134) dX9_readTrial_126 (by decide) ?_ ?_
        · refine zj_aload_n dX9_readTrial_129 rfl ?_
          refine zj_iconst dX9_readTrial_130 zic_3 ?_
          refine zj_cVV1 ml_X9_242 (fun a h => c_X9_wrong h_o0 h) h_o0 rfl (Nat.le_of_ble_eq_true rfl) (Nat.le_of_ble_eq_true rfl) dX9_readTrial_131 (fun s15 => ?_)
          exact j_X9_readTrial_134 hr h_o0 h_rec81 h_k158
        · exact j_X9_readTrial_134 hr h_o0 h_rec81 h_k158
  · exact h_k158 _ _ _
set_option maxRecDepth 100000 in
theorem jl_X9_readTrial_81 {o0 : Nat} {k158 : Int64 → Int32 → zSt → Option (zSt)} {w : zWC} {x : zCX} (hr : zrt x = none)  (h_o0 : zC o0 = 9) (h_k158 : ∀ (l2 : Int64) (l4 : Int32) (s : zSt), zJ (zQf w x zeV) w x RX9 cX9_readTrial 6 3 (k158 l2 l4 s) 158 [some (.ref (zb w + o0)), none, some (.long l2), none, some (.int l4), none] [] s) : ∀ (n : Nat) (l2 : Int64) (l4 : Int32) (s : zSt), zJ (zQf w x zeV) w x RX9 cX9_readTrial 6 3 (lp_X9_readTrial_81 o0 k158 n l2 l4 s) 81 [some (.ref (zb w + o0)), none, some (.long l2), none, some (.int l4), none] [] s := by
  intro n
  induction n with
  | zero => intro l2 l4 s; exact zj_none
  | succ n ih => intro l2 l4 s; exact jb_X9_readTrial_81 hr h_o0 (fun l2 l4 s => ih l2 l4 s) h_k158
def m_X9_readTrial_158 (o0 : Nat) (l2 : Int64) (l4 : Int32) (s : zSt) : Option (zSt) :=
  (if 0 < zI s o0 2 then
  some s
  else
  (if zI s o0 19 < 0 ∨ zN (zT o0 17) ≤ Int32.toNatClampNeg (zI s o0 19) then none else zlt (zsL s (zT o0 17) (Int32.toNatClampNeg (zI s o0 19)) l2) (fun s17 => (if zI s17 o0 19 < 0 ∨ zN (zT o0 13) ≤ Int32.toNatClampNeg (zI s17 o0 19) then none else zlt (zsI s17 (zT o0 13) (Int32.toNatClampNeg (zI s17 o0 19)) l4) (fun s18 => zlt (zsI s18 o0 19 ((zI s18 o0 19) + 1)) (fun s19 => some s19))))))
set_option maxRecDepth 100000 in
theorem j_X9_readTrial_158 {o0 : Nat} {l2 : Int64} {l4 : Int32} {s : zSt} {w : zWC} {x : zCX} (hr : zrt x = none)  (h_o0 : zC o0 = 9) : zJ (zQf w x zeV) w x RX9 cX9_readTrial 6 3 (m_X9_readTrial_158 o0 l2 l4 s) 158 [some (.ref (zb w + o0)), none, some (.long l2), none, some (.int l4), none] [] s := by
  unfold m_X9_readTrial_158
  refine zj_aload_n dX9_readTrial_158 rfl ?_
  refine zj_getI dX9_readTrial_159 fl_X9_192 rfl h_o0 ?_
  refine zj_if_le (tgt := 166) dX9_readTrial_162 (by decide) ?_ ?_
  · exact zj_vret hr dX9_readTrial_165
  · refine zj_aload_n dX9_readTrial_166 rfl ?_
    refine zj_getT dX9_readTrial_167 fl_X9_37 rfl h_o0 ?_
    refine zj_aload_n dX9_readTrial_170 rfl ?_
    refine zj_getI dX9_readTrial_171 fl_X9_274 rfl h_o0 ?_
    refine zj_lload_n dX9_readTrial_174 rfl ?_
    refine zj_last dX9_readTrial_175 (zt_9_17 _ h_o0) (fun s17 => ?_)
    refine zj_aload_n dX9_readTrial_176 rfl ?_
    refine zj_getT dX9_readTrial_177 fl_X9_23 rfl h_o0 ?_
    refine zj_aload_n dX9_readTrial_180 rfl ?_
    refine zj_getI dX9_readTrial_181 fl_X9_274 rfl h_o0 ?_
    refine zj_iload dX9_readTrial_184 rfl ?_
    refine zj_iast dX9_readTrial_186 (zt_9_13 _ h_o0) (fun s18 => ?_)
    refine zj_aload_n dX9_readTrial_187 rfl ?_
    refine zj_dup dX9_readTrial_188 rfl ?_
    refine zj_getI dX9_readTrial_189 fl_X9_274 rfl h_o0 ?_
    refine zj_iconst dX9_readTrial_192 zic_1 ?_
    refine zj_iadd dX9_readTrial_193 ?_
    refine zj_putI dX9_readTrial_194 fl_X9_274 rfl h_o0 pd_9_19 rfl rfl (fun s19 => ?_)
    exact zj_vret hr dX9_readTrial_197
def m_X9_readTrial (o0 : Nat) (s : zSt) : Option (zSt) :=
  zcv (m_X9_token o0 s) (fun s1 => lp_X9_readTrial_8 o0 (fun l1_2 s_2 => zcl (m_X9_named o0 l1_2 s_2) (fun r4 s3 => zcv (m_X9_want o0 495673374579 s3) (fun s5 => (if zI s5 o0 2 = 0 then
  zcl (m_X9_isName o0 s5) (fun r7 s6 => (if r7 = 0 then
    zcv (m_X9_wrong o0 2 s6) (fun s8 => lp_X9_readTrial_81 o0 (fun l2_16 l4_16 s_16 => m_X9_readTrial_158 o0 l2_16 l4_16 s_16) zFuel r4 0 s8)
    else
    lp_X9_readTrial_81 o0 (fun l2_20 l4_20 s_20 => m_X9_readTrial_158 o0 l2_20 l4_20 s_20) zFuel r4 0 s6))
  else
  lp_X9_readTrial_81 o0 (fun l2_21 l4_21 s_21 => m_X9_readTrial_158 o0 l2_21 l4_21 s_21) zFuel r4 0 s5)))) zFuel 0 0 s1)
set_option maxRecDepth 100000 in
theorem c_X9_readTrial {w : zWC} {o0 : Nat} {s : zSt} (h_o0 : zC o0 = 9) {a : zSt} (hm : m_X9_readTrial o0 s = some a) : zCn w 3 yX9_readTrial cX9_readTrial 6 none [.ref (zb w + o0)] s (zeV a).1 (zeV a).2 :=
  zCn_of (own := RX9) (lv := [some (.ref (zb w + o0)), none, none, none, none, none]) (by decide +kernel) rfl (Nat.le_of_ble_eq_true rfl) rfl (fun x hr => by
    unfold m_X9_readTrial
    refine zj_aload_n dX9_readTrial_0 rfl ?_
    refine zj_cVV0 ml_X9_195 (fun a h => c_X9_token h_o0 h) h_o0 rfl (Nat.le_of_ble_eq_true rfl) (Nat.le_of_ble_eq_true rfl) dX9_readTrial_1 (fun s1 => ?_)
    refine zj_iconst dX9_readTrial_4 zic_0 ?_
    refine zj_istore_n (lv' := [some (.ref (zb w + o0)), some (.int 0), none, none, none, none]) dX9_readTrial_5 rfl (by decide) rfl rfl ?_
    refine zj_iconst dX9_readTrial_6 zic_0 ?_
    refine zj_istore_n (lv' := [some (.ref (zb w + o0)), some (.int 0), some (.int 0), none, none, none]) dX9_readTrial_7 rfl (by decide) rfl rfl ?_
    refine jl_X9_readTrial_8 hr h_o0 (fun l1_2 s_2 => ?_) zFuel _ _ _
    refine zj_aload_n dX9_readTrial_46 rfl ?_
    refine zj_iload_n dX9_readTrial_47 rfl ?_
    refine zj_cVL1 ml_X9_270 (fun a h => c_X9_named h_o0 h) h_o0 rfl (Nat.le_of_ble_eq_true rfl) (Nat.le_of_ble_eq_true rfl) dX9_readTrial_48 (fun r4 s3 => ?_)
    refine zj_lstore_n (lv' := [some (.ref (zb w + o0)), some (.int l1_2), some (.long r4), none, none, none]) dX9_readTrial_51 rfl (by decide) rfl rfl ?_
    refine zj_aload_n dX9_readTrial_52 rfl ?_
    refine zj_ldc2 dX9_readTrial_53 kcL_X9_224 ?_
    refine zj_cVV1 ml_X9_262 (fun a h => c_X9_want h_o0 h) h_o0 rfl (Nat.le_of_ble_eq_true rfl) (Nat.le_of_ble_eq_true rfl) dX9_readTrial_56 (fun s5 => ?_)
    refine zj_iconst dX9_readTrial_59 zic_0 ?_
    refine zj_istore (lv' := [some (.ref (zb w + o0)), some (.int l1_2), some (.long r4), none, some (.int 0), none]) dX9_readTrial_60 (by decide) rfl rfl ?_
    refine zj_aload_n dX9_readTrial_62 rfl ?_
    refine zj_getI dX9_readTrial_63 fl_X9_192 rfl h_o0 ?_
    refine zj_if_ne (tgt := 81) dX9_readTrial_66 (by decide) ?_ ?_
    · refine zj_aload_n dX9_readTrial_69 rfl ?_
      refine zj_cVI0 ml_X9_245 (fun a h => c_X9_isName h_o0 h) h_o0 rfl (Nat.le_of_ble_eq_true rfl) (Nat.le_of_ble_eq_true rfl) dX9_readTrial_70 (fun r7 s6 => ?_)
      refine zj_if_ne (tgt := 81) dX9_readTrial_73 (by decide) ?_ ?_
      · refine zj_aload_n dX9_readTrial_76 rfl ?_
        refine zj_iconst dX9_readTrial_77 zic_2 ?_
        refine zj_cVV1 ml_X9_242 (fun a h => c_X9_wrong h_o0 h) h_o0 rfl (Nat.le_of_ble_eq_true rfl) (Nat.le_of_ble_eq_true rfl) dX9_readTrial_78 (fun s8 => ?_)
        refine zj_weak [true, false, true, false, true, false] rfl ?_
        refine jl_X9_readTrial_81 hr h_o0 (fun l2_16 l4_16 s_16 => ?_) zFuel _ _ _
        exact j_X9_readTrial_158 hr h_o0
      · refine zj_weak [true, false, true, false, true, false] rfl ?_
        refine jl_X9_readTrial_81 hr h_o0 (fun l2_20 l4_20 s_20 => ?_) zFuel _ _ _
        exact j_X9_readTrial_158 hr h_o0
    · refine zj_weak [true, false, true, false, true, false] rfl ?_
      refine jl_X9_readTrial_81 hr h_o0 (fun l2_21 l4_21 s_21 => ?_) zFuel _ _ _
      exact j_X9_readTrial_158 hr h_o0) hm
