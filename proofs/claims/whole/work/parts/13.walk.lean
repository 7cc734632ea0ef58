def m_X2_notLetting_37 (o0 : Nat) (p1 : Int32) (rec4 : Int32 → Int32 → zSt → Option (Int32 × zSt)) (l2 : Int32) (l3 : Int32) (s : zSt) : Option (Int32 × zSt) :=
  rec4 l2 (l3 + 1) s
set_option maxRecDepth 100000 in
theorem j_X2_notLetting_37 {o0 : Nat} {p1 : Int32} {rec4 : Int32 → Int32 → zSt → Option (Int32 × zSt)} {l2 : Int32} {l3 : Int32} {s : zSt} {w : zWC} {x : zCX} (hr : zrt x = (some .int))  (h_o0 : zC o0 = 2) (h_rec4 : ∀ (l2 : Int32) (l3 : Int32) (s : zSt), zJ (zQf w x zeI) w x RX2 cX2_notLetting 4 1 (rec4 l2 l3 s) 4 [some (.ref (zb w + o0)), some (.int p1), some (.int l2), some (.int l3)] [] s) : zJ (zQf w x zeI) w x RX2 cX2_notLetting 4 1 (m_X2_notLetting_37 o0 p1 rec4 l2 l3 s) 37 [some (.ref (zb w + o0)), some (.int p1), some (.int l2), some (.int l3)] [] s := by
  unfold m_X2_notLetting_37
  refine zj_iinc (v2 := l3 + 1) (lv' := [some (.ref (zb w + o0)), some (.int p1), some (.int l2), some (.int (l3 + 1))]) dX2_notLetting_37 rfl (by rw [zic_1]) (by decide) rfl rfl ?_
  refine zj_goto (tgt := 4) dX2_notLetting_40 (by decide) ?_
  exact h_rec4 _ _ _
def bd_X2_notLetting_4 (o0 : Nat) (p1 : Int32) (rec4 : Int32 → Int32 → zSt → Option (Int32 × zSt)) (l2 : Int32) (l3 : Int32) (s : zSt) : Option (Int32 × zSt) :=
  (if l3 < zI s o0 0 then
  (if l3 < 0 ∨ zN (zT o0 4) ≤ Int32.toNatClampNeg l3 then none else (if l3 < 0 ∨ zN (zT o0 5) ≤ Int32.toNatClampNeg l3 then none else zcl (m_X8_within p1 (zI s (zT o0 4) (Int32.toNatClampNeg l3)) (zI s (zT o0 5) (Int32.toNatClampNeg l3)) s) (fun r2 s1 => (if r2 = 0 then
    m_X2_notLetting_37 o0 p1 rec4 (l2 ||| ((1 : Int32) <<< (l3 &&& 31))) l3 s1
    else
    m_X2_notLetting_37 o0 p1 rec4 l2 l3 s1))))
  else
  some (l2, s))
def lp_X2_notLetting_4 (o0 : Nat) (p1 : Int32) : Nat → Int32 → Int32 → zSt → Option (Int32 × zSt)
  | 0, _, _, _ => none
  | n + 1, l2, l3, s => bd_X2_notLetting_4 o0 p1 (fun l2 l3 s => lp_X2_notLetting_4 o0 p1 n l2 l3 s) l2 l3 s
set_option maxRecDepth 100000 in
theorem jb_X2_notLetting_4 {o0 : Nat} {p1 : Int32} {rec4 : Int32 → Int32 → zSt → Option (Int32 × zSt)} {l2 : Int32} {l3 : Int32} {s : zSt} {w : zWC} {x : zCX} (hr : zrt x = (some .int))  (h_o0 : zC o0 = 2) (h_rec4 : ∀ (l2 : Int32) (l3 : Int32) (s : zSt), zJ (zQf w x zeI) w x RX2 cX2_notLetting 4 1 (rec4 l2 l3 s) 4 [some (.ref (zb w + o0)), some (.int p1), some (.int l2), some (.int l3)] [] s) : zJ (zQf w x zeI) w x RX2 cX2_notLetting 4 1 (bd_X2_notLetting_4 o0 p1 rec4 l2 l3 s) 4 [some (.ref (zb w + o0)), some (.int p1), some (.int l2), some (.int l3)] [] s := by
  unfold bd_X2_notLetting_4
  refine zj_iload_n dX2_notLetting_4 rfl ?_
  refine zj_aload_n dX2_notLetting_5 rfl ?_
  refine zj_getI dX2_notLetting_6 fl_X2_9 rfl h_o0 ?_
  refine zj_icmp_ge (tgt := 43) dX2_notLetting_9 (by decide) ?_ ?_
  · refine zj_iload_n dX2_notLetting_12 rfl ?_
    refine zj_aload_n dX2_notLetting_13 rfl ?_
    refine zj_getT dX2_notLetting_14 fl_X2_25 rfl h_o0 ?_
    refine zj_iload_n dX2_notLetting_17 rfl ?_
    refine zj_iald dX2_notLetting_18 (zt_2_4 _ h_o0) ?_
    refine zj_aload_n dX2_notLetting_19 rfl ?_
    refine zj_getT dX2_notLetting_20 fl_X2_29 rfl h_o0 ?_
    refine zj_iload_n dX2_notLetting_23 rfl ?_
    refine zj_iald dX2_notLetting_24 (zt_2_5 _ h_o0) ?_
    refine zj_cNI3 ml_X2_88 (fun a h => c_X8_within  h) (Nat.le_of_ble_eq_true rfl) (Nat.le_of_ble_eq_true rfl) dX2_notLetting_25 (fun r2 s1 => ?_)
    refine zj_if_ne (tgt := 37) dX2_notLetting_28 (by decide) ?_ ?_
    · refine zj_iload_n dX2_notLetting_31 rfl ?_
      refine zj_iconst dX2_notLetting_32 zic_1 ?_
      refine zj_iload_n dX2_notLetting_33 rfl ?_
      refine zj_ishl dX2_notLetting_34 ?_
      refine zj_ior dX2_notLetting_35 ?_
      refine zj_istore_n (lv' := [some (.ref (zb w + o0)), some (.int p1), some (.int (l2 ||| ((1 : Int32) <<< (l3 &&& 31)))), some (.int l3)]) dX2_notLetting_36 rfl (by decide) rfl rfl ?_
      exact j_X2_notLetting_37 hr h_o0 h_rec4
    · exact j_X2_notLetting_37 hr h_o0 h_rec4
  · refine zj_iload_n dX2_notLetting_43 rfl ?_
    exact zj_iret hr dX2_notLetting_44
set_option maxRecDepth 100000 in
theorem jl_X2_notLetting_4 {o0 : Nat} {p1 : Int32} {w : zWC} {x : zCX} (hr : zrt x = (some .int))  (h_o0 : zC o0 = 2) : ∀ (n : Nat) (l2 : Int32) (l3 : Int32) (s : zSt), zJ (zQf w x zeI) w x RX2 cX2_notLetting 4 1 (lp_X2_notLetting_4 o0 p1 n l2 l3 s) 4 [some (.ref (zb w + o0)), some (.int p1), some (.int l2), some (.int l3)] [] s := by
  intro n
  induction n with
  | zero => intro l2 l3 s; exact zj_none
  | succ n ih => intro l2 l3 s; exact jb_X2_notLetting_4 hr h_o0 (fun l2 l3 s => ih l2 l3 s)
def m_X2_notLetting (o0 : Nat) (p1 : Int32) (s : zSt) : Option (Int32 × zSt) :=
  lp_X2_notLetting_4 o0 p1 zFuel 0 0 s
set_option maxRecDepth 100000 in
theorem c_X2_notLetting {w : zWC} {o0 : Nat} {p1 : Int32} {s : zSt} (h_o0 : zC o0 = 2) {a : Int32 × zSt} (hm : m_X2_notLetting o0 p1 s = some a) : zCn w 1 yX2_notLetting cX2_notLetting 4 (some .int) [.ref (zb w + o0), .int p1] s (zeI a).1 (zeI a).2 :=
  zCn_of (own := RX2) (lv := [some (.ref (zb w + o0)), some (.int p1), none, none]) (by decide +kernel) rfl (Nat.le_of_ble_eq_true rfl) rfl (fun x hr => by
    unfold m_X2_notLetting
    refine zj_iconst dX2_notLetting_0 zic_0 ?_
    refine zj_istore_n (lv' := [some (.ref (zb w + o0)), some (.int p1), some (.int 0), none]) dX2_notLetting_1 rfl (by decide) rfl rfl ?_
    refine zj_iconst dX2_notLetting_2 zic_0 ?_
    refine zj_istore_n (lv' := [some (.ref (zb w + o0)), some (.int p1), some (.int 0), some (.int 0)]) dX2_notLetting_3 rfl (by decide) rfl rfl ?_
    exact jl_X2_notLetting_4 hr h_o0 zFuel _ _ _) hm
def m_X2_out_62 (o0 : Nat) (rec11 : Int32 → Int32 → Int32 → zSt → Option (Int32 × zSt)) (l1 : Int32) (l2 : Int32) (l3 : Int32) (s : zSt) : Option (Int32 × zSt) :=
  rec11 l1 l2 (l3 + 1) s
set_option maxRecDepth 100000 in
theorem j_X2_out_62 {o0 : Nat} {rec11 : Int32 → Int32 → Int32 → zSt → Option (Int32 × zSt)} {l1 : Int32} {l2 : Int32} {l3 : Int32} {s : zSt} {w : zWC} {x : zCX} (hr : zrt x = (some .int))  (h_o0 : zC o0 = 2) (h_rec11 : ∀ (l1 : Int32) (l2 : Int32) (l3 : Int32) (s : zSt), zJ (zQf w x zeI) w x RX2 cX2_out 6 2 (rec11 l1 l2 l3 s) 11 [some (.ref (zb w + o0)), some (.int l1), some (.int l2), some (.int l3), none, none] [] s) : zJ (zQf w x zeI) w x RX2 cX2_out 6 2 (m_X2_out_62 o0 rec11 l1 l2 l3 s) 62 [some (.ref (zb w + o0)), some (.int l1), some (.int l2), some (.int l3), none, none] [] s := by
  unfold m_X2_out_62
  refine zj_iinc (v2 := l3 + 1) (lv' := [some (.ref (zb w + o0)), some (.int l1), some (.int l2), some (.int (l3 + 1)), none, none]) dX2_out_62 rfl (by rw [zic_1]) (by decide) rfl rfl ?_
  refine zj_goto (tgt := 11) dX2_out_65 (by decide) ?_
  exact h_rec11 _ _ _ _
def m_X2_out_56 (o0 : Nat) (rec11 : Int32 → Int32 → Int32 → zSt → Option (Int32 × zSt)) (l3 : Int32) (l4 : Int32) (l5 : Int32) (s : zSt) : Option (Int32 × zSt) :=
  m_X2_out_62 o0 rec11 l4 l5 l3 s
set_option maxRecDepth 100000 in
theorem j_X2_out_56 {o0 : Nat} {rec11 : Int32 → Int32 → Int32 → zSt → Option (Int32 × zSt)} {l3 : Int32} {l4 : Int32} {l5 : Int32} {s : zSt} {w : zWC} {x : zCX} (hr : zrt x = (some .int))  (h_o0 : zC o0 = 2) (h_rec11 : ∀ (l1 : Int32) (l2 : Int32) (l3 : Int32) (s : zSt), zJ (zQf w x zeI) w x RX2 cX2_out 6 2 (rec11 l1 l2 l3 s) 11 [some (.ref (zb w + o0)), some (.int l1), some (.int l2), some (.int l3), none, none] [] s) : zJ (zQf w x zeI) w x RX2 cX2_out 6 2 (m_X2_out_56 o0 rec11 l3 l4 l5 s) 56 [some (.ref (zb w + o0)), none, none, some (.int l3), some (.int l4), some (.int l5)] [] s := by
  unfold m_X2_out_56
  refine zj_iload dX2_out_56 rfl ?_
  refine zj_istore_n (lv' := [some (.ref (zb w + o0)), some (.int l4), none, some (.int l3), some (.int l4), some (.int l5)]) dX2_out_58 rfl (by decide) rfl rfl ?_
  refine zj_iload dX2_out_59 rfl ?_
  refine zj_istore_n (lv' := [some (.ref (zb w + o0)), some (.int l4), some (.int l5), some (.int l3), some (.int l4), some (.int l5)]) dX2_out_61 rfl (by decide) rfl rfl ?_
  refine zj_weak [true, true, true, true, false, false] rfl ?_
  exact j_X2_out_62 hr h_o0 h_rec11
def bd_X2_out_11 (o0 : Nat) (rec11 : Int32 → Int32 → Int32 → zSt → Option (Int32 × zSt)) (l1 : Int32) (l2 : Int32) (l3 : Int32) (s : zSt) : Option (Int32 × zSt) :=
  (if l3 < zI s o0 0 then
  (if l3 < 0 ∨ zN (zT o0 4) ≤ Int32.toNatClampNeg l3 then none else zcl (m_X2_notLetting o0 (zI s (zT o0 4) (Int32.toNatClampNeg l3)) s) (fun r2 s1 => zcl (m_J6_bitCount_0f7a4 r2 s1) (fun r4 s3 => (if r4 < l2 then
    m_X2_out_56 o0 rec11 l3 r2 r4 s3
    else
    (if r4 = l2 then
      (if r2 < l1 then
        m_X2_out_56 o0 rec11 l3 r2 r4 s3
        else
        m_X2_out_62 o0 rec11 l1 l2 l3 s3)
      else
      m_X2_out_62 o0 rec11 l1 l2 l3 s3)))))
  else
  some (l1, s))
def lp_X2_out_11 (o0 : Nat) : Nat → Int32 → Int32 → Int32 → zSt → Option (Int32 × zSt)
  | 0, _, _, _, _ => none
  | n + 1, l1, l2, l3, s => bd_X2_out_11 o0 (fun l1 l2 l3 s => lp_X2_out_11 o0 n l1 l2 l3 s) l1 l2 l3 s
set_option maxRecDepth 100000 in
theorem jb_X2_out_11 {o0 : Nat} {rec11 : Int32 → Int32 → Int32 → zSt → Option (Int32 × zSt)} {l1 : Int32} {l2 : Int32} {l3 : Int32} {s : zSt} {w : zWC} {x : zCX} (hr : zrt x = (some .int))  (h_o0 : zC o0 = 2) (h_rec11 : ∀ (l1 : Int32) (l2 : Int32) (l3 : Int32) (s : zSt), zJ (zQf w x zeI) w x RX2 cX2_out 6 2 (rec11 l1 l2 l3 s) 11 [some (.ref (zb w + o0)), some (.int l1), some (.int l2), some (.int l3), none, none] [] s) : zJ (zQf w x zeI) w x RX2 cX2_out 6 2 (bd_X2_out_11 o0 rec11 l1 l2 l3 s) 11 [some (.ref (zb w + o0)), some (.int l1), some (.int l2), some (.int l3), none, none] [] s := by
  unfold bd_X2_out_11
  refine zj_iload_n dX2_out_11 rfl ?_
  refine zj_aload_n dX2_out_12 rfl ?_
  refine zj_getI dX2_out_13 fl_X2_9 rfl h_o0 ?_
  refine zj_icmp_ge (tgt := 68) dX2_out_16 (by decide) ?_ ?_
  · refine zj_aload_n dX2_out_19 rfl ?_
    refine zj_aload_n dX2_out_20 rfl ?_
    refine zj_getT dX2_out_21 fl_X2_25 rfl h_o0 ?_
    refine zj_iload_n dX2_out_24 rfl ?_
    refine zj_iald dX2_out_25 (zt_2_4 _ h_o0) ?_
    refine zj_cVI1 ml_X2_79 (fun a h => c_X2_notLetting h_o0 h) h_o0 rfl (Nat.le_of_ble_eq_true rfl) (Nat.le_of_ble_eq_true rfl) dX2_out_26 (fun r2 s1 => ?_)
    refine zj_istore (lv' := [some (.ref (zb w + o0)), some (.int l1), some (.int l2), some (.int l3), some (.int r2), none]) dX2_out_29 (by decide) rfl rfl ?_
    refine zj_iload dX2_out_31 rfl ?_
    refine zj_cSI1 ml_X2_83 (fun a h => c_J6_bitCount_0f7a4  h) (Nat.le_of_ble_eq_true rfl) (Nat.le_of_ble_eq_true rfl) dX2_out_33 (fun r4 s3 => ?_)
    refine zj_istore (lv' := [some (.ref (zb w + o0)), some (.int l1), some (.int l2), some (.int l3), some (.int r2), some (.int r4)]) dX2_out_36 (by decide) rfl rfl ?_
    refine zj_iload dX2_out_38 rfl ?_
    refine zj_iload_n dX2_out_40 rfl ?_
    refine zj_icmp_lt (tgt := 56) dX2_out_41 (by decide) ?_ ?_
    · refine zj_weak [true, false, false, true, true, true] rfl ?_
      exact j_X2_out_56 hr h_o0 h_rec11
    · refine zj_iload dX2_out_44 rfl ?_
      refine zj_iload_n dX2_out_46 rfl ?_
      refine zj_icmp_ne (tgt := 62) dX2_out_47 (by decide) ?_ ?_
      · refine zj_iload dX2_out_50 rfl ?_
        refine zj_iload_n dX2_out_52 rfl ?_
        refine zj_icmp_ge (tgt := 62) dX2_out_53 (by decide) ?_ ?_
        · refine zj_weak [true, false, false, true, true, true] rfl ?_
          exact j_X2_out_56 hr h_o0 h_rec11
        · refine zj_weak [true, true, true, true, false, false] rfl ?_
          exact j_X2_out_62 hr h_o0 h_rec11
      · refine zj_weak [true, true, true, true, false, false] rfl ?_
        exact j_X2_out_62 hr h_o0 h_rec11
  · refine zj_iload_n dX2_out_68 rfl ?_
    exact zj_iret hr dX2_out_69
set_option maxRecDepth 100000 in
theorem jl_X2_out_11 {o0 : Nat} {w : zWC} {x : zCX} (hr : zrt x = (some .int))  (h_o0 : zC o0 = 2) : ∀ (n : Nat) (l1 : Int32) (l2 : Int32) (l3 : Int32) (s : zSt), zJ (zQf w x zeI) w x RX2 cX2_out 6 2 (lp_X2_out_11 o0 n l1 l2 l3 s) 11 [some (.ref (zb w + o0)), some (.int l1), some (.int l2), some (.int l3), none, none] [] s := by
  intro n
  induction n with
  | zero => intro l1 l2 l3 s; exact zj_none
  | succ n ih => intro l1 l2 l3 s; exact jb_X2_out_11 hr h_o0 (fun l1 l2 l3 s => ih l1 l2 l3 s)
def m_X2_out (o0 : Nat) (s : zSt) : Option (Int32 × zSt) :=
  lp_X2_out_11 o0 zFuel 0 ((zI s o0 0) + 1) 0 s
set_option maxRecDepth 100000 in
theorem c_X2_out {w : zWC} {o0 : Nat} {s : zSt} (h_o0 : zC o0 = 2) {a : Int32 × zSt} (hm : m_X2_out o0 s = some a) : zCn w 2 yX2_out cX2_out 6 (some .int) [.ref (zb w + o0)] s (zeI a).1 (zeI a).2 :=
  zCn_of (own := RX2) (lv := [some (.ref (zb w + o0)), none, none, none, none, none]) (by decide +kernel) rfl (Nat.le_of_ble_eq_true rfl) rfl (fun x hr => by
    unfold m_X2_out
    refine zj_iconst dX2_out_0 zic_0 ?_
    refine zj_istore_n (lv' := [some (.ref (zb w + o0)), some (.int 0), none, none, none, none]) dX2_out_1 rfl (by decide) rfl rfl ?_
    refine zj_aload_n dX2_out_2 rfl ?_
    refine zj_getI dX2_out_3 fl_X2_9 rfl h_o0 ?_
    refine zj_iconst dX2_out_6 zic_1 ?_
    refine zj_iadd dX2_out_7 ?_
    refine zj_istore_n (lv' := [some (.ref (zb w + o0)), some (.int 0), some (.int ((zI s o0 0) + 1)), none, none, none]) dX2_out_8 rfl (by decide) rfl rfl ?_
    refine zj_iconst dX2_out_9 zic_0 ?_
    refine zj_istore_n (lv' := [some (.ref (zb w + o0)), some (.int 0), some (.int ((zI s o0 0) + 1)), some (.int 0), none, none]) dX2_out_10 rfl (by decide) rfl rfl ?_
    exact jl_X2_out_11 hr h_o0 zFuel _ _ _ _) hm
def m_X2_join_27 (o0 : Nat) (p1 : Int32) (p2 : Int32) (rec2 : Int32 → zSt → Option (zSt)) (l3 : Int32) (s : zSt) : Option (zSt) :=
  rec2 (l3 + 1) s
set_option maxRecDepth 100000 in
theorem j_X2_join_27 {o0 : Nat} {p1 : Int32} {p2 : Int32} {rec2 : Int32 → zSt → Option (zSt)} {l3 : Int32} {s : zSt} {w : zWC} {x : zCX} (hr : zrt x = none)  (h_o0 : zC o0 = 2) (h_rec2 : ∀ (l3 : Int32) (s : zSt), zJ (zQf w x zeV) w x RX2 cX2_join 4 0 (rec2 l3 s) 2 [some (.ref (zb w + o0)), some (.int p1), some (.int p2), some (.int l3)] [] s) : zJ (zQf w x zeV) w x RX2 cX2_join 4 0 (m_X2_join_27 o0 p1 p2 rec2 l3 s) 27 [some (.ref (zb w + o0)), some (.int p1), some (.int p2), some (.int l3)] [] s := by
  unfold m_X2_join_27
  refine zj_iinc (v2 := l3 + 1) (lv' := [some (.ref (zb w + o0)), some (.int p1), some (.int p2), some (.int (l3 + 1))]) dX2_join_27 rfl (by rw [zic_1]) (by decide) rfl rfl ?_
  refine zj_goto (tgt := 2) dX2_join_30 (by decide) ?_
  exact h_rec2 _ _
def bd_X2_join_2 (o0 : Nat) (p1 : Int32) (p2 : Int32) (rec2 : Int32 → zSt → Option (zSt)) (l3 : Int32) (s : zSt) : Option (zSt) :=
  (if l3 < zI s o0 0 then
  (if l3 < 0 ∨ zN (zT o0 6) ≤ Int32.toNatClampNeg l3 then none else (if zI s (zT o0 6) (Int32.toNatClampNeg l3) = p1 then
    (if l3 < 0 ∨ zN (zT o0 6) ≤ Int32.toNatClampNeg l3 then none else zlt (zsI s (zT o0 6) (Int32.toNatClampNeg l3) p2) (fun s1 => m_X2_join_27 o0 p1 p2 rec2 l3 s1))
    else
    m_X2_join_27 o0 p1 p2 rec2 l3 s))
  else
  some s)
def lp_X2_join_2 (o0 : Nat) (p1 : Int32) (p2 : Int32) : Nat → Int32 → zSt → Option (zSt)
  | 0, _, _ => none
  | n + 1, l3, s => bd_X2_join_2 o0 p1 p2 (fun l3 s => lp_X2_join_2 o0 p1 p2 n l3 s) l3 s
set_option maxRecDepth 100000 in
theorem jb_X2_join_2 {o0 : Nat} {p1 : Int32} {p2 : Int32} {rec2 : Int32 → zSt → Option (zSt)} {l3 : Int32} {s : zSt} {w : zWC} {x : zCX} (hr : zrt x = none)  (h_o0 : zC o0 = 2) (h_rec2 : ∀ (l3 : Int32) (s : zSt), zJ (zQf w x zeV) w x RX2 cX2_join 4 0 (rec2 l3 s) 2 [some (.ref (zb w + o0)), some (.int p1), some (.int p2), some (.int l3)] [] s) : zJ (zQf w x zeV) w x RX2 cX2_join 4 0 (bd_X2_join_2 o0 p1 p2 rec2 l3 s) 2 [some (.ref (zb w + o0)), some (.int p1), some (.int p2), some (.int l3)] [] s := by
  unfold bd_X2_join_2
  refine zj_iload_n dX2_join_2 rfl ?_
  refine zj_aload_n dX2_join_3 rfl ?_
  refine zj_getI dX2_join_4 fl_X2_9 rfl h_o0 ?_
  refine zj_icmp_ge (tgt := 33) dX2_join_7 (by decide) ?_ ?_
  · refine zj_aload_n dX2_join_10 rfl ?_
    refine zj_getT dX2_join_11 fl_X2_32 rfl h_o0 ?_
    refine zj_iload_n dX2_join_14 rfl ?_
    refine zj_iald dX2_join_15 (zt_2_6 _ h_o0) ?_
    refine zj_iload_n dX2_join_16 rfl ?_
    refine zj_icmp_ne (tgt := 27) dX2_join_17 (by decide) ?_ ?_
    · refine zj_aload_n dX2_join_20 rfl ?_
      refine zj_getT dX2_join_21 fl_X2_32 rfl h_o0 ?_
      refine zj_iload_n dX2_join_24 rfl ?_
      refine zj_iload_n dX2_join_25 rfl ?_
      refine zj_iast dX2_join_26 (zt_2_6 _ h_o0) (fun s1 => ?_)
      exact j_X2_join_27 hr h_o0 h_rec2
    · exact j_X2_join_27 hr h_o0 h_rec2
  · exact zj_vret hr dX2_join_33
set_option maxRecDepth 100000 in
theorem jl_X2_join_2 {o0 : Nat} {p1 : Int32} {p2 : Int32} {w : zWC} {x : zCX} (hr : zrt x = none)  (h_o0 : zC o0 = 2) : ∀ (n : Nat) (l3 : Int32) (s : zSt), zJ (zQf w x zeV) w x RX2 cX2_join 4 0 (lp_X2_join_2 o0 p1 p2 n l3 s) 2 [some (.ref (zb w + o0)), some (.int p1), some (.int p2), some (.int l3)] [] s := by
  intro n
  induction n with
  | zero => intro l3 s; exact zj_none
  | succ n ih => intro l3 s; exact jb_X2_join_2 hr h_o0 (fun l3 s => ih l3 s)
def m_X2_join (o0 : Nat) (p1 : Int32) (p2 : Int32) (s : zSt) : Option (zSt) :=
  lp_X2_join_2 o0 p1 p2 zFuel 0 s
set_option maxRecDepth 100000 in
theorem c_X2_join {w : zWC} {o0 : Nat} {p1 : Int32} {p2 : Int32} {s : zSt} (h_o0 : zC o0 = 2) {a : zSt} (hm : m_X2_join o0 p1 p2 s = some a) : zCn w 0 yX2_join cX2_join 4 none [.ref (zb w + o0), .int p1, .int p2] s (zeV a).1 (zeV a).2 :=
  zCn_of (own := RX2) (lv := [some (.ref (zb w + o0)), some (.int p1), some (.int p2), none]) (by decide +kernel) rfl (Nat.le_of_ble_eq_true rfl) rfl (fun x hr => by
    unfold m_X2_join
    refine zj_iconst dX2_join_0 zic_0 ?_
    refine zj_istore_n (lv' := [some (.ref (zb w + o0)), some (.int p1), some (.int p2), some (.int 0)]) dX2_join_1 rfl (by decide) rfl rfl ?_
    exact jl_X2_join_2 hr h_o0 zFuel _ _) hm
def bd_X2_apart_7 (o0 : Nat) (rec7 : Int32 → Int32 → zSt → Option (Int32 × zSt)) (k28 : Int32 → zSt → Option (Int32 × zSt)) (l1 : Int32) (l2 : Int32) (s : zSt) : Option (Int32 × zSt) :=
  (if l2 < zI s o0 0 then
  (if l2 < 0 ∨ zN (zT o0 6) ≤ Int32.toNatClampNeg l2 then none else zlt (zsI s (zT o0 6) (Int32.toNatClampNeg l2) l2) (fun s1 => rec7 l1 (l2 + 1) s1))
  else
  k28 l1 s)
def lp_X2_apart_7 (o0 : Nat) (k28 : Int32 → zSt → Option (Int32 × zSt)) : Nat → Int32 → Int32 → zSt → Option (Int32 × zSt)
  | 0, _, _, _ => none
  | n + 1, l1, l2, s => bd_X2_apart_7 o0 (fun l1 l2 s => lp_X2_apart_7 o0 k28 n l1 l2 s) k28 l1 l2 s
set_option maxRecDepth 100000 in
theorem jb_X2_apart_7 {o0 : Nat} {rec7 : Int32 → Int32 → zSt → Option (Int32 × zSt)} {k28 : Int32 → zSt → Option (Int32 × zSt)} {l1 : Int32} {l2 : Int32} {s : zSt} {w : zWC} {x : zCX} (hr : zrt x = (some .int))  (h_o0 : zC o0 = 2) (h_rec7 : ∀ (l1 : Int32) (l2 : Int32) (s : zSt), zJ (zQf w x zeI) w x RX2 cX2_apart 5 1 (rec7 l1 l2 s) 7 [some (.ref (zb w + o0)), some (.int l1), some (.int l2), none, none] [] s) (h_k28 : ∀ (l1 : Int32) (s : zSt), zJ (zQf w x zeI) w x RX2 cX2_apart 5 1 (k28 l1 s) 28 [some (.ref (zb w + o0)), some (.int l1), none, none, none] [] s) : zJ (zQf w x zeI) w x RX2 cX2_apart 5 1 (bd_X2_apart_7 o0 rec7 k28 l1 l2 s) 7 [some (.ref (zb w + o0)), some (.int l1), some (.int l2), none, none] [] s := by
  unfold bd_X2_apart_7
  refine zj_iload_n dX2_apart_7 rfl ?_
  refine zj_aload_n dX2_apart_8 rfl ?_
  refine zj_getI dX2_apart_9 fl_X2_9 rfl h_o0 ?_
  refine zj_icmp_ge (tgt := 28) dX2_apart_12 (by decide) ?_ ?_
  · refine zj_aload_n dX2_apart_15 rfl ?_
    refine zj_getT dX2_apart_16 fl_X2_32 rfl h_o0 ?_
    refine zj_iload_n dX2_apart_19 rfl ?_
    refine zj_iload_n dX2_apart_20 rfl ?_
    refine zj_iast dX2_apart_21 (zt_2_6 _ h_o0) (fun s1 => ?_)
    refine zj_iinc (v2 := l2 + 1) (lv' := [some (.ref (zb w + o0)), some (.int l1), some (.int (l2 + 1)), none, none]) dX2_apart_22 rfl (by rw [zic_1]) (by decide) rfl rfl ?_
    refine zj_goto (tgt := 7) dX2_apart_25 (by decide) ?_
    exact h_rec7 _ _ _
  · refine zj_weak [true, true, false, false, false] rfl ?_
    exact h_k28 _ _
set_option maxRecDepth 100000 in
theorem jl_X2_apart_7 {o0 : Nat} {k28 : Int32 → zSt → Option (Int32 × zSt)} {w : zWC} {x : zCX} (hr : zrt x = (some .int))  (h_o0 : zC o0 = 2) (h_k28 : ∀ (l1 : Int32) (s : zSt), zJ (zQf w x zeI) w x RX2 cX2_apart 5 1 (k28 l1 s) 28 [some (.ref (zb w + o0)), some (.int l1), none, none, none] [] s) : ∀ (n : Nat) (l1 : Int32) (l2 : Int32) (s : zSt), zJ (zQf w x zeI) w x RX2 cX2_apart 5 1 (lp_X2_apart_7 o0 k28 n l1 l2 s) 7 [some (.ref (zb w + o0)), some (.int l1), some (.int l2), none, none] [] s := by
  intro n
  induction n with
  | zero => intro l1 l2 s; exact zj_none
  | succ n ih => intro l1 l2 s; exact jb_X2_apart_7 hr h_o0 (fun l1 l2 s => ih l1 l2 s) h_k28
def m_X2_apart_123 (o0 : Nat) (rec40 : Int32 → Int32 → Int32 → zSt → Option (Int32 × zSt)) (k129 : Int32 → Int32 → zSt → Option (Int32 × zSt)) (l1 : Int32) (l2 : Int32) (l3 : Int32) (s : zSt) : Option (Int32 × zSt) :=
  rec40 l1 l2 (l3 + 1) s
set_option maxRecDepth 100000 in
theorem j_X2_apart_123 {o0 : Nat} {rec40 : Int32 → Int32 → Int32 → zSt → Option (Int32 × zSt)} {k129 : Int32 → Int32 → zSt → Option (Int32 × zSt)} {l1 : Int32} {l2 : Int32} {l3 : Int32} {s : zSt} {w : zWC} {x : zCX} (hr : zrt x = (some .int))  (h_o0 : zC o0 = 2) (h_rec40 : ∀ (l1 : Int32) (l2 : Int32) (l3 : Int32) (s : zSt), zJ (zQf w x zeI) w x RX2 cX2_apart 5 1 (rec40 l1 l2 l3 s) 40 [some (.ref (zb w + o0)), some (.int l1), some (.int l2), some (.int l3), none] [] s) (h_k129 : ∀ (l1 : Int32) (l2 : Int32) (s : zSt), zJ (zQf w x zeI) w x RX2 cX2_apart 5 1 (k129 l1 l2 s) 129 [some (.ref (zb w + o0)), some (.int l1), some (.int l2), none, none] [] s) : zJ (zQf w x zeI) w x RX2 cX2_apart 5 1 (m_X2_apart_123 o0 rec40 k129 l1 l2 l3 s) 123 [some (.ref (zb w + o0)), some (.int l1), some (.int l2), some (.int l3), none] [] s := by
  unfold m_X2_apart_123
  refine zj_iinc (v2 := l3 + 1) (lv' := [some (.ref (zb w + o0)), some (.int l1), some (.int l2), some (.int (l3 + 1)), none]) dX2_apart_123 rfl (by rw [zic_1]) (by decide) rfl rfl ?_
  refine zj_goto (tgt := 40) dX2_apart_126 (by decide) ?_
  exact h_rec40 _ _ _ _
def m_X2_apart_82 (o0 : Nat) (rec40 : Int32 → Int32 → Int32 → zSt → Option (Int32 × zSt)) (k129 : Int32 → Int32 → zSt → Option (Int32 × zSt)) (l1 : Int32) (l2 : Int32) (l3 : Int32) (t0 : Int32) (s : zSt) : Option (Int32 × zSt) :=
  (if t0 = 0 then
  m_X2_apart_123 o0 rec40 k129 l1 l2 l3 s
  else
  (if l2 < 0 ∨ zN (zT o0 6) ≤ Int32.toNatClampNeg l2 then none else (if l3 < 0 ∨ zN (zT o0 6) ≤ Int32.toNatClampNeg l3 then none else (if zI s (zT o0 6) (Int32.toNatClampNeg l2) = zI s (zT o0 6) (Int32.toNatClampNeg l3) then
    m_X2_apart_123 o0 rec40 k129 l1 l2 l3 s
    else
    (if l2 < 0 ∨ zN (zT o0 6) ≤ Int32.toNatClampNeg l2 then none else (if l3 < 0 ∨ zN (zT o0 6) ≤ Int32.toNatClampNeg l3 then none else zcv (m_X2_join o0 (zI s (zT o0 6) (Int32.toNatClampNeg l2)) (zI s (zT o0 6) (Int32.toNatClampNeg l3)) s) (fun s3 => m_X2_apart_123 o0 rec40 k129 (l1 + (-1)) l2 l3 s3)))))))
set_option maxRecDepth 100000 in
theorem j_X2_apart_82 {o0 : Nat} {rec40 : Int32 → Int32 → Int32 → zSt → Option (Int32 × zSt)} {k129 : Int32 → Int32 → zSt → Option (Int32 × zSt)} {l1 : Int32} {l2 : Int32} {l3 : Int32} {t0 : Int32} {s : zSt} {w : zWC} {x : zCX} (hr : zrt x = (some .int))  (h_o0 : zC o0 = 2) (h_rec40 : ∀ (l1 : Int32) (l2 : Int32) (l3 : Int32) (s : zSt), zJ (zQf w x zeI) w x RX2 cX2_apart 5 1 (rec40 l1 l2 l3 s) 40 [some (.ref (zb w + o0)), some (.int l1), some (.int l2), some (.int l3), none] [] s) (h_k129 : ∀ (l1 : Int32) (l2 : Int32) (s : zSt), zJ (zQf w x zeI) w x RX2 cX2_apart 5 1 (k129 l1 l2 s) 129 [some (.ref (zb w + o0)), some (.int l1), some (.int l2), none, none] [] s) : zJ (zQf w x zeI) w x RX2 cX2_apart 5 1 (m_X2_apart_82 o0 rec40 k129 l1 l2 l3 t0 s) 82 [some (.ref (zb w + o0)), some (.int l1), some (.int l2), some (.int l3), none] [.int t0] s := by
  unfold m_X2_apart_82
  refine zj_istore (lv' := [some (.ref (zb w + o0)), some (.int l1), some (.int l2), some (.int l3), some (.int t0)]) dX2_apart_82 (by decide) rfl rfl ?_
  refine zj_iload dX2_apart_84 rfl ?_
  refine zj_if_eq (tgt := 123) dX2_apart_86 (by decide) ?_ ?_
  · refine zj_weak [true, true, true, true, false] rfl ?_
    exact j_X2_apart_123 hr h_o0 h_rec40 h_k129
  · refine zj_aload_n dX2_apart_89 rfl ?_
    refine zj_getT dX2_apart_90 fl_X2_32 rfl h_o0 ?_
    refine zj_iload_n dX2_apart_93 rfl ?_
    refine zj_iald dX2_apart_94 (zt_2_6 _ h_o0) ?_
    refine zj_aload_n dX2_apart_95 rfl ?_
    refine zj_getT dX2_apart_96 fl_X2_32 rfl h_o0 ?_
    refine zj_iload_n dX2_apart_99 rfl ?_
    refine zj_iald dX2_apart_100 (zt_2_6 _ h_o0) ?_
    refine zj_icmp_eq (tgt := 123) dX2_apart_101 (by decide) ?_ ?_
    · refine zj_weak [true, true, true, true, false] rfl ?_
      exact j_X2_apart_123 hr h_o0 h_rec40 h_k129
    · refine zj_aload_n dX2_apart_104 rfl ?_
      refine zj_aload_n dX2_apart_105 rfl ?_
      refine zj_getT dX2_apart_106 fl_X2_32 rfl h_o0 ?_
      refine zj_iload_n dX2_apart_109 rfl ?_
      refine zj_iald dX2_apart_110 (zt_2_6 _ h_o0) ?_
      refine zj_aload_n dX2_apart_111 rfl ?_
      refine zj_getT dX2_apart_112 fl_X2_32 rfl h_o0 ?_
      refine zj_iload_n dX2_apart_115 rfl ?_
      refine zj_iald dX2_apart_116 (zt_2_6 _ h_o0) ?_
      refine zj_cVV2 ml_X2_92 (fun a h => c_X2_join h_o0 h) h_o0 rfl (Nat.le_of_ble_eq_true rfl) (Nat.le_of_ble_eq_true rfl) dX2_apart_117 (fun s3 => ?_)
      refine zj_iinc (v2 := l1 + (-1)) (lv' := [some (.ref (zb w + o0)), some (.int (l1 + (-1))), some (.int l2), some (.int l3), some (.int t0)]) dX2_apart_120 rfl (by rw [zic_m1]) (by decide) rfl rfl ?_
      refine zj_weak [true, true, true, true, false] rfl ?_
      exact j_X2_apart_123 hr h_o0 h_rec40 h_k129
def m_X2_apart_77 (o0 : Nat) (rec40 : Int32 → Int32 → Int32 → zSt → Option (Int32 × zSt)) (k129 : Int32 → Int32 → zSt → Option (Int32 × zSt)) (l1 : Int32) (l2 : Int32) (l3 : Int32) (s : zSt) : Option (Int32 × zSt) :=
  m_X2_apart_82 o0 rec40 k129 l1 l2 l3 1 s
set_option maxRecDepth 100000 in
theorem j_X2_apart_77 {o0 : Nat} {rec40 : Int32 → Int32 → Int32 → zSt → Option (Int32 × zSt)} {k129 : Int32 → Int32 → zSt → Option (Int32 × zSt)} {l1 : Int32} {l2 : Int32} {l3 : Int32} {s : zSt} {w : zWC} {x : zCX} (hr : zrt x = (some .int))  (h_o0 : zC o0 = 2) (h_rec40 : ∀ (l1 : Int32) (l2 : Int32) (l3 : Int32) (s : zSt), zJ (zQf w x zeI) w x RX2 cX2_apart 5 1 (rec40 l1 l2 l3 s) 40 [some (.ref (zb w + o0)), some (.int l1), some (.int l2), some (.int l3), none] [] s) (h_k129 : ∀ (l1 : Int32) (l2 : Int32) (s : zSt), zJ (zQf w x zeI) w x RX2 cX2_apart 5 1 (k129 l1 l2 s) 129 [some (.ref (zb w + o0)), some (.int l1), some (.int l2), none, none] [] s) : zJ (zQf w x zeI) w x RX2 cX2_apart 5 1 (m_X2_apart_77 o0 rec40 k129 l1 l2 l3 s) 77 [some (.ref (zb w + o0)), some (.int l1), some (.int l2), some (.int l3), none] [] s := by
  unfold m_X2_apart_77
  refine zj_iconst dX2_apart_77 zic_1 ?_
  refine zj_goto (tgt := 82) dX2_apart_78 (by decide) ?_
  exact j_X2_apart_82 hr h_o0 h_rec40 h_k129
def bd_X2_apart_40 (o0 : Nat) (rec40 : Int32 → Int32 → Int32 → zSt → Option (Int32 × zSt)) (k129 : Int32 → Int32 → zSt → Option (Int32 × zSt)) (l1 : Int32) (l2 : Int32) (l3 : Int32) (s : zSt) : Option (Int32 × zSt) :=
  (if l3 < l2 then
  (if l2 < 0 ∨ zN (zT o0 2) ≤ Int32.toNatClampNeg l2 then none else (if l3 < 0 ∨ zN (zT o0 2) ≤ Int32.toNatClampNeg l3 then none else (if zL s (zT o0 2) (Int32.toNatClampNeg l2) = zL s (zT o0 2) (Int32.toNatClampNeg l3) then
    m_X2_apart_77 o0 rec40 k129 l1 l2 l3 s
    else
    (if l2 < 0 ∨ zN (zT o0 3) ≤ Int32.toNatClampNeg l2 then none else (if l3 < 0 ∨ zN (zT o0 3) ≤ Int32.toNatClampNeg l3 then none else (if zL s (zT o0 3) (Int32.toNatClampNeg l2) = zL s (zT o0 3) (Int32.toNatClampNeg l3) then
      m_X2_apart_77 o0 rec40 k129 l1 l2 l3 s
      else
      m_X2_apart_82 o0 rec40 k129 l1 l2 l3 0 s))))))
  else
  k129 l1 l2 s)
def lp_X2_apart_40 (o0 : Nat) (k129 : Int32 → Int32 → zSt → Option (Int32 × zSt)) : Nat → Int32 → Int32 → Int32 → zSt → Option (Int32 × zSt)
  | 0, _, _, _, _ => none
  | n + 1, l1, l2, l3, s => bd_X2_apart_40 o0 (fun l1 l2 l3 s => lp_X2_apart_40 o0 k129 n l1 l2 l3 s) k129 l1 l2 l3 s
set_option maxRecDepth 100000 in
theorem jb_X2_apart_40 {o0 : Nat} {rec40 : Int32 → Int32 → Int32 → zSt → Option (Int32 × zSt)} {k129 : Int32 → Int32 → zSt → Option (Int32 × zSt)} {l1 : Int32} {l2 : Int32} {l3 : Int32} {s : zSt} {w : zWC} {x : zCX} (hr : zrt x = (some .int))  (h_o0 : zC o0 = 2) (h_rec40 : ∀ (l1 : Int32) (l2 : Int32) (l3 : Int32) (s : zSt), zJ (zQf w x zeI) w x RX2 cX2_apart 5 1 (rec40 l1 l2 l3 s) 40 [some (.ref (zb w + o0)), some (.int l1), some (.int l2), some (.int l3), none] [] s) (h_k129 : ∀ (l1 : Int32) (l2 : Int32) (s : zSt), zJ (zQf w x zeI) w x RX2 cX2_apart 5 1 (k129 l1 l2 s) 129 [some (.ref (zb w + o0)), some (.int l1), some (.int l2), none, none] [] s) : zJ (zQf w x zeI) w x RX2 cX2_apart 5 1 (bd_X2_apart_40 o0 rec40 k129 l1 l2 l3 s) 40 [some (.ref (zb w + o0)), some (.int l1), some (.int l2), some (.int l3), none] [] s := by
  unfold bd_X2_apart_40
  refine zj_iload_n dX2_apart_40 rfl ?_
  refine zj_iload_n dX2_apart_41 rfl ?_
  refine zj_icmp_ge (tgt := 129) dX2_apart_42 (by decide) ?_ ?_
  · refine zj_aload_n dX2_apart_45 rfl ?_
    refine zj_getT dX2_apart_46 fl_X2_19 rfl h_o0 ?_
    refine zj_iload_n dX2_apart_49 rfl ?_
    refine zj_lald dX2_apart_50 (zt_2_2 _ h_o0) ?_
    refine zj_aload_n dX2_apart_51 rfl ?_
    refine zj_getT dX2_apart_52 fl_X2_19 rfl h_o0 ?_
    refine zj_iload_n dX2_apart_55 rfl ?_
    refine zj_lald dX2_apart_56 (zt_2_2 _ h_o0) ?_
    refine zj_lcmp_eq (tgt := 77) dX2_apart_57 dX2_apart_58 (by decide) ?_ ?_
    · exact j_X2_apart_77 hr h_o0 h_rec40 h_k129
    · refine zj_aload_n dX2_apart_61 rfl ?_
      refine zj_getT dX2_apart_62 fl_X2_22 rfl h_o0 ?_
      refine zj_iload_n dX2_apart_65 rfl ?_
      refine zj_lald dX2_apart_66 (zt_2_3 _ h_o0) ?_
      refine zj_aload_n dX2_apart_67 rfl ?_
      refine zj_getT dX2_apart_68 fl_X2_22 rfl h_o0 ?_
      refine zj_iload_n dX2_apart_71 rfl ?_
      refine zj_lald dX2_apart_72 (zt_2_3 _ h_o0) ?_
      refine zj_lcmp_ne (tgt := 81) dX2_apart_73 dX2_apart_74 (by decide) ?_ ?_
      · exact j_X2_apart_77 hr h_o0 h_rec40 h_k129
      · refine zj_iconst dX2_apart_81 zic_0 ?_
        exact j_X2_apart_82 hr h_o0 h_rec40 h_k129
  · refine zj_weak [true, true, true, false, false] rfl ?_
    exact h_k129 _ _ _
set_option maxRecDepth 100000 in
theorem jl_X2_apart_40 {o0 : Nat} {k129 : Int32 → Int32 → zSt → Option (Int32 × zSt)} {w : zWC} {x : zCX} (hr : zrt x = (some .int))  (h_o0 : zC o0 = 2) (h_k129 : ∀ (l1 : Int32) (l2 : Int32) (s : zSt), zJ (zQf w x zeI) w x RX2 cX2_apart 5 1 (k129 l1 l2 s) 129 [some (.ref (zb w + o0)), some (.int l1), some (.int l2), none, none] [] s) : ∀ (n : Nat) (l1 : Int32) (l2 : Int32) (l3 : Int32) (s : zSt), zJ (zQf w x zeI) w x RX2 cX2_apart 5 1 (lp_X2_apart_40 o0 k129 n l1 l2 l3 s) 40 [some (.ref (zb w + o0)), some (.int l1), some (.int l2), some (.int l3), none] [] s := by
  intro n
  induction n with
  | zero => intro l1 l2 l3 s; exact zj_none
  | succ n ih => intro l1 l2 l3 s; exact jb_X2_apart_40 hr h_o0 (fun l1 l2 l3 s => ih l1 l2 l3 s) h_k129
def bd_X2_apart_30 (o0 : Nat) (rec30 : Int32 → Int32 → zSt → Option (Int32 × zSt)) (l1 : Int32) (l2 : Int32) (s : zSt) : Option (Int32 × zSt) :=
  (if l2 < zI s o0 0 then
  lp_X2_apart_40 o0 (fun l1_4 l2_4 s_4 => rec30 l1_4 (l2_4 + 1) s_4) zFuel l1 l2 0 s
  else
  some (l1, s))
def lp_X2_apart_30 (o0 : Nat) : Nat → Int32 → Int32 → zSt → Option (Int32 × zSt)
  | 0, _, _, _ => none
  | n + 1, l1, l2, s => bd_X2_apart_30 o0 (fun l1 l2 s => lp_X2_apart_30 o0 n l1 l2 s) l1 l2 s
set_option maxRecDepth 100000 in
theorem jb_X2_apart_30 {o0 : Nat} {rec30 : Int32 → Int32 → zSt → Option (Int32 × zSt)} {l1 : Int32} {l2 : Int32} {s : zSt} {w : zWC} {x : zCX} (hr : zrt x = (some .int))  (h_o0 : zC o0 = 2) (h_rec30 : ∀ (l1 : Int32) (l2 : Int32) (s : zSt), zJ (zQf w x zeI) w x RX2 cX2_apart 5 1 (rec30 l1 l2 s) 30 [some (.ref (zb w + o0)), some (.int l1), some (.int l2), none, none] [] s) : zJ (zQf w x zeI) w x RX2 cX2_apart 5 1 (bd_X2_apart_30 o0 rec30 l1 l2 s) 30 [some (.ref (zb w + o0)), some (.int l1), some (.int l2), none, none] [] s := by
  unfold bd_X2_apart_30
  refine zj_iload_n dX2_apart_30 rfl ?_
  refine zj_aload_n dX2_apart_31 rfl ?_
  refine zj_getI dX2_apart_32 fl_X2_9 rfl h_o0 ?_
  refine zj_icmp_ge (tgt := 135) dX2_apart_35 (by decide) ?_ ?_
  · refine zj_iconst dX2_apart_38 zic_0 ?_
    refine zj_istore_n (lv' := [some (.ref (zb w + o0)), some (.int l1), some (.int l2), some (.int 0), none]) dX2_apart_39 rfl (by decide) rfl rfl ?_
    refine jl_X2_apart_40 hr h_o0 (fun l1_4 l2_4 s_4 => ?_) zFuel _ _ _ _
    refine zj_iinc (v2 := l2_4 + 1) (lv' := [some (.ref (zb w + o0)), some (.int l1_4), some (.int (l2_4 + 1)), none, none]) dX2_apart_129 rfl (by rw [zic_1]) (by decide) rfl rfl ?_
    refine zj_goto (tgt := 30) dX2_apart_132 (by decide) ?_
    exact h_rec30 _ _ _
  · refine zj_iload_n dX2_apart_135 rfl ?_
    exact zj_iret hr dX2_apart_136
set_option maxRecDepth 100000 in
theorem jl_X2_apart_30 {o0 : Nat} {w : zWC} {x : zCX} (hr : zrt x = (some .int))  (h_o0 : zC o0 = 2) : ∀ (n : Nat) (l1 : Int32) (l2 : Int32) (s : zSt), zJ (zQf w x zeI) w x RX2 cX2_apart 5 1 (lp_X2_apart_30 o0 n l1 l2 s) 30 [some (.ref (zb w + o0)), some (.int l1), some (.int l2), none, none] [] s := by
  intro n
  induction n with
  | zero => intro l1 l2 s; exact zj_none
  | succ n ih => intro l1 l2 s; exact jb_X2_apart_30 hr h_o0 (fun l1 l2 s => ih l1 l2 s)
def m_X2_apart (o0 : Nat) (s : zSt) : Option (Int32 × zSt) :=
  lp_X2_apart_7 o0 (fun l1_2 s_2 => lp_X2_apart_30 o0 zFuel l1_2 0 s_2) zFuel (zI s o0 0) 0 s
set_option maxRecDepth 100000 in
theorem c_X2_apart {w : zWC} {o0 : Nat} {s : zSt} (h_o0 : zC o0 = 2) {a : Int32 × zSt} (hm : m_X2_apart o0 s = some a) : zCn w 1 yX2_apart cX2_apart 5 (some .int) [.ref (zb w + o0)] s (zeI a).1 (zeI a).2 :=
  zCn_of (own := RX2) (lv := [some (.ref (zb w + o0)), none, none, none, none]) (by decide +kernel) rfl (Nat.le_of_ble_eq_true rfl) rfl (fun x hr => by
    unfold m_X2_apart
    refine zj_aload_n dX2_apart_0 rfl ?_
    refine zj_getI dX2_apart_1 fl_X2_9 rfl h_o0 ?_
    refine zj_istore_n (lv' := [some (.ref (zb w + o0)), some (.int (zI s o0 0)), none, none, none]) dX2_apart_4 rfl (by decide) rfl rfl ?_
    refine zj_iconst dX2_apart_5 zic_0 ?_
    refine zj_istore_n (lv' := [some (.ref (zb w + o0)), some (.int (zI s o0 0)), some (.int 0), none, none]) dX2_apart_6 rfl (by decide) rfl rfl ?_
    refine jl_X2_apart_7 hr h_o0 (fun l1_2 s_2 => ?_) zFuel _ _ _
    refine zj_iconst dX2_apart_28 zic_0 ?_
    refine zj_istore_n (lv' := [some (.ref (zb w + o0)), some (.int l1_2), some (.int 0), none, none]) dX2_apart_29 rfl (by decide) rfl rfl ?_
    exact jl_X2_apart_30 hr h_o0 zFuel _ _ _) hm
def m_X3_open (o0 : Nat) (p1 : Int32) (s : zSt) : Option (zSt) :=
  (if p1 = 0 ∨ p1 = 1 then zlt (zsI s o0 2 p1) (fun s1 => zlt (zsI s1 o0 3 0) (fun s3 => zlt (zsI s3 o0 10 0) (fun s4 => zlt (zsI s4 o0 11 (-1)) (fun s5 => zcv (m_X3_advance o0 s5) (fun s6 => some s6))))) else none)
set_option maxRecDepth 100000 in
theorem c_X3_open {w : zWC} {o0 : Nat} {p1 : Int32} {s : zSt} (h_o0 : zC o0 = 3) {a : zSt} (hm : m_X3_open o0 p1 s = some a) : zCn w 2 yX3_open cX3_open 2 none [.ref (zb w + o0), .int p1] s (zeV a).1 (zeV a).2 :=
  zCn_of (own := RX3) (lv := [some (.ref (zb w + o0)), some (.int p1)]) (by decide +kernel) rfl (Nat.le_of_ble_eq_true rfl) rfl (fun x hr => by
    unfold m_X3_open
    refine zj_aload_n dX3_open_0 rfl ?_
    refine zj_iload_n dX3_open_1 rfl ?_
    refine zj_split (fun hz2 => ?_) (fun _ => zj_none)
    refine zj_putI dX3_open_2 fl_X3_40 rfl h_o0 pd_3_2 (by rcases hz2 with h | h <;> rw [h] <;> rfl) (by rcases hz2 with h | h <;> rw [h] <;> rfl) (fun s1 => ?_)
    refine zj_aload_n dX3_open_5 rfl ?_
    refine zj_iconst dX3_open_6 zic_0 ?_
    refine zj_putI dX3_open_7 fl_X3_44 rfl h_o0 pd_3_3 rfl rfl (fun s3 => ?_)
    refine zj_aload_n dX3_open_10 rfl ?_
    refine zj_iconst dX3_open_11 zic_0 ?_
    refine zj_putI dX3_open_12 fl_X3_19 rfl h_o0 pd_3_10 rfl rfl (fun s4 => ?_)
    refine zj_aload_n dX3_open_15 rfl ?_
    refine zj_iconst dX3_open_16 zic_m1 ?_
    refine zj_putI dX3_open_17 fl_X3_23 rfl h_o0 pd_3_11 rfl rfl (fun s5 => ?_)
    refine zj_aload_n dX3_open_20 rfl ?_
    refine zj_cVV0 ml_X3_47 (fun a h => c_X3_advance h_o0 h) h_o0 rfl (Nat.le_of_ble_eq_true rfl) (Nat.le_of_ble_eq_true rfl) dX3_open_21 (fun s6 => ?_)
    exact zj_vret hr dX3_open_24) hm
def m_X3_takeSigned_61 (o0 : Nat) (p1 : Int32) (p2 : Int32) (l3 : Int32) (t0 : Int32) (s : zSt) : Option (Int32 × zSt) :=
  zcl (m_X8_within t0 p1 p2 s) (fun r2 s1 => (if r2 = 0 then
  zcl (m_X3_refuseAt o0 4 l3 s1) (fun r4 s3 => (if r4 = 0 ∨ r4 = 1 then some (r4, s3) else none))
  else
  zlt (zsI s1 o0 8 t0) (fun s5 => zcv (m_X3_advance o0 s5) (fun s6 => some (1, s6)))))
set_option maxRecDepth 100000 in
theorem j_X3_takeSigned_61 {o0 : Nat} {p1 : Int32} {p2 : Int32} {l3 : Int32} {t0 : Int32} {s : zSt} {w : zWC} {x : zCX} (hr : zrt x = (some .boolean))  (h_o0 : zC o0 = 3) : zJ (zQf w x zeI) w x RX3 cX3_takeSigned 6 2 (m_X3_takeSigned_61 o0 p1 p2 l3 t0 s) 61 [some (.ref (zb w + o0)), some (.int p1), some (.int p2), some (.int l3), none, none] [.int t0] s := by
  unfold m_X3_takeSigned_61
  refine zj_istore (lv' := [some (.ref (zb w + o0)), some (.int p1), some (.int p2), some (.int l3), none, some (.int t0)]) dX3_takeSigned_61 (by decide) rfl rfl ?_
  refine zj_iload dX3_takeSigned_63 rfl ?_
  refine zj_iload_n dX3_takeSigned_65 rfl ?_
  refine zj_iload_n dX3_takeSigned_66 rfl ?_
  refine zj_cNI3 ml_X3_95 (fun a h => c_X8_within  h) (Nat.le_of_ble_eq_true rfl) (Nat.le_of_ble_eq_true rfl) dX3_takeSigned_67 (fun r2 s1 => ?_)
  refine zj_if_ne (tgt := 80) dX3_takeSigned_70 (by decide) ?_ ?_
  · refine zj_aload_n dX3_takeSigned_73 rfl ?_
    refine zj_iconst dX3_takeSigned_74 zic_4 ?_
    refine zj_iload_n dX3_takeSigned_75 rfl ?_
    refine zj_cVI2 ml_X3_81 (fun a h => c_X3_refuseAt h_o0 h) h_o0 rfl (Nat.le_of_ble_eq_true rfl) (Nat.le_of_ble_eq_true rfl) dX3_takeSigned_76 (fun r4 s3 => ?_)
    exact zj_zretG hr dX3_takeSigned_79
  · refine zj_aload_n dX3_takeSigned_80 rfl ?_
    refine zj_iload dX3_takeSigned_81 rfl ?_
    refine zj_putI dX3_takeSigned_83 fl_X3_99 rfl h_o0 pd_3_8 rfl rfl (fun s5 => ?_)
    refine zj_aload_n dX3_takeSigned_86 rfl ?_
    refine zj_cVV0 ml_X3_47 (fun a h => c_X3_advance h_o0 h) h_o0 rfl (Nat.le_of_ble_eq_true rfl) (Nat.le_of_ble_eq_true rfl) dX3_takeSigned_87 (fun s6 => ?_)
    refine zj_iconst dX3_takeSigned_90 zic_1 ?_
    exact zj_zret hr rfl dX3_takeSigned_91
def m_X3_takeSigned_30 (o0 : Nat) (p1 : Int32) (p2 : Int32) (l3 : Int32) (l4 : Int32) (s : zSt) : Option (Int32 × zSt) :=
  (if zI s o0 4 = 3 then
  (if l4 = 0 then
    m_X3_takeSigned_61 o0 p1 p2 l3 (zI s o0 6) s
    else
    m_X3_takeSigned_61 o0 p1 p2 l3 (-(zI s o0 6)) s)
  else
  zcl (m_X3_refuse o0 2 s) (fun r8 s7 => (if r8 = 0 ∨ r8 = 1 then some (r8, s7) else none)))
set_option maxRecDepth 100000 in
theorem j_X3_takeSigned_30 {o0 : Nat} {p1 : Int32} {p2 : Int32} {l3 : Int32} {l4 : Int32} {s : zSt} {w : zWC} {x : zCX} (hr : zrt x = (some .boolean))  (h_o0 : zC o0 = 3) : zJ (zQf w x zeI) w x RX3 cX3_takeSigned 6 2 (m_X3_takeSigned_30 o0 p1 p2 l3 l4 s) 30 [some (.ref (zb w + o0)), some (.int p1), some (.int p2), some (.int l3), some (.int l4), none] [] s := by
  unfold m_X3_takeSigned_30
  refine zj_aload_n dX3_takeSigned_30 rfl ?_
  refine zj_getI dX3_takeSigned_31 fl_X3_61 rfl h_o0 ?_
  refine zj_iconst dX3_takeSigned_34 zic_3 ?_
  refine zj_icmp_eq (tgt := 44) dX3_takeSigned_35 (by decide) ?_ ?_
  · refine zj_iload dX3_takeSigned_44 rfl ?_
    refine zj_if_eq (tgt := 57) dX3_takeSigned_46 (by decide) ?_ ?_
    · refine zj_aload_n dX3_takeSigned_57 rfl ?_
      refine zj_getI dX3_takeSigned_58 fl_X3_78 rfl h_o0 ?_
      refine zj_weak [true, true, true, true, false, false] rfl ?_
      exact j_X3_takeSigned_61 hr h_o0
    · refine zj_aload_n dX3_takeSigned_49 rfl ?_
      refine zj_getI dX3_takeSigned_50 fl_X3_78 rfl h_o0 ?_
      refine zj_ineg dX3_takeSigned_53 ?_
      refine zj_goto (tgt := 61) dX3_takeSigned_54 (by decide) ?_
      refine zj_weak [true, true, true, true, false, false] rfl ?_
      exact j_X3_takeSigned_61 hr h_o0
  · refine zj_aload_n dX3_takeSigned_38 rfl ?_
    refine zj_iconst dX3_takeSigned_39 zic_2 ?_
    refine zj_cVI1 ml_X3_85 (fun a h => c_X3_refuse h_o0 h) h_o0 rfl (Nat.le_of_ble_eq_true rfl) (Nat.le_of_ble_eq_true rfl) dX3_takeSigned_40 (fun r8 s7 => ?_)
    exact zj_zretG hr dX3_takeSigned_43
def m_X3_takeSigned_19 (o0 : Nat) (p1 : Int32) (p2 : Int32) (l3 : Int32) (t0 : Int32) (s : zSt) : Option (Int32 × zSt) :=
  (if t0 = 0 then
  m_X3_takeSigned_30 o0 p1 p2 l3 t0 s
  else
  zcv (m_X3_advance o0 s) (fun s9 => m_X3_takeSigned_30 o0 p1 p2 l3 t0 s9))
set_option maxRecDepth 100000 in
theorem j_X3_takeSigned_19 {o0 : Nat} {p1 : Int32} {p2 : Int32} {l3 : Int32} {t0 : Int32} {s : zSt} {w : zWC} {x : zCX} (hr : zrt x = (some .boolean))  (h_o0 : zC o0 = 3) : zJ (zQf w x zeI) w x RX3 cX3_takeSigned 6 2 (m_X3_takeSigned_19 o0 p1 p2 l3 t0 s) 19 [some (.ref (zb w + o0)), some (.int p1), some (.int p2), some (.int l3), none, none] [.int t0] s := by
  unfold m_X3_takeSigned_19
  refine zj_istore (lv' := [some (.ref (zb w + o0)), some (.int p1), some (.int p2), some (.int l3), some (.int t0), none]) dX3_takeSigned_19 (by decide) rfl rfl ?_
  refine zj_iload dX3_takeSigned_21 rfl ?_
  refine zj_if_eq (tgt := 30) dX3_takeSigned_23 (by decide) ?_ ?_
  · exact j_X3_takeSigned_30 hr h_o0
  · refine zj_aload_n dX3_takeSigned_26 rfl ?_
    refine zj_cVV0 ml_X3_47 (fun a h => c_X3_advance h_o0 h) h_o0 rfl (Nat.le_of_ble_eq_true rfl) (Nat.le_of_ble_eq_true rfl) dX3_takeSigned_27 (fun s9 => ?_)
    exact j_X3_takeSigned_30 hr h_o0
def m_X3_takeSigned (o0 : Nat) (p1 : Int32) (p2 : Int32) (s : zSt) : Option (Int32 × zSt) :=
  (if zI s o0 4 = 45 then
  m_X3_takeSigned_19 o0 p1 p2 (zI s o0 5) 1 s
  else
  m_X3_takeSigned_19 o0 p1 p2 (zI s o0 5) 0 s)
set_option maxRecDepth 100000 in
theorem c_X3_takeSigned {w : zWC} {o0 : Nat} {p1 : Int32} {p2 : Int32} {s : zSt} (h_o0 : zC o0 = 3) {a : Int32 × zSt} (hm : m_X3_takeSigned o0 p1 p2 s = some a) : zCn w 2 yX3_takeSigned cX3_takeSigned 6 (some .boolean) [.ref (zb w + o0), .int p1, .int p2] s (zeI a).1 (zeI a).2 :=
  zCn_of (own := RX3) (lv := [some (.ref (zb w + o0)), some (.int p1), some (.int p2), none, none, none]) (by decide +kernel) rfl (Nat.le_of_ble_eq_true rfl) rfl (fun x hr => by
    unfold m_X3_takeSigned
    refine zj_aload_n dX3_takeSigned_0 rfl ?_
    refine zj_getI dX3_takeSigned_1 fl_X3_58 rfl h_o0 ?_
    refine zj_istore_n (lv' := [some (.ref (zb w + o0)), some (.int p1), some (.int p2), some (.int (zI s o0 5)), none, none]) dX3_takeSigned_4 rfl (by decide) rfl rfl ?_
    refine zj_aload_n dX3_takeSigned_5 rfl ?_
    refine zj_getI dX3_takeSigned_6 fl_X3_61 rfl h_o0 ?_
    refine zj_bipush dX3_takeSigned_9 zbi_45 ?_
    refine zj_icmp_ne (tgt := 18) dX3_takeSigned_11 (by decide) ?_ ?_
    · refine zj_iconst dX3_takeSigned_14 zic_1 ?_
      refine zj_goto (tgt := 19) dX3_takeSigned_15 (by decide) ?_
      exact j_X3_takeSigned_19 hr h_o0
    · refine zj_iconst dX3_takeSigned_18 zic_0 ?_
      exact j_X3_takeSigned_19 hr h_o0) hm
def m_X4_tell (o0 : Nat) (p1 : Int32) (p2 : Int32) (p3 : Int32) (s : zSt) : Option (Int32 × zSt) :=
  zcl (m_X8_within p1 0 199 s) (fun r2 s1 => (if r2 = 0 then
  some ((-1), s1)
  else
  zcl (m_X8_within p2 (-1) 1 s1) (fun r4 s3 => (if r4 = 0 then
    some ((-1), s3)
    else
    zcl (m_X8_within p3 (-999) 999 s3) (fun r6 s5 => (if r6 = 0 then
      some ((-1), s5)
      else
      (if zI s5 o0 0 < 40 then
        (if zI s5 o0 0 < 0 ∨ zN (zT o0 2) ≤ Int32.toNatClampNeg (zI s5 o0 0) then none else zlt (zsI s5 (zT o0 2) (Int32.toNatClampNeg (zI s5 o0 0)) p1) (fun s7 => (if zI s7 o0 0 < 0 ∨ zN (zT o0 3) ≤ Int32.toNatClampNeg (zI s7 o0 0) then none else zlt (zsI s7 (zT o0 3) (Int32.toNatClampNeg (zI s7 o0 0)) p2) (fun s8 => (if zI s8 o0 0 < 0 ∨ zN (zT o0 4) ≤ Int32.toNatClampNeg (zI s8 o0 0) then none else zlt (zsI s8 (zT o0 4) (Int32.toNatClampNeg (zI s8 o0 0)) p3) (fun s9 => (if zI s9 o0 0 < 0 ∨ zN (zT o0 5) ≤ Int32.toNatClampNeg (zI s9 o0 0) then none else zlt (zsI s9 (zT o0 5) (Int32.toNatClampNeg (zI s9 o0 0)) (zI s9 o0 1)) (fun s10 => (if zI s10 o0 0 < 0 ∨ zN (zT o0 6) ≤ Int32.toNatClampNeg (zI s10 o0 0) then none else zlt (zsI s10 (zT o0 6) (Int32.toNatClampNeg (zI s10 o0 0)) (-1)) (fun s11 => zlt (zsI s11 o0 0 ((zI s11 o0 0) + 1)) (fun s12 => some ((zI s12 o0 0) - 1, s12))))))))))))
        else
        some ((-1), s5))))))))
set_option maxRecDepth 100000 in
theorem c_X4_tell {w : zWC} {o0 : Nat} {p1 : Int32} {p2 : Int32} {p3 : Int32} {s : zSt} (h_o0 : zC o0 = 4) {a : Int32 × zSt} (hm : m_X4_tell o0 p1 p2 p3 s = some a) : zCn w 1 yX4_tell cX4_tell 4 (some .int) [.ref (zb w + o0), .int p1, .int p2, .int p3] s (zeI a).1 (zeI a).2 :=
  zCn_of (own := RX4) (lv := [some (.ref (zb w + o0)), some (.int p1), some (.int p2), some (.int p3)]) (by decide +kernel) rfl (Nat.le_of_ble_eq_true rfl) rfl (fun x hr => by
    unfold m_X4_tell
    refine zj_iload_n dX4_tell_0 rfl ?_
    refine zj_iconst dX4_tell_1 zic_0 ?_
    refine zj_sipush dX4_tell_2 zsi_199 ?_
    refine zj_cNI3 ml_X4_34 (fun a h => c_X8_within  h) (Nat.le_of_ble_eq_true rfl) (Nat.le_of_ble_eq_true rfl) dX4_tell_5 (fun r2 s1 => ?_)
    refine zj_if_eq (tgt := 42) dX4_tell_8 (by decide) ?_ ?_
    · refine zj_iconst dX4_tell_42 zic_m1 ?_
      exact zj_iret hr dX4_tell_43
    · refine zj_iload_n dX4_tell_11 rfl ?_
      refine zj_iconst dX4_tell_12 zic_m1 ?_
      refine zj_iconst dX4_tell_13 zic_1 ?_
      refine zj_cNI3 ml_X4_34 (fun a h => c_X8_within  h) (Nat.le_of_ble_eq_true rfl) (Nat.le_of_ble_eq_true rfl) dX4_tell_14 (fun r4 s3 => ?_)
      refine zj_if_eq (tgt := 42) dX4_tell_17 (by decide) ?_ ?_
      · refine zj_iconst dX4_tell_42 zic_m1 ?_
        exact zj_iret hr dX4_tell_43
      · refine zj_iload_n dX4_tell_20 rfl ?_
        refine zj_sipush dX4_tell_21 zsi_m999 ?_
        refine zj_sipush dX4_tell_24 zsi_999 ?_
        refine zj_cNI3 ml_X4_34 (fun a h => c_X8_within  h) (Nat.le_of_ble_eq_true rfl) (Nat.le_of_ble_eq_true rfl) dX4_tell_27 (fun r6 s5 => ?_)
        refine zj_if_eq (tgt := 42) dX4_tell_30 (by decide) ?_ ?_
        · refine zj_iconst dX4_tell_42 zic_m1 ?_
          exact zj_iret hr dX4_tell_43
        · refine zj_aload_n dX4_tell_33 rfl ?_
          refine zj_getI dX4_tell_34 fl_X4_9 rfl h_o0 ?_
          refine zj_bipush dX4_tell_37 zbi_40 ?_
          refine zj_icmp_lt (tgt := 44) dX4_tell_39 (by decide) ?_ ?_
          · refine zj_aload_n dX4_tell_44 rfl ?_
            refine zj_getT dX4_tell_45 fl_X4_18 rfl h_o0 ?_
            refine zj_aload_n dX4_tell_48 rfl ?_
            refine zj_getI dX4_tell_49 fl_X4_9 rfl h_o0 ?_
            refine zj_iload_n dX4_tell_52 rfl ?_
            refine zj_iast dX4_tell_53 (zt_4_2 _ h_o0) (fun s7 => ?_)
            refine zj_aload_n dX4_tell_54 rfl ?_
            refine zj_getT dX4_tell_55 fl_X4_22 rfl h_o0 ?_
            refine zj_aload_n dX4_tell_58 rfl ?_
            refine zj_getI dX4_tell_59 fl_X4_9 rfl h_o0 ?_
            refine zj_iload_n dX4_tell_62 rfl ?_
            refine zj_iast dX4_tell_63 (zt_4_3 _ h_o0) (fun s8 => ?_)
            refine zj_aload_n dX4_tell_64 rfl ?_
            refine zj_getT dX4_tell_65 fl_X4_25 rfl h_o0 ?_
            refine zj_aload_n dX4_tell_68 rfl ?_
            refine zj_getI dX4_tell_69 fl_X4_9 rfl h_o0 ?_
            refine zj_iload_n dX4_tell_72 rfl ?_
            refine zj_iast dX4_tell_73 (zt_4_4 _ h_o0) (fun s9 => ?_)
            refine zj_aload_n dX4_tell_74 rfl ?_
            refine zj_getT dX4_tell_75 fl_X4_28 rfl h_o0 ?_
            refine zj_aload_n dX4_tell_78 rfl ?_
            refine zj_getI dX4_tell_79 fl_X4_9 rfl h_o0 ?_
            refine zj_aload_n dX4_tell_82 rfl ?_
            refine zj_getI dX4_tell_83 fl_X4_15 rfl h_o0 ?_
            refine zj_iast dX4_tell_86 (zt_4_5 _ h_o0) (fun s10 => ?_)
            refine zj_aload_n dX4_tell_87 rfl ?_
            refine zj_getT dX4_tell_88 fl_X4_31 rfl h_o0 ?_
            refine zj_aload_n dX4_tell_91 rfl ?_
            refine zj_getI dX4_tell_92 fl_X4_9 rfl h_o0 ?_
            refine zj_iconst dX4_tell_95 zic_m1 ?_
            refine zj_iast dX4_tell_96 (zt_4_6 _ h_o0) (fun s11 => ?_)
            refine zj_aload_n dX4_tell_97 rfl ?_
            refine zj_dup dX4_tell_98 rfl ?_
            refine zj_getI dX4_tell_99 fl_X4_9 rfl h_o0 ?_
            refine zj_iconst dX4_tell_102 zic_1 ?_
            refine zj_iadd dX4_tell_103 ?_
            refine zj_putI dX4_tell_104 fl_X4_9 rfl h_o0 pd_4_0 rfl rfl (fun s12 => ?_)
            refine zj_aload_n dX4_tell_107 rfl ?_
            refine zj_getI dX4_tell_108 fl_X4_9 rfl h_o0 ?_
            refine zj_iconst dX4_tell_111 zic_1 ?_
            refine zj_isub dX4_tell_112 ?_
            exact zj_iret hr dX4_tell_113
          · refine zj_iconst dX4_tell_42 zic_m1 ?_
            exact zj_iret hr dX4_tell_43) hm
def m_X4_takeBack (o0 : Nat) (p1 : Int32) (s : zSt) : Option (Int32 × zSt) :=
  zcl (m_X8_within p1 0 ((zI s o0 0) - 1) s) (fun r2 s1 => (if r2 = 0 then
  some (0, s1)
  else
  (if p1 < 0 ∨ zN (zT o0 6) ≤ Int32.toNatClampNeg p1 then none else (if zI s1 (zT o0 6) (Int32.toNatClampNeg p1) = (-1) then
    (if p1 < 0 ∨ zN (zT o0 6) ≤ Int32.toNatClampNeg p1 then none else zlt (zsI s1 (zT o0 6) (Int32.toNatClampNeg p1) (zI s1 o0 1)) (fun s3 => some (1, s3)))
    else
    some (0, s1)))))
set_option maxRecDepth 100000 in
theorem c_X4_takeBack {w : zWC} {o0 : Nat} {p1 : Int32} {s : zSt} (h_o0 : zC o0 = 4) {a : Int32 × zSt} (hm : m_X4_takeBack o0 p1 s = some a) : zCn w 1 yX4_takeBack cX4_takeBack 2 (some .boolean) [.ref (zb w + o0), .int p1] s (zeI a).1 (zeI a).2 :=
  zCn_of (own := RX4) (lv := [some (.ref (zb w + o0)), some (.int p1)]) (by decide +kernel) rfl (Nat.le_of_ble_eq_true rfl) rfl (fun x hr => by
    unfold m_X4_takeBack
    refine zj_iload_n dX4_takeBack_0 rfl ?_
    refine zj_iconst dX4_takeBack_1 zic_0 ?_
    refine zj_aload_n dX4_takeBack_2 rfl ?_
    refine zj_getI dX4_takeBack_3 fl_X4_9 rfl h_o0 ?_
    refine zj_iconst dX4_takeBack_6 zic_1 ?_
    refine zj_isub dX4_takeBack_7 ?_
    refine zj_cNI3 ml_X4_34 (fun a h => c_X8_within  h) (Nat.le_of_ble_eq_true rfl) (Nat.le_of_ble_eq_true rfl) dX4_takeBack_8 (fun r2 s1 => ?_)
    refine zj_if_eq (tgt := 24) dX4_takeBack_11 (by decide) ?_ ?_
    · refine zj_iconst dX4_takeBack_24 zic_0 ?_
      exact zj_zret hr rfl dX4_takeBack_25
    · refine zj_aload_n dX4_takeBack_14 rfl ?_
      refine zj_getT dX4_takeBack_15 fl_X4_31 rfl h_o0 ?_
      refine zj_iload_n dX4_takeBack_18 rfl ?_
      refine zj_iald dX4_takeBack_19 (zt_4_6 _ h_o0) ?_
      refine zj_iconst dX4_takeBack_20 zic_m1 ?_
      refine zj_icmp_eq (tgt := 26) dX4_takeBack_21 (by decide) ?_ ?_
      · refine zj_aload_n dX4_takeBack_26 rfl ?_
        refine zj_getT dX4_takeBack_27 fl_X4_31 rfl h_o0 ?_
        refine zj_iload_n dX4_takeBack_30 rfl ?_
        refine zj_aload_n dX4_takeBack_31 rfl ?_
        refine zj_getI dX4_takeBack_32 fl_X4_15 rfl h_o0 ?_
        refine zj_iast dX4_takeBack_35 (zt_4_6 _ h_o0) (fun s3 => ?_)
        refine zj_iconst dX4_takeBack_36 zic_1 ?_
        exact zj_zret hr rfl dX4_takeBack_37
      · refine zj_iconst dX4_takeBack_24 zic_0 ?_
        exact zj_zret hr rfl dX4_takeBack_25) hm
def m_X4_goOn (o0 : Nat) (p1 : Int32) (s : zSt) : Option (Int32 × zSt) :=
  zcl (m_X8_within p1 0 1000 s) (fun r2 s1 => (if r2 = 0 then
  some ((-1), s1)
  else
  (if 100000 < (zI s1 o0 1) + p1 then
    some ((-1), s1)
    else
    zlt (zsI s1 o0 1 ((zI s1 o0 1) + p1)) (fun s3 => some (zI s3 o0 1, s3)))))
set_option maxRecDepth 100000 in
theorem c_X4_goOn {w : zWC} {o0 : Nat} {p1 : Int32} {s : zSt} (h_o0 : zC o0 = 4) {a : Int32 × zSt} (hm : m_X4_goOn o0 p1 s = some a) : zCn w 1 yX4_goOn cX4_goOn 2 (some .int) [.ref (zb w + o0), .int p1] s (zeI a).1 (zeI a).2 :=
  zCn_of (own := RX4) (lv := [some (.ref (zb w + o0)), some (.int p1)]) (by decide +kernel) rfl (Nat.le_of_ble_eq_true rfl) rfl (fun x hr => by
    unfold m_X4_goOn
    refine zj_iload_n dX4_goOn_0 rfl ?_
    refine zj_iconst dX4_goOn_1 zic_0 ?_
    refine zj_sipush dX4_goOn_2 zsi_1000 ?_
    refine zj_cNI3 ml_X4_34 (fun a h => c_X8_within  h) (Nat.le_of_ble_eq_true rfl) (Nat.le_of_ble_eq_true rfl) dX4_goOn_5 (fun r2 s1 => ?_)
    refine zj_if_eq (tgt := 22) dX4_goOn_8 (by decide) ?_ ?_
    · refine zj_iconst dX4_goOn_22 zic_m1 ?_
      exact zj_iret hr dX4_goOn_23
    · refine zj_aload_n dX4_goOn_11 rfl ?_
      refine zj_getI dX4_goOn_12 fl_X4_15 rfl h_o0 ?_
      refine zj_iload_n dX4_goOn_15 rfl ?_
      refine zj_iadd dX4_goOn_16 ?_
      refine zj_ldc dX4_goOn_17 kc_X4_38 ?_
      refine zj_icmp_le (tgt := 24) dX4_goOn_19 (by decide) ?_ ?_
      · refine zj_iconst dX4_goOn_22 zic_m1 ?_
        exact zj_iret hr dX4_goOn_23
      · refine zj_aload_n dX4_goOn_24 rfl ?_
        refine zj_dup dX4_goOn_25 rfl ?_
        refine zj_getI dX4_goOn_26 fl_X4_15 rfl h_o0 ?_
        refine zj_iload_n dX4_goOn_29 rfl ?_
        refine zj_iadd dX4_goOn_30 ?_
        refine zj_putI dX4_goOn_31 fl_X4_15 rfl h_o0 pd_4_1 rfl rfl (fun s3 => ?_)
        refine zj_aload_n dX4_goOn_34 rfl ?_
        refine zj_getI dX4_goOn_35 fl_X4_15 rfl h_o0 ?_
        exact zj_iret hr dX4_goOn_38) hm
def m_X5_readNearAndFar (o0 : Nat) (o1 : Nat) (s : zSt) : Option (Int32 × zSt) :=
  zcl (m_X3_take o1 257 s) (fun r2 s1 => (if r2 = 0 then
  some (0, s1)
  else
  (if (1 : Int32) < 0 ∨ 11 ≤ Int32.toNatClampNeg 1 then none else (if (1 : Int32) < 0 ∨ 11 ≤ Int32.toNatClampNeg 1 then none else zcl (m_X3_takeNumber o1 (ztabL (Int32.toNatClampNeg 1)) (ztabM (Int32.toNatClampNeg 1)) s1) (fun r4 s3 => (if r4 = 0 then
    some (0, s3)
    else
    (if (1 : Int32) < 0 ∨ zN (zT o0 2) ≤ Int32.toNatClampNeg 1 then none else zlt (zsI s3 (zT o0 2) (Int32.toNatClampNeg 1) (zI s3 o1 8)) (fun s5 => zcl (m_X3_take o1 258 s5) (fun r7 s6 => (if r7 = 0 then
      some (0, s6)
      else
      (if (1 : Int32) < 0 ∨ zN (zT o0 2) ≤ Int32.toNatClampNeg 1 then none else (if (2 : Int32) < 0 ∨ 11 ≤ Int32.toNatClampNeg 2 then none else zcl (m_X3_takeNumber o1 ((zI s6 (zT o0 2) (Int32.toNatClampNeg 1)) + 1) (ztabM (Int32.toNatClampNeg 2)) s6) (fun r9 s8 => (if r9 = 0 then
        some (0, s8)
        else
        (if (2 : Int32) < 0 ∨ zN (zT o0 2) ≤ Int32.toNatClampNeg 2 then none else zlt (zsI s8 (zT o0 2) (Int32.toNatClampNeg 2) (zI s8 o1 8)) (fun s10 => some (1, s10)))))))))))))))))
set_option maxRecDepth 100000 in
theorem c_X5_readNearAndFar {w : zWC} {o0 : Nat} {o1 : Nat} {s : zSt} (h_o0 : zC o0 = 5) (h_o1 : zC o1 = 3) {a : Int32 × zSt} (hm : m_X5_readNearAndFar o0 o1 s = some a) : zCn w 3 yX5_readNearAndFar cX5_readNearAndFar 4 (some .boolean) [.ref (zb w + o0), .ref (zb w + o1)] s (zeI a).1 (zeI a).2 :=
  zCn_of (own := RX5) (lv := [some (.ref (zb w + o0)), some (.ref (zb w + o1)), none, none]) (by decide +kernel) rfl (Nat.le_of_ble_eq_true rfl) rfl (fun x hr => by
    unfold m_X5_readNearAndFar
    refine zj_iconst dX5_readNearAndFar_0 zic_1 ?_
    refine zj_istore_n (lv' := [some (.ref (zb w + o0)), some (.ref (zb w + o1)), some (.int 1), none]) dX5_readNearAndFar_1 rfl (by decide) rfl rfl ?_
    refine zj_iconst dX5_readNearAndFar_2 zic_2 ?_
    refine zj_istore_n (lv' := [some (.ref (zb w + o0)), some (.ref (zb w + o1)), some (.int 1), some (.int 2)]) dX5_readNearAndFar_3 rfl (by decide) rfl rfl ?_
    refine zj_aload_n dX5_readNearAndFar_4 rfl ?_
    refine zj_sipush dX5_readNearAndFar_5 zsi_257 ?_
    refine zj_cVI1 ml_X5_75 (fun a h => c_X3_take h_o1 h) h_o1 rfl (Nat.le_of_ble_eq_true rfl) (Nat.le_of_ble_eq_true rfl) dX5_readNearAndFar_8 (fun r2 s1 => ?_)
    refine zj_if_eq (tgt := 31) dX5_readNearAndFar_11 (by decide) ?_ ?_
    · refine zj_iconst dX5_readNearAndFar_31 zic_0 ?_
      exact zj_zret hr rfl dX5_readNearAndFar_32
    · refine zj_aload_n dX5_readNearAndFar_14 rfl ?_
      refine zj_getsLEAST dX5_readNearAndFar_15 (by decide +kernel) ?_
      refine zj_iload_n dX5_readNearAndFar_18 rfl ?_
      refine zj_taldLEAST dX5_readNearAndFar_19 ?_
      refine zj_getsMOST dX5_readNearAndFar_20 (by decide +kernel) ?_
      refine zj_iload_n dX5_readNearAndFar_23 rfl ?_
      refine zj_taldMOST dX5_readNearAndFar_24 ?_
      refine zj_cVI2 ml_X5_84 (fun a h => c_X3_takeNumber h_o1 h) h_o1 rfl (Nat.le_of_ble_eq_true rfl) (Nat.le_of_ble_eq_true rfl) dX5_readNearAndFar_25 (fun r4 s3 => ?_)
      refine zj_if_ne (tgt := 33) dX5_readNearAndFar_28 (by decide) ?_ ?_
      · refine zj_iconst dX5_readNearAndFar_31 zic_0 ?_
        exact zj_zret hr rfl dX5_readNearAndFar_32
      · refine zj_aload_n dX5_readNearAndFar_33 rfl ?_
        refine zj_getT dX5_readNearAndFar_34 fl_X5_31 rfl h_o0 ?_
        refine zj_iload_n dX5_readNearAndFar_37 rfl ?_
        refine zj_aload_n dX5_readNearAndFar_38 rfl ?_
        refine zj_getI dX5_readNearAndFar_39 fl_X5_88 rfl h_o1 ?_
        refine zj_iast dX5_readNearAndFar_42 (zt_5_2 _ h_o0) (fun s5 => ?_)
        refine zj_aload_n dX5_readNearAndFar_43 rfl ?_
        refine zj_sipush dX5_readNearAndFar_44 zsi_258 ?_
        refine zj_cVI1 ml_X5_75 (fun a h => c_X3_take h_o1 h) h_o1 rfl (Nat.le_of_ble_eq_true rfl) (Nat.le_of_ble_eq_true rfl) dX5_readNearAndFar_47 (fun r7 s6 => ?_)
        refine zj_if_eq (tgt := 73) dX5_readNearAndFar_50 (by decide) ?_ ?_
        · refine zj_iconst dX5_readNearAndFar_73 zic_0 ?_
          exact zj_zret hr rfl dX5_readNearAndFar_74
        · refine zj_aload_n dX5_readNearAndFar_53 rfl ?_
          refine zj_aload_n dX5_readNearAndFar_54 rfl ?_
          refine zj_getT dX5_readNearAndFar_55 fl_X5_31 rfl h_o0 ?_
          refine zj_iload_n dX5_readNearAndFar_58 rfl ?_
          refine zj_iald dX5_readNearAndFar_59 (zt_5_2 _ h_o0) ?_
          refine zj_iconst dX5_readNearAndFar_60 zic_1 ?_
          refine zj_iadd dX5_readNearAndFar_61 ?_
          refine zj_getsMOST dX5_readNearAndFar_62 (by decide +kernel) ?_
          refine zj_iload_n dX5_readNearAndFar_65 rfl ?_
          refine zj_taldMOST dX5_readNearAndFar_66 ?_
          refine zj_cVI2 ml_X5_84 (fun a h => c_X3_takeNumber h_o1 h) h_o1 rfl (Nat.le_of_ble_eq_true rfl) (Nat.le_of_ble_eq_true rfl) dX5_readNearAndFar_67 (fun r9 s8 => ?_)
          refine zj_if_ne (tgt := 75) dX5_readNearAndFar_70 (by decide) ?_ ?_
          · refine zj_iconst dX5_readNearAndFar_73 zic_0 ?_
            exact zj_zret hr rfl dX5_readNearAndFar_74
          · refine zj_aload_n dX5_readNearAndFar_75 rfl ?_
            refine zj_getT dX5_readNearAndFar_76 fl_X5_31 rfl h_o0 ?_
            refine zj_iload_n dX5_readNearAndFar_79 rfl ?_
            refine zj_aload_n dX5_readNearAndFar_80 rfl ?_
            refine zj_getI dX5_readNearAndFar_81 fl_X5_88 rfl h_o1 ?_
            refine zj_iast dX5_readNearAndFar_84 (zt_5_2 _ h_o0) (fun s10 => ?_)
            refine zj_iconst dX5_readNearAndFar_85 zic_1 ?_
            exact zj_zret hr rfl dX5_readNearAndFar_86) hm
def m_X5_readSetting_28 (o0 : Nat) (o1 : Nat) (p2 : Int32) (s : zSt) : Option (Int32 × zSt) :=
  zcl (m_X3_refuse o1 2 s) (fun r2 s1 => (if r2 = 0 ∨ r2 = 1 then some (r2, s1) else none))
set_option maxRecDepth 100000 in
theorem j_X5_readSetting_28 {o0 : Nat} {o1 : Nat} {p2 : Int32} {s : zSt} {w : zWC} {x : zCX} (hr : zrt x = (some .boolean))  (h_o0 : zC o0 = 5) (h_o1 : zC o1 = 3) : zJ (zQf w x zeI) w x RX5 cX5_readSetting 7 3 (m_X5_readSetting_28 o0 o1 p2 s) 28 [none, some (.ref (zb w + o1)), none, none, none, none, none] [] s := by
  unfold m_X5_readSetting_28
  refine zj_aload_n dX5_readSetting_28 rfl ?_
  refine zj_iconst dX5_readSetting_29 zic_2 ?_
  refine zj_cVI1 ml_X5_71 (fun a h => c_X3_refuse h_o1 h) h_o1 rfl (Nat.le_of_ble_eq_true rfl) (Nat.le_of_ble_eq_true rfl) dX5_readSetting_30 (fun r2 s1 => ?_)
  exact zj_zretG hr dX5_readSetting_33
def m_X5_readSetting_88 (o0 : Nat) (o1 : Nat) (p2 : Int32) (l3 : Int32) (t0 : Int32) (s : zSt) : Option (Int32 × zSt) :=
  (if t0 = 0 then
  (if t0 = 0 ∨ t0 = 1 then some (t0, s) else none)
  else
  (if l3 < 0 ∨ zN (zT o0 2) ≤ Int32.toNatClampNeg l3 then none else zlt (zsI s (zT o0 2) (Int32.toNatClampNeg l3) (zI s o1 8)) (fun s7 => (if t0 = 0 ∨ t0 = 1 then some (t0, s7) else none))))
set_option maxRecDepth 100000 in
theorem j_X5_readSetting_88 {o0 : Nat} {o1 : Nat} {p2 : Int32} {l3 : Int32} {t0 : Int32} {s : zSt} {w : zWC} {x : zCX} (hr : zrt x = (some .boolean))  (h_o0 : zC o0 = 5) (h_o1 : zC o1 = 3) : zJ (zQf w x zeI) w x RX5 cX5_readSetting 7 3 (m_X5_readSetting_88 o0 o1 p2 l3 t0 s) 88 [some (.ref (zb w + o0)), some (.ref (zb w + o1)), none, some (.int l3), none, none, none] [.int t0] s := by
  unfold m_X5_readSetting_88
  refine zj_istore (lv' := [some (.ref (zb w + o0)), some (.ref (zb w + o1)), none, some (.int l3), none, none, some (.int t0)]) dX5_readSetting_88 (by decide) rfl rfl ?_
  refine zj_iload dX5_readSetting_90 rfl ?_
  refine zj_if_eq (tgt := 105) dX5_readSetting_92 (by decide) ?_ ?_
  · refine zj_iload dX5_readSetting_105 rfl ?_
    exact zj_zretG hr dX5_readSetting_107
  · refine zj_aload_n dX5_readSetting_95 rfl ?_
    refine zj_getT dX5_readSetting_96 fl_X5_31 rfl h_o0 ?_
    refine zj_iload_n dX5_readSetting_99 rfl ?_
    refine zj_aload_n dX5_readSetting_100 rfl ?_
    refine zj_getI dX5_readSetting_101 fl_X5_88 rfl h_o1 ?_
    refine zj_iast dX5_readSetting_104 (zt_5_2 _ h_o0) (fun s7 => ?_)
    refine zj_iload dX5_readSetting_105 rfl ?_
    exact zj_zretG hr dX5_readSetting_107
def m_X5_readSetting (o0 : Nat) (o1 : Nat) (p2 : Int32) (s : zSt) : Option (Int32 × zSt) :=
  (if p2 - 256 < 0 then
  m_X5_readSetting_28 o0 o1 p2 s
  else
  (if p2 - 256 < 11 then
    (if ((zI s o0 3) >>> ((p2 - 256) &&& 31)) &&& 1 = 1 then
      m_X5_readSetting_28 o0 o1 p2 s
      else
      zlt (zsI s o0 3 ((zI s o0 3) ||| ((1 : Int32) <<< ((p2 - 256) &&& 31)))) (fun s3 => zcv (m_X3_advance o1 s3) (fun s4 => (if p2 - 256 < 0 ∨ 11 ≤ Int32.toNatClampNeg (p2 - 256) then none else (if p2 - 256 < 0 ∨ 11 ≤ Int32.toNatClampNeg (p2 - 256) then none else (if ztabL (Int32.toNatClampNeg (p2 - 256)) < 0 then
        zcl (m_X3_takeSigned o1 (ztabL (Int32.toNatClampNeg (p2 - 256))) (ztabM (Int32.toNatClampNeg (p2 - 256))) s4) (fun r6 s5 => m_X5_readSetting_88 o0 o1 p2 (p2 - 256) r6 s5)
        else
        zcl (m_X3_takeNumber o1 (ztabL (Int32.toNatClampNeg (p2 - 256))) (ztabM (Int32.toNatClampNeg (p2 - 256))) s4) (fun r9 s8 => m_X5_readSetting_88 o0 o1 p2 (p2 - 256) r9 s8)))))))
    else
    m_X5_readSetting_28 o0 o1 p2 s))
set_option maxRecDepth 100000 in
theorem c_X5_readSetting {w : zWC} {o0 : Nat} {o1 : Nat} {p2 : Int32} {s : zSt} (h_o0 : zC o0 = 5) (h_o1 : zC o1 = 3) {a : Int32 × zSt} (hm : m_X5_readSetting o0 o1 p2 s = some a) : zCn w 3 yX5_readSetting cX5_readSetting 7 (some .boolean) [.ref (zb w + o0), .ref (zb w + o1), .int p2] s (zeI a).1 (zeI a).2 :=
  zCn_of (own := RX5) (lv := [some (.ref (zb w + o0)), some (.ref (zb w + o1)), some (.int p2), none, none, none, none]) (by decide +kernel) rfl (Nat.le_of_ble_eq_true rfl) rfl (fun x hr => by
    unfold m_X5_readSetting
    refine zj_iload_n dX5_readSetting_0 rfl ?_
    refine zj_sipush dX5_readSetting_1 zsi_256 ?_
    refine zj_isub dX5_readSetting_4 ?_
    refine zj_istore_n (lv' := [some (.ref (zb w + o0)), some (.ref (zb w + o1)), some (.int p2), some (.int (p2 - 256)), none, none, none]) dX5_readSetting_5 rfl (by decide) rfl rfl ?_
    refine zj_iload_n dX5_readSetting_6 rfl ?_
    refine zj_if_lt (tgt := 28) dX5_readSetting_7 (by decide) ?_ ?_
    · refine zj_weak [false, true, false, false, false, false, false] rfl ?_
      exact j_X5_readSetting_28 hr h_o0 h_o1
    · refine zj_iload_n dX5_readSetting_10 rfl ?_
      refine zj_bipush dX5_readSetting_11 zbi_11 ?_
      refine zj_icmp_ge (tgt := 28) dX5_readSetting_13 (by decide) ?_ ?_
      · refine zj_aload_n dX5_readSetting_16 rfl ?_
        refine zj_getI dX5_readSetting_17 fl_X5_34 rfl h_o0 ?_
        refine zj_iload_n dX5_readSetting_20 rfl ?_
        refine zj_ishr dX5_readSetting_21 ?_
        refine zj_iconst dX5_readSetting_22 zic_1 ?_
        refine zj_iand dX5_readSetting_23 ?_
        refine zj_iconst dX5_readSetting_24 zic_1 ?_
        refine zj_icmp_ne (tgt := 34) dX5_readSetting_25 (by decide) ?_ ?_
        · refine zj_weak [false, true, false, false, false, false, false] rfl ?_
          exact j_X5_readSetting_28 hr h_o0 h_o1
        · refine zj_aload_n dX5_readSetting_34 rfl ?_
          refine zj_dup dX5_readSetting_35 rfl ?_
          refine zj_getI dX5_readSetting_36 fl_X5_34 rfl h_o0 ?_
          refine zj_iconst dX5_readSetting_39 zic_1 ?_
          refine zj_iload_n dX5_readSetting_40 rfl ?_
          refine zj_ishl dX5_readSetting_41 ?_
          refine zj_ior dX5_readSetting_42 ?_
          refine zj_putI dX5_readSetting_43 fl_X5_34 rfl h_o0 pd_5_3 rfl rfl (fun s3 => ?_)
          refine zj_aload_n dX5_readSetting_46 rfl ?_
          refine zj_cVV0 ml_X5_91 (fun a h => c_X3_advance h_o1 h) h_o1 rfl (Nat.le_of_ble_eq_true rfl) (Nat.le_of_ble_eq_true rfl) dX5_readSetting_47 (fun s4 => ?_)
          refine zj_getsLEAST dX5_readSetting_50 (by decide +kernel) ?_
          refine zj_iload_n dX5_readSetting_53 rfl ?_
          refine zj_taldLEAST dX5_readSetting_54 ?_
          refine zj_istore (lv' := [some (.ref (zb w + o0)), some (.ref (zb w + o1)), some (.int p2), some (.int (p2 - 256)), some (.int (ztabL (Int32.toNatClampNeg (p2 - 256)))), none, none]) dX5_readSetting_55 (by decide) rfl rfl ?_
          refine zj_getsMOST dX5_readSetting_57 (by decide +kernel) ?_
          refine zj_iload_n dX5_readSetting_60 rfl ?_
          refine zj_taldMOST dX5_readSetting_61 ?_
          refine zj_istore (lv' := [some (.ref (zb w + o0)), some (.ref (zb w + o1)), some (.int p2), some (.int (p2 - 256)), some (.int (ztabL (Int32.toNatClampNeg (p2 - 256)))), some (.int (ztabM (Int32.toNatClampNeg (p2 - 256)))), none]) dX5_readSetting_62 (by decide) rfl rfl ?_
          refine zj_iload dX5_readSetting_64 rfl ?_
          refine zj_if_ge (tgt := 80) dX5_readSetting_66 (by decide) ?_ ?_
          · refine zj_aload_n dX5_readSetting_69 rfl ?_
            refine zj_iload dX5_readSetting_70 rfl ?_
            refine zj_iload dX5_readSetting_72 rfl ?_
            refine zj_cVI2 ml_X5_94 (fun a h => c_X3_takeSigned h_o1 h) h_o1 rfl (Nat.le_of_ble_eq_true rfl) (Nat.le_of_ble_eq_true rfl) dX5_readSetting_74 (fun r6 s5 => ?_)
            refine zj_goto (tgt := 88) dX5_readSetting_77 (by decide) ?_
            refine zj_weak [true, true, false, true, false, false, false] rfl ?_
            exact j_X5_readSetting_88 hr h_o0 h_o1
          · refine zj_aload_n dX5_readSetting_80 rfl ?_
            refine zj_iload dX5_readSetting_81 rfl ?_
            refine zj_iload dX5_readSetting_83 rfl ?_
            refine zj_cVI2 ml_X5_84 (fun a h => c_X3_takeNumber h_o1 h) h_o1 rfl (Nat.le_of_ble_eq_true rfl) (Nat.le_of_ble_eq_true rfl) dX5_readSetting_85 (fun r9 s8 => ?_)
            refine zj_weak [true, true, false, true, false, false, false] rfl ?_
            exact j_X5_readSetting_88 hr h_o0 h_o1
      · refine zj_weak [false, true, false, false, false, false, false] rfl ?_
        exact j_X5_readSetting_28 hr h_o0 h_o1) hm
