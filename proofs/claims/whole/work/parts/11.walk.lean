def m_X0_tell_65 (o0 : Nat) (p1 : Int32) (p2 : Int32) (l3 : Int32) (s : zSt) : Option (Int32 × zSt) :=
  zlt (zsI s o0 6 ((zI s o0 6) ||| l3)) (fun s3 => (if p2 = 0 then
  zlt (zsI s3 o0 7 ((zI s3 o0 7) &&& (l3 ^^^ (-1)))) (fun s4 => some (1, s4))
  else
  zlt (zsI s3 o0 7 ((zI s3 o0 7) ||| l3)) (fun s5 => some (1, s5))))
set_option maxRecDepth 100000 in
theorem j_X0_tell_65 {o0 : Nat} {p1 : Int32} {p2 : Int32} {l3 : Int32} {s : zSt} {w : zWC} {x : zCX} (hr : zrt x = (some .boolean))  (h_o0 : zC o0 = 0) : zJ (zQf w x zeI) w x RX0 cX0_tell 6 1 (m_X0_tell_65 o0 p1 p2 l3 s) 65 [some (.ref (zb w + o0)), none, some (.int p2), some (.int l3), none, none] [] s := by
  unfold m_X0_tell_65
  refine zj_aload_n dX0_tell_65 rfl ?_
  refine zj_dup dX0_tell_66 rfl ?_
  refine zj_getI dX0_tell_67 fl_X0_33 rfl h_o0 ?_
  refine zj_iload_n dX0_tell_70 rfl ?_
  refine zj_ior dX0_tell_71 ?_
  refine zj_putI dX0_tell_72 fl_X0_33 rfl h_o0 pd_0_6 rfl rfl (fun s3 => ?_)
  refine zj_aload_n dX0_tell_75 rfl ?_
  refine zj_iload_n dX0_tell_76 rfl ?_
  refine zj_if_eq (tgt := 89) dX0_tell_77 (by decide) ?_ ?_
  · refine zj_aload_n dX0_tell_89 rfl ?_
    refine zj_getI dX0_tell_90 fl_X0_36 rfl h_o0 ?_
    refine zj_iload_n dX0_tell_93 rfl ?_
    refine zj_iconst dX0_tell_94 zic_m1 ?_
    refine zj_ixor dX0_tell_95 ?_
    refine zj_iand dX0_tell_96 ?_
    refine zj_putI dX0_tell_97 fl_X0_36 rfl h_o0 pd_0_7 rfl rfl (fun s4 => ?_)
    refine zj_iconst dX0_tell_100 zic_1 ?_
    exact zj_zret hr rfl dX0_tell_101
  · refine zj_aload_n dX0_tell_80 rfl ?_
    refine zj_getI dX0_tell_81 fl_X0_36 rfl h_o0 ?_
    refine zj_iload_n dX0_tell_84 rfl ?_
    refine zj_ior dX0_tell_85 ?_
    refine zj_goto (tgt := 97) dX0_tell_86 (by decide) ?_
    refine zj_putI dX0_tell_97 fl_X0_36 rfl h_o0 pd_0_7 rfl rfl (fun s5 => ?_)
    refine zj_iconst dX0_tell_100 zic_1 ?_
    exact zj_zret hr rfl dX0_tell_101
def m_X0_tell_50 (o0 : Nat) (p1 : Int32) (p2 : Int32) (l3 : Int32) (l4 : Int32) (t0 : Int32) (s : zSt) : Option (Int32 × zSt) :=
  (if l4 = 0 then
  m_X0_tell_65 o0 p1 p2 l3 s
  else
  (if t0 = p2 then
    some (0, s)
    else
    m_X0_tell_65 o0 p1 p2 l3 s))
set_option maxRecDepth 100000 in
theorem j_X0_tell_50 {o0 : Nat} {p1 : Int32} {p2 : Int32} {l3 : Int32} {l4 : Int32} {t0 : Int32} {s : zSt} {w : zWC} {x : zCX} (hr : zrt x = (some .boolean))  (h_o0 : zC o0 = 0) : zJ (zQf w x zeI) w x RX0 cX0_tell 6 1 (m_X0_tell_50 o0 p1 p2 l3 l4 t0 s) 50 [some (.ref (zb w + o0)), none, some (.int p2), some (.int l3), some (.int l4), none] [.int t0] s := by
  unfold m_X0_tell_50
  refine zj_istore (lv' := [some (.ref (zb w + o0)), none, some (.int p2), some (.int l3), some (.int l4), some (.int t0)]) dX0_tell_50 (by decide) rfl rfl ?_
  refine zj_iload dX0_tell_52 rfl ?_
  refine zj_if_eq (tgt := 65) dX0_tell_54 (by decide) ?_ ?_
  · refine zj_weak [true, false, true, true, false, false] rfl ?_
    exact j_X0_tell_65 hr h_o0
  · refine zj_iload dX0_tell_57 rfl ?_
    refine zj_iload_n dX0_tell_59 rfl ?_
    refine zj_icmp_ne (tgt := 65) dX0_tell_60 (by decide) ?_ ?_
    · refine zj_iconst dX0_tell_63 zic_0 ?_
      exact zj_zret hr rfl dX0_tell_64
    · refine zj_weak [true, false, true, true, false, false] rfl ?_
      exact j_X0_tell_65 hr h_o0
def m_X0_tell_34 (o0 : Nat) (p1 : Int32) (p2 : Int32) (l3 : Int32) (t0 : Int32) (s : zSt) : Option (Int32 × zSt) :=
  (if (zI s o0 7) &&& l3 = 0 then
  m_X0_tell_50 o0 p1 p2 l3 t0 0 s
  else
  m_X0_tell_50 o0 p1 p2 l3 t0 1 s)
set_option maxRecDepth 100000 in
theorem j_X0_tell_34 {o0 : Nat} {p1 : Int32} {p2 : Int32} {l3 : Int32} {t0 : Int32} {s : zSt} {w : zWC} {x : zCX} (hr : zrt x = (some .boolean))  (h_o0 : zC o0 = 0) : zJ (zQf w x zeI) w x RX0 cX0_tell 6 1 (m_X0_tell_34 o0 p1 p2 l3 t0 s) 34 [some (.ref (zb w + o0)), none, some (.int p2), some (.int l3), none, none] [.int t0] s := by
  unfold m_X0_tell_34
  refine zj_istore (lv' := [some (.ref (zb w + o0)), none, some (.int p2), some (.int l3), some (.int t0), none]) dX0_tell_34 (by decide) rfl rfl ?_
  refine zj_aload_n dX0_tell_36 rfl ?_
  refine zj_getI dX0_tell_37 fl_X0_36 rfl h_o0 ?_
  refine zj_iload_n dX0_tell_40 rfl ?_
  refine zj_iand dX0_tell_41 ?_
  refine zj_if_eq (tgt := 49) dX0_tell_42 (by decide) ?_ ?_
  · refine zj_iconst dX0_tell_49 zic_0 ?_
    exact j_X0_tell_50 hr h_o0
  · refine zj_iconst dX0_tell_45 zic_1 ?_
    refine zj_goto (tgt := 50) dX0_tell_46 (by decide) ?_
    exact j_X0_tell_50 hr h_o0
def m_X0_tell (o0 : Nat) (p1 : Int32) (p2 : Int32) (s : zSt) : Option (Int32 × zSt) :=
  zcl (m_X8_within p1 0 ((zI s o0 1) - 1) s) (fun r2 s1 => (if r2 = 0 then
  some (0, s1)
  else
  (if (zI s1 o0 6) &&& ((1 : Int32) <<< (p1 &&& 31)) = 0 then
    m_X0_tell_34 o0 p1 p2 ((1 : Int32) <<< (p1 &&& 31)) 0 s1
    else
    m_X0_tell_34 o0 p1 p2 ((1 : Int32) <<< (p1 &&& 31)) 1 s1)))
set_option maxRecDepth 100000 in
theorem c_X0_tell {w : zWC} {o0 : Nat} {p1 : Int32} {p2 : Int32} {s : zSt} (h_o0 : zC o0 = 0) {a : Int32 × zSt} (hm : m_X0_tell o0 p1 p2 s = some a) : zCn w 1 yX0_tell cX0_tell 6 (some .boolean) [.ref (zb w + o0), .int p1, .int p2] s (zeI a).1 (zeI a).2 :=
  zCn_of (own := RX0) (lv := [some (.ref (zb w + o0)), some (.int p1), some (.int p2), none, none, none]) (by decide +kernel) rfl (Nat.le_of_ble_eq_true rfl) rfl (fun x hr => by
    unfold m_X0_tell
    refine zj_iload_n dX0_tell_0 rfl ?_
    refine zj_iconst dX0_tell_1 zic_0 ?_
    refine zj_aload_n dX0_tell_2 rfl ?_
    refine zj_getI dX0_tell_3 fl_X0_15 rfl h_o0 ?_
    refine zj_iconst dX0_tell_6 zic_1 ?_
    refine zj_isub dX0_tell_7 ?_
    refine zj_cNI3 ml_X0_66 (fun a h => c_X8_within  h) (Nat.le_of_ble_eq_true rfl) (Nat.le_of_ble_eq_true rfl) dX0_tell_8 (fun r2 s1 => ?_)
    refine zj_if_ne (tgt := 16) dX0_tell_11 (by decide) ?_ ?_
    · refine zj_iconst dX0_tell_14 zic_0 ?_
      exact zj_zret hr rfl dX0_tell_15
    · refine zj_iconst dX0_tell_16 zic_1 ?_
      refine zj_iload_n dX0_tell_17 rfl ?_
      refine zj_ishl dX0_tell_18 ?_
      refine zj_istore_n (lv' := [some (.ref (zb w + o0)), some (.int p1), some (.int p2), some (.int ((1 : Int32) <<< (p1 &&& 31))), none, none]) dX0_tell_19 rfl (by decide) rfl rfl ?_
      refine zj_aload_n dX0_tell_20 rfl ?_
      refine zj_getI dX0_tell_21 fl_X0_33 rfl h_o0 ?_
      refine zj_iload_n dX0_tell_24 rfl ?_
      refine zj_iand dX0_tell_25 ?_
      refine zj_if_eq (tgt := 33) dX0_tell_26 (by decide) ?_ ?_
      · refine zj_iconst dX0_tell_33 zic_0 ?_
        refine zj_weak [true, false, true, true, false, false] rfl ?_
        exact j_X0_tell_34 hr h_o0
      · refine zj_iconst dX0_tell_29 zic_1 ?_
        refine zj_goto (tgt := 34) dX0_tell_30 (by decide) ?_
        refine zj_weak [true, false, true, true, false, false] rfl ?_
        exact j_X0_tell_34 hr h_o0) hm
def m_X0_possible_63 (o0 : Nat) (rec11 : Int32 → Int32 → zSt → Option (Int32 × zSt)) (l1 : Int32) (l2 : Int32) (s : zSt) : Option (Int32 × zSt) :=
  rec11 l1 (l2 + 1) s
set_option maxRecDepth 100000 in
theorem j_X0_possible_63 {o0 : Nat} {rec11 : Int32 → Int32 → zSt → Option (Int32 × zSt)} {l1 : Int32} {l2 : Int32} {s : zSt} {w : zWC} {x : zCX} (hr : zrt x = (some .int))  (h_o0 : zC o0 = 0) (h_rec11 : ∀ (l1 : Int32) (l2 : Int32) (s : zSt), zJ (zQf w x zeI) w x RX0 cX0_possible 3 0 (rec11 l1 l2 s) 11 [some (.ref (zb w + o0)), some (.int l1), some (.int l2)] [] s) : zJ (zQf w x zeI) w x RX0 cX0_possible 3 0 (m_X0_possible_63 o0 rec11 l1 l2 s) 63 [some (.ref (zb w + o0)), some (.int l1), some (.int l2)] [] s := by
  unfold m_X0_possible_63
  refine zj_iinc (v2 := l2 + 1) (lv' := [some (.ref (zb w + o0)), some (.int l1), some (.int (l2 + 1))]) dX0_possible_63 rfl (by rw [zic_1]) (by decide) rfl rfl ?_
  refine zj_goto (tgt := 11) dX0_possible_66 (by decide) ?_
  exact h_rec11 _ _ _
def m_X0_possible_61 (o0 : Nat) (rec11 : Int32 → Int32 → zSt → Option (Int32 × zSt)) (l2 : Int32) (t0 : Int32) (t1 : Int32) (s : zSt) : Option (Int32 × zSt) :=
  m_X0_possible_63 o0 rec11 (t0 &&& t1) l2 s
set_option maxRecDepth 100000 in
theorem j_X0_possible_61 {o0 : Nat} {rec11 : Int32 → Int32 → zSt → Option (Int32 × zSt)} {l2 : Int32} {t0 : Int32} {t1 : Int32} {s : zSt} {w : zWC} {x : zCX} (hr : zrt x = (some .int))  (h_o0 : zC o0 = 0) (h_rec11 : ∀ (l1 : Int32) (l2 : Int32) (s : zSt), zJ (zQf w x zeI) w x RX0 cX0_possible 3 0 (rec11 l1 l2 s) 11 [some (.ref (zb w + o0)), some (.int l1), some (.int l2)] [] s) : zJ (zQf w x zeI) w x RX0 cX0_possible 3 0 (m_X0_possible_61 o0 rec11 l2 t0 t1 s) 61 [some (.ref (zb w + o0)), none, some (.int l2)] [.int t1, .int t0] s := by
  unfold m_X0_possible_61
  refine zj_iand dX0_possible_61 ?_
  refine zj_istore_n (lv' := [some (.ref (zb w + o0)), some (.int (t0 &&& t1)), some (.int l2)]) dX0_possible_62 rfl (by decide) rfl rfl ?_
  exact j_X0_possible_63 hr h_o0 h_rec11
def bd_X0_possible_11 (o0 : Nat) (rec11 : Int32 → Int32 → zSt → Option (Int32 × zSt)) (l1 : Int32) (l2 : Int32) (s : zSt) : Option (Int32 × zSt) :=
  (if l2 < zI s o0 1 then
  (if ((zI s o0 6) >>> (l2 &&& 31)) &&& 1 = 1 then
    (if ((zI s o0 7) >>> (l2 &&& 31)) &&& 1 = 1 then
      (if l2 < 0 ∨ zN (zT o0 4) ≤ Int32.toNatClampNeg l2 then none else m_X0_possible_61 o0 rec11 l2 l1 (zI s (zT o0 4) (Int32.toNatClampNeg l2)) s)
      else
      (if l2 < 0 ∨ zN (zT o0 4) ≤ Int32.toNatClampNeg l2 then none else m_X0_possible_61 o0 rec11 l2 l1 ((zI s (zT o0 4) (Int32.toNatClampNeg l2)) ^^^ (-1)) s))
    else
    m_X0_possible_63 o0 rec11 l1 l2 s)
  else
  some (l1, s))
def lp_X0_possible_11 (o0 : Nat) : Nat → Int32 → Int32 → zSt → Option (Int32 × zSt)
  | 0, _, _, _ => none
  | n + 1, l1, l2, s => bd_X0_possible_11 o0 (fun l1 l2 s => lp_X0_possible_11 o0 n l1 l2 s) l1 l2 s
set_option maxRecDepth 100000 in
theorem jb_X0_possible_11 {o0 : Nat} {rec11 : Int32 → Int32 → zSt → Option (Int32 × zSt)} {l1 : Int32} {l2 : Int32} {s : zSt} {w : zWC} {x : zCX} (hr : zrt x = (some .int))  (h_o0 : zC o0 = 0) (h_rec11 : ∀ (l1 : Int32) (l2 : Int32) (s : zSt), zJ (zQf w x zeI) w x RX0 cX0_possible 3 0 (rec11 l1 l2 s) 11 [some (.ref (zb w + o0)), some (.int l1), some (.int l2)] [] s) : zJ (zQf w x zeI) w x RX0 cX0_possible 3 0 (bd_X0_possible_11 o0 rec11 l1 l2 s) 11 [some (.ref (zb w + o0)), some (.int l1), some (.int l2)] [] s := by
  unfold bd_X0_possible_11
  refine zj_iload_n dX0_possible_11 rfl ?_
  refine zj_aload_n dX0_possible_12 rfl ?_
  refine zj_getI dX0_possible_13 fl_X0_15 rfl h_o0 ?_
  refine zj_icmp_ge (tgt := 69) dX0_possible_16 (by decide) ?_ ?_
  · refine zj_aload_n dX0_possible_19 rfl ?_
    refine zj_getI dX0_possible_20 fl_X0_33 rfl h_o0 ?_
    refine zj_iload_n dX0_possible_23 rfl ?_
    refine zj_ishr dX0_possible_24 ?_
    refine zj_iconst dX0_possible_25 zic_1 ?_
    refine zj_iand dX0_possible_26 ?_
    refine zj_iconst dX0_possible_27 zic_1 ?_
    refine zj_icmp_ne (tgt := 63) dX0_possible_28 (by decide) ?_ ?_
    · refine zj_iload_n dX0_possible_31 rfl ?_
      refine zj_aload_n dX0_possible_32 rfl ?_
      refine zj_getI dX0_possible_33 fl_X0_36 rfl h_o0 ?_
      refine zj_iload_n dX0_possible_36 rfl ?_
      refine zj_ishr dX0_possible_37 ?_
      refine zj_iconst dX0_possible_38 zic_1 ?_
      refine zj_iand dX0_possible_39 ?_
      refine zj_iconst dX0_possible_40 zic_1 ?_
      refine zj_icmp_ne (tgt := 53) dX0_possible_41 (by decide) ?_ ?_
      · refine zj_aload_n dX0_possible_44 rfl ?_
        refine zj_getT dX0_possible_45 fl_X0_25 rfl h_o0 ?_
        refine zj_iload_n dX0_possible_48 rfl ?_
        refine zj_iald dX0_possible_49 (zt_0_4 _ h_o0) ?_
        refine zj_goto (tgt := 61) dX0_possible_50 (by decide) ?_
        refine zj_weak [true, false, true] rfl ?_
        exact j_X0_possible_61 hr h_o0 h_rec11
      · refine zj_aload_n dX0_possible_53 rfl ?_
        refine zj_getT dX0_possible_54 fl_X0_25 rfl h_o0 ?_
        refine zj_iload_n dX0_possible_57 rfl ?_
        refine zj_iald dX0_possible_58 (zt_0_4 _ h_o0) ?_
        refine zj_iconst dX0_possible_59 zic_m1 ?_
        refine zj_ixor dX0_possible_60 ?_
        refine zj_weak [true, false, true] rfl ?_
        exact j_X0_possible_61 hr h_o0 h_rec11
    · exact j_X0_possible_63 hr h_o0 h_rec11
  · refine zj_iload_n dX0_possible_69 rfl ?_
    exact zj_iret hr dX0_possible_70
set_option maxRecDepth 100000 in
theorem jl_X0_possible_11 {o0 : Nat} {w : zWC} {x : zCX} (hr : zrt x = (some .int))  (h_o0 : zC o0 = 0) : ∀ (n : Nat) (l1 : Int32) (l2 : Int32) (s : zSt), zJ (zQf w x zeI) w x RX0 cX0_possible 3 0 (lp_X0_possible_11 o0 n l1 l2 s) 11 [some (.ref (zb w + o0)), some (.int l1), some (.int l2)] [] s := by
  intro n
  induction n with
  | zero => intro l1 l2 s; exact zj_none
  | succ n ih => intro l1 l2 s; exact jb_X0_possible_11 hr h_o0 (fun l1 l2 s => ih l1 l2 s)
def m_X0_possible (o0 : Nat) (s : zSt) : Option (Int32 × zSt) :=
  lp_X0_possible_11 o0 zFuel (((1 : Int32) <<< ((zI s o0 0) &&& 31)) - 1) 0 s
set_option maxRecDepth 100000 in
theorem c_X0_possible {w : zWC} {o0 : Nat} {s : zSt} (h_o0 : zC o0 = 0) {a : Int32 × zSt} (hm : m_X0_possible o0 s = some a) : zCn w 0 yX0_possible cX0_possible 3 (some .int) [.ref (zb w + o0)] s (zeI a).1 (zeI a).2 :=
  zCn_of (own := RX0) (lv := [some (.ref (zb w + o0)), none, none]) (by decide +kernel) rfl (Nat.le_of_ble_eq_true rfl) rfl (fun x hr => by
    unfold m_X0_possible
    refine zj_iconst dX0_possible_0 zic_1 ?_
    refine zj_aload_n dX0_possible_1 rfl ?_
    refine zj_getI dX0_possible_2 fl_X0_9 rfl h_o0 ?_
    refine zj_ishl dX0_possible_5 ?_
    refine zj_iconst dX0_possible_6 zic_1 ?_
    refine zj_isub dX0_possible_7 ?_
    refine zj_istore_n (lv' := [some (.ref (zb w + o0)), some (.int (((1 : Int32) <<< ((zI s o0 0) &&& 31)) - 1)), none]) dX0_possible_8 rfl (by decide) rfl rfl ?_
    refine zj_iconst dX0_possible_9 zic_0 ?_
    refine zj_istore_n (lv' := [some (.ref (zb w + o0)), some (.int (((1 : Int32) <<< ((zI s o0 0) &&& 31)) - 1)), some (.int 0)]) dX0_possible_10 rfl (by decide) rfl rfl ?_
    exact jl_X0_possible_11 hr h_o0 zFuel _ _ _) hm
def m_J6_bitCount_0f7a4 (p0 : Int32) (s : zSt) : Option (Int32 × zSt) :=
  some ((((((((p0 - (((p0.toUInt32 >>> ((1 : Int32).toUInt32 &&& Int32.toUInt32 31)).toInt32) &&& 1431655765)) &&& 858993459) + ((((p0 - (((p0.toUInt32 >>> ((1 : Int32).toUInt32 &&& Int32.toUInt32 31)).toInt32) &&& 1431655765)).toUInt32 >>> ((2 : Int32).toUInt32 &&& Int32.toUInt32 31)).toInt32) &&& 858993459)) + (((((p0 - (((p0.toUInt32 >>> ((1 : Int32).toUInt32 &&& Int32.toUInt32 31)).toInt32) &&& 1431655765)) &&& 858993459) + ((((p0 - (((p0.toUInt32 >>> ((1 : Int32).toUInt32 &&& Int32.toUInt32 31)).toInt32) &&& 1431655765)).toUInt32 >>> ((2 : Int32).toUInt32 &&& Int32.toUInt32 31)).toInt32) &&& 858993459)).toUInt32 >>> ((4 : Int32).toUInt32 &&& Int32.toUInt32 31)).toInt32)) &&& 252645135) + (((((((p0 - (((p0.toUInt32 >>> ((1 : Int32).toUInt32 &&& Int32.toUInt32 31)).toInt32) &&& 1431655765)) &&& 858993459) + ((((p0 - (((p0.toUInt32 >>> ((1 : Int32).toUInt32 &&& Int32.toUInt32 31)).toInt32) &&& 1431655765)).toUInt32 >>> ((2 : Int32).toUInt32 &&& Int32.toUInt32 31)).toInt32) &&& 858993459)) + (((((p0 - (((p0.toUInt32 >>> ((1 : Int32).toUInt32 &&& Int32.toUInt32 31)).toInt32) &&& 1431655765)) &&& 858993459) + ((((p0 - (((p0.toUInt32 >>> ((1 : Int32).toUInt32 &&& Int32.toUInt32 31)).toInt32) &&& 1431655765)).toUInt32 >>> ((2 : Int32).toUInt32 &&& Int32.toUInt32 31)).toInt32) &&& 858993459)).toUInt32 >>> ((4 : Int32).toUInt32 &&& Int32.toUInt32 31)).toInt32)) &&& 252645135).toUInt32 >>> ((8 : Int32).toUInt32 &&& Int32.toUInt32 31)).toInt32)) + ((((((((p0 - (((p0.toUInt32 >>> ((1 : Int32).toUInt32 &&& Int32.toUInt32 31)).toInt32) &&& 1431655765)) &&& 858993459) + ((((p0 - (((p0.toUInt32 >>> ((1 : Int32).toUInt32 &&& Int32.toUInt32 31)).toInt32) &&& 1431655765)).toUInt32 >>> ((2 : Int32).toUInt32 &&& Int32.toUInt32 31)).toInt32) &&& 858993459)) + (((((p0 - (((p0.toUInt32 >>> ((1 : Int32).toUInt32 &&& Int32.toUInt32 31)).toInt32) &&& 1431655765)) &&& 858993459) + ((((p0 - (((p0.toUInt32 >>> ((1 : Int32).toUInt32 &&& Int32.toUInt32 31)).toInt32) &&& 1431655765)).toUInt32 >>> ((2 : Int32).toUInt32 &&& Int32.toUInt32 31)).toInt32) &&& 858993459)).toUInt32 >>> ((4 : Int32).toUInt32 &&& Int32.toUInt32 31)).toInt32)) &&& 252645135) + (((((((p0 - (((p0.toUInt32 >>> ((1 : Int32).toUInt32 &&& Int32.toUInt32 31)).toInt32) &&& 1431655765)) &&& 858993459) + ((((p0 - (((p0.toUInt32 >>> ((1 : Int32).toUInt32 &&& Int32.toUInt32 31)).toInt32) &&& 1431655765)).toUInt32 >>> ((2 : Int32).toUInt32 &&& Int32.toUInt32 31)).toInt32) &&& 858993459)) + (((((p0 - (((p0.toUInt32 >>> ((1 : Int32).toUInt32 &&& Int32.toUInt32 31)).toInt32) &&& 1431655765)) &&& 858993459) + ((((p0 - (((p0.toUInt32 >>> ((1 : Int32).toUInt32 &&& Int32.toUInt32 31)).toInt32) &&& 1431655765)).toUInt32 >>> ((2 : Int32).toUInt32 &&& Int32.toUInt32 31)).toInt32) &&& 858993459)).toUInt32 >>> ((4 : Int32).toUInt32 &&& Int32.toUInt32 31)).toInt32)) &&& 252645135).toUInt32 >>> ((8 : Int32).toUInt32 &&& Int32.toUInt32 31)).toInt32)).toUInt32 >>> ((16 : Int32).toUInt32 &&& Int32.toUInt32 31)).toInt32)) &&& 63, s)
set_option maxRecDepth 100000 in
theorem c_J6_bitCount_0f7a4 {w : zWC} {p0 : Int32} {s : zSt}  {a : Int32 × zSt} (hm : m_J6_bitCount_0f7a4 p0 s = some a) : zCn w 0 yJ6_bitCount_0f7a4 cJ6_bitCount_0f7a4 1 (some .int) [.int p0] s (zeI a).1 (zeI a).2 :=
  zCn_of (own := RJ6) (lv := [some (.int p0)]) (by decide +kernel) rfl (Nat.le_of_ble_eq_true rfl) rfl (fun x hr => by
    unfold m_J6_bitCount_0f7a4
    refine zj_iload_n dJ6_bitCount_0f7a4_0 rfl ?_
    refine zj_iload_n dJ6_bitCount_0f7a4_1 rfl ?_
    refine zj_iconst dJ6_bitCount_0f7a4_2 zic_1 ?_
    refine zj_iushr dJ6_bitCount_0f7a4_3 ?_
    refine zj_ldcw dJ6_bitCount_0f7a4_4 kc_J6_265 ?_
    refine zj_iand dJ6_bitCount_0f7a4_7 ?_
    refine zj_isub dJ6_bitCount_0f7a4_8 ?_
    refine zj_istore_n (lv' := [some (.int (p0 - (((p0.toUInt32 >>> ((1 : Int32).toUInt32 &&& Int32.toUInt32 31)).toInt32) &&& 1431655765)))]) dJ6_bitCount_0f7a4_9 rfl (by decide) rfl rfl ?_
    refine zj_iload_n dJ6_bitCount_0f7a4_10 rfl ?_
    refine zj_ldcw dJ6_bitCount_0f7a4_11 kc_J6_266 ?_
    refine zj_iand dJ6_bitCount_0f7a4_14 ?_
    refine zj_iload_n dJ6_bitCount_0f7a4_15 rfl ?_
    refine zj_iconst dJ6_bitCount_0f7a4_16 zic_2 ?_
    refine zj_iushr dJ6_bitCount_0f7a4_17 ?_
    refine zj_ldcw dJ6_bitCount_0f7a4_18 kc_J6_266 ?_
    refine zj_iand dJ6_bitCount_0f7a4_21 ?_
    refine zj_iadd dJ6_bitCount_0f7a4_22 ?_
    refine zj_istore_n (lv' := [some (.int (((p0 - (((p0.toUInt32 >>> ((1 : Int32).toUInt32 &&& Int32.toUInt32 31)).toInt32) &&& 1431655765)) &&& 858993459) + ((((p0 - (((p0.toUInt32 >>> ((1 : Int32).toUInt32 &&& Int32.toUInt32 31)).toInt32) &&& 1431655765)).toUInt32 >>> ((2 : Int32).toUInt32 &&& Int32.toUInt32 31)).toInt32) &&& 858993459)))]) dJ6_bitCount_0f7a4_23 rfl (by decide) rfl rfl ?_
    refine zj_iload_n dJ6_bitCount_0f7a4_24 rfl ?_
    refine zj_iload_n dJ6_bitCount_0f7a4_25 rfl ?_
    refine zj_iconst dJ6_bitCount_0f7a4_26 zic_4 ?_
    refine zj_iushr dJ6_bitCount_0f7a4_27 ?_
    refine zj_iadd dJ6_bitCount_0f7a4_28 ?_
    refine zj_ldcw dJ6_bitCount_0f7a4_29 kc_J6_267 ?_
    refine zj_iand dJ6_bitCount_0f7a4_32 ?_
    refine zj_istore_n (lv' := [some (.int (((((p0 - (((p0.toUInt32 >>> ((1 : Int32).toUInt32 &&& Int32.toUInt32 31)).toInt32) &&& 1431655765)) &&& 858993459) + ((((p0 - (((p0.toUInt32 >>> ((1 : Int32).toUInt32 &&& Int32.toUInt32 31)).toInt32) &&& 1431655765)).toUInt32 >>> ((2 : Int32).toUInt32 &&& Int32.toUInt32 31)).toInt32) &&& 858993459)) + (((((p0 - (((p0.toUInt32 >>> ((1 : Int32).toUInt32 &&& Int32.toUInt32 31)).toInt32) &&& 1431655765)) &&& 858993459) + ((((p0 - (((p0.toUInt32 >>> ((1 : Int32).toUInt32 &&& Int32.toUInt32 31)).toInt32) &&& 1431655765)).toUInt32 >>> ((2 : Int32).toUInt32 &&& Int32.toUInt32 31)).toInt32) &&& 858993459)).toUInt32 >>> ((4 : Int32).toUInt32 &&& Int32.toUInt32 31)).toInt32)) &&& 252645135))]) dJ6_bitCount_0f7a4_33 rfl (by decide) rfl rfl ?_
    refine zj_iload_n dJ6_bitCount_0f7a4_34 rfl ?_
    refine zj_iload_n dJ6_bitCount_0f7a4_35 rfl ?_
    refine zj_bipush dJ6_bitCount_0f7a4_36 zbi_8 ?_
    refine zj_iushr dJ6_bitCount_0f7a4_38 ?_
    refine zj_iadd dJ6_bitCount_0f7a4_39 ?_
    refine zj_istore_n (lv' := [some (.int ((((((p0 - (((p0.toUInt32 >>> ((1 : Int32).toUInt32 &&& Int32.toUInt32 31)).toInt32) &&& 1431655765)) &&& 858993459) + ((((p0 - (((p0.toUInt32 >>> ((1 : Int32).toUInt32 &&& Int32.toUInt32 31)).toInt32) &&& 1431655765)).toUInt32 >>> ((2 : Int32).toUInt32 &&& Int32.toUInt32 31)).toInt32) &&& 858993459)) + (((((p0 - (((p0.toUInt32 >>> ((1 : Int32).toUInt32 &&& Int32.toUInt32 31)).toInt32) &&& 1431655765)) &&& 858993459) + ((((p0 - (((p0.toUInt32 >>> ((1 : Int32).toUInt32 &&& Int32.toUInt32 31)).toInt32) &&& 1431655765)).toUInt32 >>> ((2 : Int32).toUInt32 &&& Int32.toUInt32 31)).toInt32) &&& 858993459)).toUInt32 >>> ((4 : Int32).toUInt32 &&& Int32.toUInt32 31)).toInt32)) &&& 252645135) + (((((((p0 - (((p0.toUInt32 >>> ((1 : Int32).toUInt32 &&& Int32.toUInt32 31)).toInt32) &&& 1431655765)) &&& 858993459) + ((((p0 - (((p0.toUInt32 >>> ((1 : Int32).toUInt32 &&& Int32.toUInt32 31)).toInt32) &&& 1431655765)).toUInt32 >>> ((2 : Int32).toUInt32 &&& Int32.toUInt32 31)).toInt32) &&& 858993459)) + (((((p0 - (((p0.toUInt32 >>> ((1 : Int32).toUInt32 &&& Int32.toUInt32 31)).toInt32) &&& 1431655765)) &&& 858993459) + ((((p0 - (((p0.toUInt32 >>> ((1 : Int32).toUInt32 &&& Int32.toUInt32 31)).toInt32) &&& 1431655765)).toUInt32 >>> ((2 : Int32).toUInt32 &&& Int32.toUInt32 31)).toInt32) &&& 858993459)).toUInt32 >>> ((4 : Int32).toUInt32 &&& Int32.toUInt32 31)).toInt32)) &&& 252645135).toUInt32 >>> ((8 : Int32).toUInt32 &&& Int32.toUInt32 31)).toInt32)))]) dJ6_bitCount_0f7a4_40 rfl (by decide) rfl rfl ?_
    refine zj_iload_n dJ6_bitCount_0f7a4_41 rfl ?_
    refine zj_iload_n dJ6_bitCount_0f7a4_42 rfl ?_
    refine zj_bipush dJ6_bitCount_0f7a4_43 zbi_16 ?_
    refine zj_iushr dJ6_bitCount_0f7a4_45 ?_
    refine zj_iadd dJ6_bitCount_0f7a4_46 ?_
    refine zj_istore_n (lv' := [some (.int (((((((p0 - (((p0.toUInt32 >>> ((1 : Int32).toUInt32 &&& Int32.toUInt32 31)).toInt32) &&& 1431655765)) &&& 858993459) + ((((p0 - (((p0.toUInt32 >>> ((1 : Int32).toUInt32 &&& Int32.toUInt32 31)).toInt32) &&& 1431655765)).toUInt32 >>> ((2 : Int32).toUInt32 &&& Int32.toUInt32 31)).toInt32) &&& 858993459)) + (((((p0 - (((p0.toUInt32 >>> ((1 : Int32).toUInt32 &&& Int32.toUInt32 31)).toInt32) &&& 1431655765)) &&& 858993459) + ((((p0 - (((p0.toUInt32 >>> ((1 : Int32).toUInt32 &&& Int32.toUInt32 31)).toInt32) &&& 1431655765)).toUInt32 >>> ((2 : Int32).toUInt32 &&& Int32.toUInt32 31)).toInt32) &&& 858993459)).toUInt32 >>> ((4 : Int32).toUInt32 &&& Int32.toUInt32 31)).toInt32)) &&& 252645135) + (((((((p0 - (((p0.toUInt32 >>> ((1 : Int32).toUInt32 &&& Int32.toUInt32 31)).toInt32) &&& 1431655765)) &&& 858993459) + ((((p0 - (((p0.toUInt32 >>> ((1 : Int32).toUInt32 &&& Int32.toUInt32 31)).toInt32) &&& 1431655765)).toUInt32 >>> ((2 : Int32).toUInt32 &&& Int32.toUInt32 31)).toInt32) &&& 858993459)) + (((((p0 - (((p0.toUInt32 >>> ((1 : Int32).toUInt32 &&& Int32.toUInt32 31)).toInt32) &&& 1431655765)) &&& 858993459) + ((((p0 - (((p0.toUInt32 >>> ((1 : Int32).toUInt32 &&& Int32.toUInt32 31)).toInt32) &&& 1431655765)).toUInt32 >>> ((2 : Int32).toUInt32 &&& Int32.toUInt32 31)).toInt32) &&& 858993459)).toUInt32 >>> ((4 : Int32).toUInt32 &&& Int32.toUInt32 31)).toInt32)) &&& 252645135).toUInt32 >>> ((8 : Int32).toUInt32 &&& Int32.toUInt32 31)).toInt32)) + ((((((((p0 - (((p0.toUInt32 >>> ((1 : Int32).toUInt32 &&& Int32.toUInt32 31)).toInt32) &&& 1431655765)) &&& 858993459) + ((((p0 - (((p0.toUInt32 >>> ((1 : Int32).toUInt32 &&& Int32.toUInt32 31)).toInt32) &&& 1431655765)).toUInt32 >>> ((2 : Int32).toUInt32 &&& Int32.toUInt32 31)).toInt32) &&& 858993459)) + (((((p0 - (((p0.toUInt32 >>> ((1 : Int32).toUInt32 &&& Int32.toUInt32 31)).toInt32) &&& 1431655765)) &&& 858993459) + ((((p0 - (((p0.toUInt32 >>> ((1 : Int32).toUInt32 &&& Int32.toUInt32 31)).toInt32) &&& 1431655765)).toUInt32 >>> ((2 : Int32).toUInt32 &&& Int32.toUInt32 31)).toInt32) &&& 858993459)).toUInt32 >>> ((4 : Int32).toUInt32 &&& Int32.toUInt32 31)).toInt32)) &&& 252645135) + (((((((p0 - (((p0.toUInt32 >>> ((1 : Int32).toUInt32 &&& Int32.toUInt32 31)).toInt32) &&& 1431655765)) &&& 858993459) + ((((p0 - (((p0.toUInt32 >>> ((1 : Int32).toUInt32 &&& Int32.toUInt32 31)).toInt32) &&& 1431655765)).toUInt32 >>> ((2 : Int32).toUInt32 &&& Int32.toUInt32 31)).toInt32) &&& 858993459)) + (((((p0 - (((p0.toUInt32 >>> ((1 : Int32).toUInt32 &&& Int32.toUInt32 31)).toInt32) &&& 1431655765)) &&& 858993459) + ((((p0 - (((p0.toUInt32 >>> ((1 : Int32).toUInt32 &&& Int32.toUInt32 31)).toInt32) &&& 1431655765)).toUInt32 >>> ((2 : Int32).toUInt32 &&& Int32.toUInt32 31)).toInt32) &&& 858993459)).toUInt32 >>> ((4 : Int32).toUInt32 &&& Int32.toUInt32 31)).toInt32)) &&& 252645135).toUInt32 >>> ((8 : Int32).toUInt32 &&& Int32.toUInt32 31)).toInt32)).toUInt32 >>> ((16 : Int32).toUInt32 &&& Int32.toUInt32 31)).toInt32)))]) dJ6_bitCount_0f7a4_47 rfl (by decide) rfl rfl ?_
    refine zj_iload_n dJ6_bitCount_0f7a4_48 rfl ?_
    refine zj_bipush dJ6_bitCount_0f7a4_49 zbi_63 ?_
    refine zj_iand dJ6_bitCount_0f7a4_51 ?_
    exact zj_iret hr dJ6_bitCount_0f7a4_52) hm
def m_J9_max_7cf53 (p0 : Int32) (p1 : Int32) (s : zSt) : Option (Int32 × zSt) :=
  (if p0 < p1 then
  some (p1, s)
  else
  some (p0, s))
set_option maxRecDepth 100000 in
theorem c_J9_max_7cf53 {w : zWC} {p0 : Int32} {p1 : Int32} {s : zSt}  {a : Int32 × zSt} (hm : m_J9_max_7cf53 p0 p1 s = some a) : zCn w 0 yJ9_max_7cf53 cJ9_max_7cf53 2 (some .int) [.int p0, .int p1] s (zeI a).1 (zeI a).2 :=
  zCn_of (own := RJ9) (lv := [some (.int p0), some (.int p1)]) (by decide +kernel) rfl (Nat.le_of_ble_eq_true rfl) rfl (fun x hr => by
    unfold m_J9_max_7cf53
    refine zj_iload_n dJ9_max_7cf53_0 rfl ?_
    refine zj_iload_n dJ9_max_7cf53_1 rfl ?_
    refine zj_icmp_lt (tgt := 9) dJ9_max_7cf53_2 (by decide) ?_ ?_
    · refine zj_iload_n dJ9_max_7cf53_9 rfl ?_
      exact zj_iret hr dJ9_max_7cf53_10
    · refine zj_iload_n dJ9_max_7cf53_5 rfl ?_
      refine zj_goto (tgt := 10) dJ9_max_7cf53_6 (by decide) ?_
      exact zj_iret hr dJ9_max_7cf53_10) hm
def m_X0_bestTrial_79 (o0 : Nat) (rec15 : Int32 → Int32 → Int32 → Int32 → zSt → Option (Int32 × zSt)) (l1 : Int32) (l2 : Int32) (l3 : Int32) (l4 : Int32) (s : zSt) : Option (Int32 × zSt) :=
  rec15 l1 l2 l3 (l4 + 1) s
set_option maxRecDepth 100000 in
theorem j_X0_bestTrial_79 {o0 : Nat} {rec15 : Int32 → Int32 → Int32 → Int32 → zSt → Option (Int32 × zSt)} {l1 : Int32} {l2 : Int32} {l3 : Int32} {l4 : Int32} {s : zSt} {w : zWC} {x : zCX} (hr : zrt x = (some .int))  (h_o0 : zC o0 = 0) (h_rec15 : ∀ (l1 : Int32) (l2 : Int32) (l3 : Int32) (l4 : Int32) (s : zSt), zJ (zQf w x zeI) w x RX0 cX0_bestTrial 6 1 (rec15 l1 l2 l3 l4 s) 15 [some (.ref (zb w + o0)), some (.int l1), some (.int l2), some (.int l3), some (.int l4), none] [] s) : zJ (zQf w x zeI) w x RX0 cX0_bestTrial 6 1 (m_X0_bestTrial_79 o0 rec15 l1 l2 l3 l4 s) 79 [some (.ref (zb w + o0)), some (.int l1), some (.int l2), some (.int l3), some (.int l4), none] [] s := by
  unfold m_X0_bestTrial_79
  refine zj_iinc (v2 := l4 + 1) (lv' := [some (.ref (zb w + o0)), some (.int l1), some (.int l2), some (.int l3), some (.int (l4 + 1)), none]) dX0_bestTrial_79 rfl (by rw [zic_1]) (by decide) rfl rfl ?_
  refine zj_goto (tgt := 15) dX0_bestTrial_82 (by decide) ?_
  exact h_rec15 _ _ _ _ _
def bd_X0_bestTrial_15 (o0 : Nat) (rec15 : Int32 → Int32 → Int32 → Int32 → zSt → Option (Int32 × zSt)) (l1 : Int32) (l2 : Int32) (l3 : Int32) (l4 : Int32) (s : zSt) : Option (Int32 × zSt) :=
  (if l4 < zI s o0 1 then
  (if l4 < 0 ∨ zN (zT o0 4) ≤ Int32.toNatClampNeg l4 then none else zcl (m_J6_bitCount_0f7a4 (l1 &&& (zI s (zT o0 4) (Int32.toNatClampNeg l4))) s) (fun r6 s5 => (if l4 < 0 ∨ zN (zT o0 4) ≤ Int32.toNatClampNeg l4 then none else zcl (m_J6_bitCount_0f7a4 (l1 &&& ((zI s5 (zT o0 4) (Int32.toNatClampNeg l4)) ^^^ (-1))) s5) (fun r8 s7 => zcl (m_J9_max_7cf53 r6 r8 s7) (fun r10 s9 => (if ((zI s9 o0 6) >>> (l4 &&& 31)) &&& 1 = 0 then
    (if r10 < l3 then
      m_X0_bestTrial_79 o0 rec15 l1 l4 r10 l4 s9
      else
      m_X0_bestTrial_79 o0 rec15 l1 l2 l3 l4 s9)
    else
    m_X0_bestTrial_79 o0 rec15 l1 l2 l3 l4 s9))))))
  else
  some (l2, s))
def lp_X0_bestTrial_15 (o0 : Nat) : Nat → Int32 → Int32 → Int32 → Int32 → zSt → Option (Int32 × zSt)
  | 0, _, _, _, _, _ => none
  | n + 1, l1, l2, l3, l4, s => bd_X0_bestTrial_15 o0 (fun l1 l2 l3 l4 s => lp_X0_bestTrial_15 o0 n l1 l2 l3 l4 s) l1 l2 l3 l4 s
set_option maxRecDepth 100000 in
theorem jb_X0_bestTrial_15 {o0 : Nat} {rec15 : Int32 → Int32 → Int32 → Int32 → zSt → Option (Int32 × zSt)} {l1 : Int32} {l2 : Int32} {l3 : Int32} {l4 : Int32} {s : zSt} {w : zWC} {x : zCX} (hr : zrt x = (some .int))  (h_o0 : zC o0 = 0) (h_rec15 : ∀ (l1 : Int32) (l2 : Int32) (l3 : Int32) (l4 : Int32) (s : zSt), zJ (zQf w x zeI) w x RX0 cX0_bestTrial 6 1 (rec15 l1 l2 l3 l4 s) 15 [some (.ref (zb w + o0)), some (.int l1), some (.int l2), some (.int l3), some (.int l4), none] [] s) : zJ (zQf w x zeI) w x RX0 cX0_bestTrial 6 1 (bd_X0_bestTrial_15 o0 rec15 l1 l2 l3 l4 s) 15 [some (.ref (zb w + o0)), some (.int l1), some (.int l2), some (.int l3), some (.int l4), none] [] s := by
  unfold bd_X0_bestTrial_15
  refine zj_iload dX0_bestTrial_15 rfl ?_
  refine zj_aload_n dX0_bestTrial_17 rfl ?_
  refine zj_getI dX0_bestTrial_18 fl_X0_15 rfl h_o0 ?_
  refine zj_icmp_ge (tgt := 85) dX0_bestTrial_21 (by decide) ?_ ?_
  · refine zj_iload_n dX0_bestTrial_24 rfl ?_
    refine zj_aload_n dX0_bestTrial_25 rfl ?_
    refine zj_getT dX0_bestTrial_26 fl_X0_25 rfl h_o0 ?_
    refine zj_iload dX0_bestTrial_29 rfl ?_
    refine zj_iald dX0_bestTrial_31 (zt_0_4 _ h_o0) ?_
    refine zj_iand dX0_bestTrial_32 ?_
    refine zj_cSI1 ml_X0_74 (fun a h => c_J6_bitCount_0f7a4  h) (Nat.le_of_ble_eq_true rfl) (Nat.le_of_ble_eq_true rfl) dX0_bestTrial_33 (fun r6 s5 => ?_)
    refine zj_iload_n dX0_bestTrial_36 rfl ?_
    refine zj_aload_n dX0_bestTrial_37 rfl ?_
    refine zj_getT dX0_bestTrial_38 fl_X0_25 rfl h_o0 ?_
    refine zj_iload dX0_bestTrial_41 rfl ?_
    refine zj_iald dX0_bestTrial_43 (zt_0_4 _ h_o0) ?_
    refine zj_iconst dX0_bestTrial_44 zic_m1 ?_
    refine zj_ixor dX0_bestTrial_45 ?_
    refine zj_iand dX0_bestTrial_46 ?_
    refine zj_cSI1 ml_X0_74 (fun a h => c_J6_bitCount_0f7a4  h) (Nat.le_of_ble_eq_true rfl) (Nat.le_of_ble_eq_true rfl) dX0_bestTrial_47 (fun r8 s7 => ?_)
    refine zj_cSI2 ml_X0_80 (fun a h => c_J9_max_7cf53  h) (Nat.le_of_ble_eq_true rfl) (Nat.le_of_ble_eq_true rfl) dX0_bestTrial_50 (fun r10 s9 => ?_)
    refine zj_istore (lv' := [some (.ref (zb w + o0)), some (.int l1), some (.int l2), some (.int l3), some (.int l4), some (.int r10)]) dX0_bestTrial_53 (by decide) rfl rfl ?_
    refine zj_aload_n dX0_bestTrial_55 rfl ?_
    refine zj_getI dX0_bestTrial_56 fl_X0_33 rfl h_o0 ?_
    refine zj_iload dX0_bestTrial_59 rfl ?_
    refine zj_ishr dX0_bestTrial_61 ?_
    refine zj_iconst dX0_bestTrial_62 zic_1 ?_
    refine zj_iand dX0_bestTrial_63 ?_
    refine zj_if_ne (tgt := 79) dX0_bestTrial_64 (by decide) ?_ ?_
    · refine zj_iload dX0_bestTrial_67 rfl ?_
      refine zj_iload_n dX0_bestTrial_69 rfl ?_
      refine zj_icmp_ge (tgt := 79) dX0_bestTrial_70 (by decide) ?_ ?_
      · refine zj_iload dX0_bestTrial_73 rfl ?_
        refine zj_istore_n (lv' := [some (.ref (zb w + o0)), some (.int l1), some (.int l4), some (.int l3), some (.int l4), some (.int r10)]) dX0_bestTrial_75 rfl (by decide) rfl rfl ?_
        refine zj_iload dX0_bestTrial_76 rfl ?_
        refine zj_istore_n (lv' := [some (.ref (zb w + o0)), some (.int l1), some (.int l4), some (.int r10), some (.int l4), some (.int r10)]) dX0_bestTrial_78 rfl (by decide) rfl rfl ?_
        refine zj_weak [true, true, true, true, true, false] rfl ?_
        exact j_X0_bestTrial_79 hr h_o0 h_rec15
      · refine zj_weak [true, true, true, true, true, false] rfl ?_
        exact j_X0_bestTrial_79 hr h_o0 h_rec15
    · refine zj_weak [true, true, true, true, true, false] rfl ?_
      exact j_X0_bestTrial_79 hr h_o0 h_rec15
  · refine zj_iload_n dX0_bestTrial_85 rfl ?_
    exact zj_iret hr dX0_bestTrial_86
set_option maxRecDepth 100000 in
theorem jl_X0_bestTrial_15 {o0 : Nat} {w : zWC} {x : zCX} (hr : zrt x = (some .int))  (h_o0 : zC o0 = 0) : ∀ (n : Nat) (l1 : Int32) (l2 : Int32) (l3 : Int32) (l4 : Int32) (s : zSt), zJ (zQf w x zeI) w x RX0 cX0_bestTrial 6 1 (lp_X0_bestTrial_15 o0 n l1 l2 l3 l4 s) 15 [some (.ref (zb w + o0)), some (.int l1), some (.int l2), some (.int l3), some (.int l4), none] [] s := by
  intro n
  induction n with
  | zero => intro l1 l2 l3 l4 s; exact zj_none
  | succ n ih => intro l1 l2 l3 l4 s; exact jb_X0_bestTrial_15 hr h_o0 (fun l1 l2 l3 l4 s => ih l1 l2 l3 l4 s)
def m_X0_bestTrial (o0 : Nat) (s : zSt) : Option (Int32 × zSt) :=
  zcl (m_X0_possible o0 s) (fun r2 s1 => zcl (m_J6_bitCount_0f7a4 r2 s1) (fun r4 s3 => lp_X0_bestTrial_15 o0 zFuel r2 (-1) r4 0 s3))
set_option maxRecDepth 100000 in
theorem c_X0_bestTrial {w : zWC} {o0 : Nat} {s : zSt} (h_o0 : zC o0 = 0) {a : Int32 × zSt} (hm : m_X0_bestTrial o0 s = some a) : zCn w 1 yX0_bestTrial cX0_bestTrial 6 (some .int) [.ref (zb w + o0)] s (zeI a).1 (zeI a).2 :=
  zCn_of (own := RX0) (lv := [some (.ref (zb w + o0)), none, none, none, none, none]) (by decide +kernel) rfl (Nat.le_of_ble_eq_true rfl) rfl (fun x hr => by
    unfold m_X0_bestTrial
    refine zj_aload_n dX0_bestTrial_0 rfl ?_
    refine zj_cVI0 ml_X0_70 (fun a h => c_X0_possible h_o0 h) h_o0 rfl (Nat.le_of_ble_eq_true rfl) (Nat.le_of_ble_eq_true rfl) dX0_bestTrial_1 (fun r2 s1 => ?_)
    refine zj_istore_n (lv' := [some (.ref (zb w + o0)), some (.int r2), none, none, none, none]) dX0_bestTrial_4 rfl (by decide) rfl rfl ?_
    refine zj_iconst dX0_bestTrial_5 zic_m1 ?_
    refine zj_istore_n (lv' := [some (.ref (zb w + o0)), some (.int r2), some (.int (-1)), none, none, none]) dX0_bestTrial_6 rfl (by decide) rfl rfl ?_
    refine zj_iload_n dX0_bestTrial_7 rfl ?_
    refine zj_cSI1 ml_X0_74 (fun a h => c_J6_bitCount_0f7a4  h) (Nat.le_of_ble_eq_true rfl) (Nat.le_of_ble_eq_true rfl) dX0_bestTrial_8 (fun r4 s3 => ?_)
    refine zj_istore_n (lv' := [some (.ref (zb w + o0)), some (.int r2), some (.int (-1)), some (.int r4), none, none]) dX0_bestTrial_11 rfl (by decide) rfl rfl ?_
    refine zj_iconst dX0_bestTrial_12 zic_0 ?_
    refine zj_istore (lv' := [some (.ref (zb w + o0)), some (.int r2), some (.int (-1)), some (.int r4), some (.int 0), none]) dX0_bestTrial_13 (by decide) rfl rfl ?_
    exact jl_X0_bestTrial_15 hr h_o0 zFuel _ _ _ _ _) hm
def m_X0_fewestTrials (o0 : Nat) (s : zSt) : Option (Int32 × zSt) :=
  zcl (m_X0_possible o0 s) (fun r2 s1 => (if r2 &&& ((Int32.ofNat (zN (zT o0 5))) - 1) < 0 ∨ zN (zT o0 5) ≤ Int32.toNatClampNeg (r2 &&& ((Int32.ofNat (zN (zT o0 5))) - 1)) then none else some (zI s1 (zT o0 5) (Int32.toNatClampNeg (r2 &&& ((Int32.ofNat (zN (zT o0 5))) - 1))), s1)))
set_option maxRecDepth 100000 in
theorem c_X0_fewestTrials {w : zWC} {o0 : Nat} {s : zSt} (h_o0 : zC o0 = 0) {a : Int32 × zSt} (hm : m_X0_fewestTrials o0 s = some a) : zCn w 1 yX0_fewestTrials cX0_fewestTrials 1 (some .int) [.ref (zb w + o0)] s (zeI a).1 (zeI a).2 :=
  zCn_of (own := RX0) (lv := [some (.ref (zb w + o0))]) (by decide +kernel) rfl (Nat.le_of_ble_eq_true rfl) rfl (fun x hr => by
    unfold m_X0_fewestTrials
    refine zj_aload_n dX0_fewestTrials_0 rfl ?_
    refine zj_getT dX0_fewestTrials_1 fl_X0_29 rfl h_o0 ?_
    refine zj_aload_n dX0_fewestTrials_4 rfl ?_
    refine zj_cVI0 ml_X0_70 (fun a h => c_X0_possible h_o0 h) h_o0 rfl (Nat.le_of_ble_eq_true rfl) (Nat.le_of_ble_eq_true rfl) dX0_fewestTrials_5 (fun r2 s1 => ?_)
    refine zj_aload_n dX0_fewestTrials_8 rfl ?_
    refine zj_getT dX0_fewestTrials_9 fl_X0_29 rfl h_o0 ?_
    refine zj_alen10 dX0_fewestTrials_12 (zt_0_5 _ h_o0) ?_
    refine zj_iconst dX0_fewestTrials_13 zic_1 ?_
    refine zj_isub dX0_fewestTrials_14 ?_
    refine zj_iand dX0_fewestTrials_15 ?_
    refine zj_bald dX0_fewestTrials_16 (zt_0_5 _ h_o0) ?_
    exact zj_iret hr dX0_fewestTrials_17) hm
def m_X0_fewestFor_101 (o0 : Nat) (p1 : Int32) (rec4 : Int32 → Int32 → zSt → Option (Int32 × zSt)) (l2 : Int32) (l3 : Int32) (s : zSt) : Option (Int32 × zSt) :=
  rec4 l2 (l3 + 1) s
set_option maxRecDepth 100000 in
theorem j_X0_fewestFor_101 {o0 : Nat} {p1 : Int32} {rec4 : Int32 → Int32 → zSt → Option (Int32 × zSt)} {l2 : Int32} {l3 : Int32} {s : zSt} {w : zWC} {x : zCX} (hr : zrt x = (some .int))  (h_o0 : zC o0 = 0) (h_rec4 : ∀ (l2 : Int32) (l3 : Int32) (s : zSt), zJ (zQf w x zeI) w x RX0 cX0_fewestFor 7 1 (rec4 l2 l3 s) 4 [some (.ref (zb w + o0)), some (.int p1), some (.int l2), some (.int l3), none, none, none] [] s) : zJ (zQf w x zeI) w x RX0 cX0_fewestFor 7 1 (m_X0_fewestFor_101 o0 p1 rec4 l2 l3 s) 101 [some (.ref (zb w + o0)), some (.int p1), some (.int l2), some (.int l3), none, none, none] [] s := by
  unfold m_X0_fewestFor_101
  refine zj_iinc (v2 := l3 + 1) (lv' := [some (.ref (zb w + o0)), some (.int p1), some (.int l2), some (.int (l3 + 1)), none, none, none]) dX0_fewestFor_101 rfl (by rw [zic_1]) (by decide) rfl rfl ?_
  refine zj_goto (tgt := 4) dX0_fewestFor_104 (by decide) ?_
  exact h_rec4 _ _ _
def m_X0_fewestFor_98 (o0 : Nat) (p1 : Int32) (rec4 : Int32 → Int32 → zSt → Option (Int32 × zSt)) (l3 : Int32) (l6 : Int32) (s : zSt) : Option (Int32 × zSt) :=
  m_X0_fewestFor_101 o0 p1 rec4 l6 l3 s
set_option maxRecDepth 100000 in
theorem j_X0_fewestFor_98 {o0 : Nat} {p1 : Int32} {rec4 : Int32 → Int32 → zSt → Option (Int32 × zSt)} {l3 : Int32} {l6 : Int32} {s : zSt} {w : zWC} {x : zCX} (hr : zrt x = (some .int))  (h_o0 : zC o0 = 0) (h_rec4 : ∀ (l2 : Int32) (l3 : Int32) (s : zSt), zJ (zQf w x zeI) w x RX0 cX0_fewestFor 7 1 (rec4 l2 l3 s) 4 [some (.ref (zb w + o0)), some (.int p1), some (.int l2), some (.int l3), none, none, none] [] s) : zJ (zQf w x zeI) w x RX0 cX0_fewestFor 7 1 (m_X0_fewestFor_98 o0 p1 rec4 l3 l6 s) 98 [some (.ref (zb w + o0)), some (.int p1), none, some (.int l3), none, none, some (.int l6)] [] s := by
  unfold m_X0_fewestFor_98
  refine zj_iload dX0_fewestFor_98 rfl ?_
  refine zj_istore_n (lv' := [some (.ref (zb w + o0)), some (.int p1), some (.int l6), some (.int l3), none, none, some (.int l6)]) dX0_fewestFor_100 rfl (by decide) rfl rfl ?_
  refine zj_weak [true, true, true, true, false, false, false] rfl ?_
  exact j_X0_fewestFor_101 hr h_o0 h_rec4
def bd_X0_fewestFor_4 (o0 : Nat) (p1 : Int32) (rec4 : Int32 → Int32 → zSt → Option (Int32 × zSt)) (l2 : Int32) (l3 : Int32) (s : zSt) : Option (Int32 × zSt) :=
  (if l3 < zI s o0 1 then
  (if l3 < 0 ∨ zN (zT o0 4) ≤ Int32.toNatClampNeg l3 then none else (if l3 < 0 ∨ zN (zT o0 4) ≤ Int32.toNatClampNeg l3 then none else (if p1 &&& (zI s (zT o0 4) (Int32.toNatClampNeg l3)) = 0 then
    m_X0_fewestFor_101 o0 p1 rec4 l2 l3 s
    else
    (if p1 &&& ((zI s (zT o0 4) (Int32.toNatClampNeg l3)) ^^^ (-1)) = 0 then
      m_X0_fewestFor_101 o0 p1 rec4 l2 l3 s
      else
      (if p1 &&& (zI s (zT o0 4) (Int32.toNatClampNeg l3)) < 0 ∨ zN (zT o0 5) ≤ Int32.toNatClampNeg (p1 &&& (zI s (zT o0 4) (Int32.toNatClampNeg l3))) then none else (if zI s (zT o0 5) (Int32.toNatClampNeg (p1 &&& (zI s (zT o0 4) (Int32.toNatClampNeg l3)))) = (-1) then
        m_X0_fewestFor_101 o0 p1 rec4 l2 l3 s
        else
        (if p1 &&& ((zI s (zT o0 4) (Int32.toNatClampNeg l3)) ^^^ (-1)) < 0 ∨ zN (zT o0 5) ≤ Int32.toNatClampNeg (p1 &&& ((zI s (zT o0 4) (Int32.toNatClampNeg l3)) ^^^ (-1))) then none else (if zI s (zT o0 5) (Int32.toNatClampNeg (p1 &&& ((zI s (zT o0 4) (Int32.toNatClampNeg l3)) ^^^ (-1)))) = (-1) then
          m_X0_fewestFor_101 o0 p1 rec4 l2 l3 s
          else
          (if p1 &&& (zI s (zT o0 4) (Int32.toNatClampNeg l3)) < 0 ∨ zN (zT o0 5) ≤ Int32.toNatClampNeg (p1 &&& (zI s (zT o0 4) (Int32.toNatClampNeg l3))) then none else (if p1 &&& ((zI s (zT o0 4) (Int32.toNatClampNeg l3)) ^^^ (-1)) < 0 ∨ zN (zT o0 5) ≤ Int32.toNatClampNeg (p1 &&& ((zI s (zT o0 4) (Int32.toNatClampNeg l3)) ^^^ (-1))) then none else zcl (m_J9_max_7cf53 (zI s (zT o0 5) (Int32.toNatClampNeg (p1 &&& (zI s (zT o0 4) (Int32.toNatClampNeg l3))))) (zI s (zT o0 5) (Int32.toNatClampNeg (p1 &&& ((zI s (zT o0 4) (Int32.toNatClampNeg l3)) ^^^ (-1))))) s) (fun r2 s1 => (if l2 = (-1) then
            m_X0_fewestFor_98 o0 p1 rec4 l3 ((1 : Int32) + r2) s1
            else
            (if (1 : Int32) + r2 < l2 then
              m_X0_fewestFor_98 o0 p1 rec4 l3 ((1 : Int32) + r2) s1
              else
              m_X0_fewestFor_101 o0 p1 rec4 l2 l3 s1)))))))))))))
  else
  some (l2, s))
def lp_X0_fewestFor_4 (o0 : Nat) (p1 : Int32) : Nat → Int32 → Int32 → zSt → Option (Int32 × zSt)
  | 0, _, _, _ => none
  | n + 1, l2, l3, s => bd_X0_fewestFor_4 o0 p1 (fun l2 l3 s => lp_X0_fewestFor_4 o0 p1 n l2 l3 s) l2 l3 s
set_option maxRecDepth 100000 in
theorem jb_X0_fewestFor_4 {o0 : Nat} {p1 : Int32} {rec4 : Int32 → Int32 → zSt → Option (Int32 × zSt)} {l2 : Int32} {l3 : Int32} {s : zSt} {w : zWC} {x : zCX} (hr : zrt x = (some .int))  (h_o0 : zC o0 = 0) (h_rec4 : ∀ (l2 : Int32) (l3 : Int32) (s : zSt), zJ (zQf w x zeI) w x RX0 cX0_fewestFor 7 1 (rec4 l2 l3 s) 4 [some (.ref (zb w + o0)), some (.int p1), some (.int l2), some (.int l3), none, none, none] [] s) : zJ (zQf w x zeI) w x RX0 cX0_fewestFor 7 1 (bd_X0_fewestFor_4 o0 p1 rec4 l2 l3 s) 4 [some (.ref (zb w + o0)), some (.int p1), some (.int l2), some (.int l3), none, none, none] [] s := by
  unfold bd_X0_fewestFor_4
  refine zj_iload_n dX0_fewestFor_4 rfl ?_
  refine zj_aload_n dX0_fewestFor_5 rfl ?_
  refine zj_getI dX0_fewestFor_6 fl_X0_15 rfl h_o0 ?_
  refine zj_icmp_ge (tgt := 107) dX0_fewestFor_9 (by decide) ?_ ?_
  · refine zj_iload_n dX0_fewestFor_12 rfl ?_
    refine zj_aload_n dX0_fewestFor_13 rfl ?_
    refine zj_getT dX0_fewestFor_14 fl_X0_25 rfl h_o0 ?_
    refine zj_iload_n dX0_fewestFor_17 rfl ?_
    refine zj_iald dX0_fewestFor_18 (zt_0_4 _ h_o0) ?_
    refine zj_iand dX0_fewestFor_19 ?_
    refine zj_istore (lv' := [some (.ref (zb w + o0)), some (.int p1), some (.int l2), some (.int l3), some (.int (p1 &&& (zI s (zT o0 4) (Int32.toNatClampNeg l3)))), none, none]) dX0_fewestFor_20 (by decide) rfl rfl ?_
    refine zj_iload_n dX0_fewestFor_22 rfl ?_
    refine zj_aload_n dX0_fewestFor_23 rfl ?_
    refine zj_getT dX0_fewestFor_24 fl_X0_25 rfl h_o0 ?_
    refine zj_iload_n dX0_fewestFor_27 rfl ?_
    refine zj_iald dX0_fewestFor_28 (zt_0_4 _ h_o0) ?_
    refine zj_iconst dX0_fewestFor_29 zic_m1 ?_
    refine zj_ixor dX0_fewestFor_30 ?_
    refine zj_iand dX0_fewestFor_31 ?_
    refine zj_istore (lv' := [some (.ref (zb w + o0)), some (.int p1), some (.int l2), some (.int l3), some (.int (p1 &&& (zI s (zT o0 4) (Int32.toNatClampNeg l3)))), some (.int (p1 &&& ((zI s (zT o0 4) (Int32.toNatClampNeg l3)) ^^^ (-1)))), none]) dX0_fewestFor_32 (by decide) rfl rfl ?_
    refine zj_iload dX0_fewestFor_34 rfl ?_
    refine zj_if_eq (tgt := 101) dX0_fewestFor_36 (by decide) ?_ ?_
    · refine zj_weak [true, true, true, true, false, false, false] rfl ?_
      exact j_X0_fewestFor_101 hr h_o0 h_rec4
    · refine zj_iload dX0_fewestFor_39 rfl ?_
      refine zj_if_eq (tgt := 101) dX0_fewestFor_41 (by decide) ?_ ?_
      · refine zj_weak [true, true, true, true, false, false, false] rfl ?_
        exact j_X0_fewestFor_101 hr h_o0 h_rec4
      · refine zj_aload_n dX0_fewestFor_44 rfl ?_
        refine zj_getT dX0_fewestFor_45 fl_X0_29 rfl h_o0 ?_
        refine zj_iload dX0_fewestFor_48 rfl ?_
        refine zj_bald dX0_fewestFor_50 (zt_0_5 _ h_o0) ?_
        refine zj_iconst dX0_fewestFor_51 zic_m1 ?_
        refine zj_icmp_eq (tgt := 101) dX0_fewestFor_52 (by decide) ?_ ?_
        · refine zj_weak [true, true, true, true, false, false, false] rfl ?_
          exact j_X0_fewestFor_101 hr h_o0 h_rec4
        · refine zj_aload_n dX0_fewestFor_55 rfl ?_
          refine zj_getT dX0_fewestFor_56 fl_X0_29 rfl h_o0 ?_
          refine zj_iload dX0_fewestFor_59 rfl ?_
          refine zj_bald dX0_fewestFor_61 (zt_0_5 _ h_o0) ?_
          refine zj_iconst dX0_fewestFor_62 zic_m1 ?_
          refine zj_icmp_eq (tgt := 101) dX0_fewestFor_63 (by decide) ?_ ?_
          · refine zj_weak [true, true, true, true, false, false, false] rfl ?_
            exact j_X0_fewestFor_101 hr h_o0 h_rec4
          · refine zj_iconst dX0_fewestFor_66 zic_1 ?_
            refine zj_aload_n dX0_fewestFor_67 rfl ?_
            refine zj_getT dX0_fewestFor_68 fl_X0_29 rfl h_o0 ?_
            refine zj_iload dX0_fewestFor_71 rfl ?_
            refine zj_bald dX0_fewestFor_73 (zt_0_5 _ h_o0) ?_
            refine zj_aload_n dX0_fewestFor_74 rfl ?_
            refine zj_getT dX0_fewestFor_75 fl_X0_29 rfl h_o0 ?_
            refine zj_iload dX0_fewestFor_78 rfl ?_
            refine zj_bald dX0_fewestFor_80 (zt_0_5 _ h_o0) ?_
            refine zj_cSI2 ml_X0_80 (fun a h => c_J9_max_7cf53  h) (Nat.le_of_ble_eq_true rfl) (Nat.le_of_ble_eq_true rfl) dX0_fewestFor_81 (fun r2 s1 => ?_)
            refine zj_iadd dX0_fewestFor_84 ?_
            refine zj_istore (lv' := [some (.ref (zb w + o0)), some (.int p1), some (.int l2), some (.int l3), some (.int (p1 &&& (zI s (zT o0 4) (Int32.toNatClampNeg l3)))), some (.int (p1 &&& ((zI s (zT o0 4) (Int32.toNatClampNeg l3)) ^^^ (-1)))), some (.int ((1 : Int32) + r2))]) dX0_fewestFor_85 (by decide) rfl rfl ?_
            refine zj_iload_n dX0_fewestFor_87 rfl ?_
            refine zj_iconst dX0_fewestFor_88 zic_m1 ?_
            refine zj_icmp_eq (tgt := 98) dX0_fewestFor_89 (by decide) ?_ ?_
            · refine zj_weak [true, true, false, true, false, false, true] rfl ?_
              exact j_X0_fewestFor_98 hr h_o0 h_rec4
            · refine zj_iload dX0_fewestFor_92 rfl ?_
              refine zj_iload_n dX0_fewestFor_94 rfl ?_
              refine zj_icmp_ge (tgt := 101) dX0_fewestFor_95 (by decide) ?_ ?_
              · refine zj_weak [true, true, false, true, false, false, true] rfl ?_
                exact j_X0_fewestFor_98 hr h_o0 h_rec4
              · refine zj_weak [true, true, true, true, false, false, false] rfl ?_
                exact j_X0_fewestFor_101 hr h_o0 h_rec4
  · refine zj_iload_n dX0_fewestFor_107 rfl ?_
    exact zj_iret hr dX0_fewestFor_108
set_option maxRecDepth 100000 in
theorem jl_X0_fewestFor_4 {o0 : Nat} {p1 : Int32} {w : zWC} {x : zCX} (hr : zrt x = (some .int))  (h_o0 : zC o0 = 0) : ∀ (n : Nat) (l2 : Int32) (l3 : Int32) (s : zSt), zJ (zQf w x zeI) w x RX0 cX0_fewestFor 7 1 (lp_X0_fewestFor_4 o0 p1 n l2 l3 s) 4 [some (.ref (zb w + o0)), some (.int p1), some (.int l2), some (.int l3), none, none, none] [] s := by
  intro n
  induction n with
  | zero => intro l2 l3 s; exact zj_none
  | succ n ih => intro l2 l3 s; exact jb_X0_fewestFor_4 hr h_o0 (fun l2 l3 s => ih l2 l3 s)
def m_X0_fewestFor (o0 : Nat) (p1 : Int32) (s : zSt) : Option (Int32 × zSt) :=
  lp_X0_fewestFor_4 o0 p1 zFuel (-1) 0 s
set_option maxRecDepth 100000 in
theorem c_X0_fewestFor {w : zWC} {o0 : Nat} {p1 : Int32} {s : zSt} (h_o0 : zC o0 = 0) {a : Int32 × zSt} (hm : m_X0_fewestFor o0 p1 s = some a) : zCn w 1 yX0_fewestFor cX0_fewestFor 7 (some .int) [.ref (zb w + o0), .int p1] s (zeI a).1 (zeI a).2 :=
  zCn_of (own := RX0) (lv := [some (.ref (zb w + o0)), some (.int p1), none, none, none, none, none]) (by decide +kernel) rfl (Nat.le_of_ble_eq_true rfl) rfl (fun x hr => by
    unfold m_X0_fewestFor
    refine zj_iconst dX0_fewestFor_0 zic_m1 ?_
    refine zj_istore_n (lv' := [some (.ref (zb w + o0)), some (.int p1), some (.int (-1)), none, none, none, none]) dX0_fewestFor_1 rfl (by decide) rfl rfl ?_
    refine zj_iconst dX0_fewestFor_2 zic_0 ?_
    refine zj_istore_n (lv' := [some (.ref (zb w + o0)), some (.int p1), some (.int (-1)), some (.int 0), none, none, none]) dX0_fewestFor_3 rfl (by decide) rfl rfl ?_
    exact jl_X0_fewestFor_4 hr h_o0 zFuel _ _ _) hm
def m_X0_fillFewest_41 (o0 : Nat) (rec9 : Int32 → zSt → Option (zSt)) (l1 : Int32) (t0 : Nat) (t1 : Int32) (t2 : Int32) (s : zSt) : Option (zSt) :=
  (if t1 < 0 ∨ zN t0 ≤ Int32.toNatClampNeg t1 then none else zlt (zsI s t0 (Int32.toNatClampNeg t1) (vp_nar .byte t2.toInt8.toInt32)) (fun s4 => rec9 (l1 + 1) s4))
set_option maxRecDepth 100000 in
theorem j_X0_fillFewest_41 {o0 : Nat} {rec9 : Int32 → zSt → Option (zSt)} {l1 : Int32} {t0 : Nat} {t1 : Int32} {t2 : Int32} {s : zSt} {w : zWC} {x : zCX} (hr : zrt x = none)  (h_o0 : zC o0 = 0) (h_rec9 : ∀ (l1 : Int32) (s : zSt), zJ (zQf w x zeV) w x RX0 cX0_fillFewest 2 2 (rec9 l1 s) 9 [some (.ref (zb w + o0)), some (.int l1)] [] s) (ht0 : zC t0 = 10) : zJ (zQf w x zeV) w x RX0 cX0_fillFewest 2 2 (m_X0_fillFewest_41 o0 rec9 l1 t0 t1 t2 s) 41 [some (.ref (zb w + o0)), some (.int l1)] [.int t2, .int t1, .ref (zb w + t0)] s := by
  unfold m_X0_fillFewest_41
  refine zj_i2b dX0_fillFewest_41 ?_
  refine zj_bast dX0_fillFewest_42 ht0 (fun s4 => ?_)
  refine zj_iinc (v2 := l1 + 1) (lv' := [some (.ref (zb w + o0)), some (.int (l1 + 1))]) dX0_fillFewest_43 rfl (by rw [zic_1]) (by decide) rfl rfl ?_
  refine zj_goto (tgt := 9) dX0_fillFewest_46 (by decide) ?_
  exact h_rec9 _ _
def bd_X0_fillFewest_9 (o0 : Nat) (rec9 : Int32 → zSt → Option (zSt)) (l1 : Int32) (s : zSt) : Option (zSt) :=
  (if l1 < (1 : Int32) <<< ((zI s o0 0) &&& 31) then
  zcl (m_J6_bitCount_0f7a4 l1 s) (fun r3 s2 => (if r3 = 1 then
    m_X0_fillFewest_41 o0 rec9 l1 (zT o0 5) l1 0 s2
    else
    zcl (m_X0_fewestFor o0 l1 s2) (fun r6 s5 => m_X0_fillFewest_41 o0 rec9 l1 (zT o0 5) l1 r6 s5)))
  else
  some s)
def lp_X0_fillFewest_9 (o0 : Nat) : Nat → Int32 → zSt → Option (zSt)
  | 0, _, _ => none
  | n + 1, l1, s => bd_X0_fillFewest_9 o0 (fun l1 s => lp_X0_fillFewest_9 o0 n l1 s) l1 s
set_option maxRecDepth 100000 in
theorem jb_X0_fillFewest_9 {o0 : Nat} {rec9 : Int32 → zSt → Option (zSt)} {l1 : Int32} {s : zSt} {w : zWC} {x : zCX} (hr : zrt x = none)  (h_o0 : zC o0 = 0) (h_rec9 : ∀ (l1 : Int32) (s : zSt), zJ (zQf w x zeV) w x RX0 cX0_fillFewest 2 2 (rec9 l1 s) 9 [some (.ref (zb w + o0)), some (.int l1)] [] s) : zJ (zQf w x zeV) w x RX0 cX0_fillFewest 2 2 (bd_X0_fillFewest_9 o0 rec9 l1 s) 9 [some (.ref (zb w + o0)), some (.int l1)] [] s := by
  unfold bd_X0_fillFewest_9
  refine zj_iload_n dX0_fillFewest_9 rfl ?_
  refine zj_iconst dX0_fillFewest_10 zic_1 ?_
  refine zj_aload_n dX0_fillFewest_11 rfl ?_
  refine zj_getI dX0_fillFewest_12 fl_X0_9 rfl h_o0 ?_
  refine zj_ishl dX0_fillFewest_15 ?_
  refine zj_icmp_ge (tgt := 49) dX0_fillFewest_16 (by decide) ?_ ?_
  · refine zj_aload_n dX0_fillFewest_19 rfl ?_
    refine zj_getT dX0_fillFewest_20 fl_X0_29 rfl h_o0 ?_
    refine zj_iload_n dX0_fillFewest_23 rfl ?_
    refine zj_iload_n dX0_fillFewest_24 rfl ?_
    refine zj_cSI1 ml_X0_74 (fun a h => c_J6_bitCount_0f7a4  h) (Nat.le_of_ble_eq_true rfl) (Nat.le_of_ble_eq_true rfl) dX0_fillFewest_25 (fun r3 s2 => ?_)
    refine zj_iconst dX0_fillFewest_28 zic_1 ?_
    refine zj_icmp_ne (tgt := 36) dX0_fillFewest_29 (by decide) ?_ ?_
    · refine zj_iconst dX0_fillFewest_32 zic_0 ?_
      refine zj_goto (tgt := 41) dX0_fillFewest_33 (by decide) ?_
      exact j_X0_fillFewest_41 hr h_o0 h_rec9 (zt_0_5 _ h_o0)
    · refine zj_aload_n dX0_fillFewest_36 rfl ?_
      refine zj_iload_n dX0_fillFewest_37 rfl ?_
      refine zj_cVI1 ml_X0_86 (fun a h => c_X0_fewestFor h_o0 h) h_o0 rfl (Nat.le_of_ble_eq_true rfl) (Nat.le_of_ble_eq_true rfl) dX0_fillFewest_38 (fun r6 s5 => ?_)
      exact j_X0_fillFewest_41 hr h_o0 h_rec9 (zt_0_5 _ h_o0)
  · exact zj_vret hr dX0_fillFewest_49
set_option maxRecDepth 100000 in
theorem jl_X0_fillFewest_9 {o0 : Nat} {w : zWC} {x : zCX} (hr : zrt x = none)  (h_o0 : zC o0 = 0) : ∀ (n : Nat) (l1 : Int32) (s : zSt), zJ (zQf w x zeV) w x RX0 cX0_fillFewest 2 2 (lp_X0_fillFewest_9 o0 n l1 s) 9 [some (.ref (zb w + o0)), some (.int l1)] [] s := by
  intro n
  induction n with
  | zero => intro l1 s; exact zj_none
  | succ n ih => intro l1 s; exact jb_X0_fillFewest_9 hr h_o0 (fun l1 s => ih l1 s)
def m_X0_fillFewest (o0 : Nat) (s : zSt) : Option (zSt) :=
  (if (0 : Int32) < 0 ∨ zN (zT o0 5) ≤ Int32.toNatClampNeg 0 then none else zlt (zsI s (zT o0 5) (Int32.toNatClampNeg 0) (vp_nar .byte 0)) (fun s1 => lp_X0_fillFewest_9 o0 zFuel 1 s1))
set_option maxRecDepth 100000 in
theorem c_X0_fillFewest {w : zWC} {o0 : Nat} {s : zSt} (h_o0 : zC o0 = 0) {a : zSt} (hm : m_X0_fillFewest o0 s = some a) : zCn w 2 yX0_fillFewest cX0_fillFewest 2 none [.ref (zb w + o0)] s (zeV a).1 (zeV a).2 :=
  zCn_of (own := RX0) (lv := [some (.ref (zb w + o0)), none]) (by decide +kernel) rfl (Nat.le_of_ble_eq_true rfl) rfl (fun x hr => by
    unfold m_X0_fillFewest
    refine zj_aload_n dX0_fillFewest_0 rfl ?_
    refine zj_getT dX0_fillFewest_1 fl_X0_29 rfl h_o0 ?_
    refine zj_iconst dX0_fillFewest_4 zic_0 ?_
    refine zj_iconst dX0_fillFewest_5 zic_0 ?_
    refine zj_bast dX0_fillFewest_6 (zt_0_5 _ h_o0) (fun s1 => ?_)
    refine zj_iconst dX0_fillFewest_7 zic_1 ?_
    refine zj_istore_n (lv' := [some (.ref (zb w + o0)), some (.int 1)]) dX0_fillFewest_8 rfl (by decide) rfl rfl ?_
    exact jl_X0_fillFewest_9 hr h_o0 zFuel _ _) hm
def m_J9_min_7cf53 (p0 : Int32) (p1 : Int32) (s : zSt) : Option (Int32 × zSt) :=
  (if p1 < p0 then
  some (p1, s)
  else
  some (p0, s))
set_option maxRecDepth 100000 in
theorem c_J9_min_7cf53 {w : zWC} {p0 : Int32} {p1 : Int32} {s : zSt}  {a : Int32 × zSt} (hm : m_J9_min_7cf53 p0 p1 s = some a) : zCn w 0 yJ9_min_7cf53 cJ9_min_7cf53 2 (some .int) [.int p0, .int p1] s (zeI a).1 (zeI a).2 :=
  zCn_of (own := RJ9) (lv := [some (.int p0), some (.int p1)]) (by decide +kernel) rfl (Nat.le_of_ble_eq_true rfl) rfl (fun x hr => by
    unfold m_J9_min_7cf53
    refine zj_iload_n dJ9_min_7cf53_0 rfl ?_
    refine zj_iload_n dJ9_min_7cf53_1 rfl ?_
    refine zj_icmp_gt (tgt := 9) dJ9_min_7cf53_2 (by decide) ?_ ?_
    · refine zj_iload_n dJ9_min_7cf53_9 rfl ?_
      exact zj_iret hr dJ9_min_7cf53_10
    · refine zj_iload_n dJ9_min_7cf53_5 rfl ?_
      refine zj_goto (tgt := 10) dJ9_min_7cf53_6 (by decide) ?_
      exact zj_iret hr dJ9_min_7cf53_10) hm
def m_X1_determinant_91 (fr : Nat → Int32 → Int32 → Int32 → Int32 → zSt → Option (Int64 × zSt)) (o0 : Nat) (p1 : Int32) (p2 : Int32) (p3 : Int32) (p4 : Int32) (rec16 : Int64 → Int64 → Int32 → zSt → Option (Int64 × zSt)) (l5 : Int64) (l7 : Int64) (l9 : Int32) (s : zSt) : Option (Int64 × zSt) :=
  rec16 l5 l7 (l9 + 1) s
set_option maxRecDepth 100000 in
theorem j_X1_determinant_91 {o0 : Nat} {p1 : Int32} {p2 : Int32} {p3 : Int32} {p4 : Int32} {rec16 : Int64 → Int64 → Int32 → zSt → Option (Int64 × zSt)} {l5 : Int64} {l7 : Int64} {l9 : Int32} {s : zSt} {w : zWC} {x : zCX} {lev : Nat} (hr : zrt x = (some .long)) {lev0 : Nat} (hlv : lev0 + 1 ≤ lev) {fr : Nat → Int32 → Int32 → Int32 → Int32 → zSt → Option (Int64 × zSt)} (hfr : ∀ (o0 : Nat) (p1 : Int32) (p2 : Int32) (p3 : Int32) (p4 : Int32) (s : zSt) (a : Int64 × zSt), zC o0 = 12 → fr o0 p1 p2 p3 p4 s = some a → zCn w lev0 yX1_determinant cX1_determinant 12 (some .long) [.ref (zb w + o0), .int p1, .int p2, .int p3, .int p4] s (zeL a).1 (zeL a).2) (hle : 0 ≤ lev) (h_o0 : zC o0 = 12) (h_rec16 : ∀ (l5 : Int64) (l7 : Int64) (l9 : Int32) (s : zSt), zJ (zQf w x zeL) w x RX1 cX1_determinant 12 lev (rec16 l5 l7 l9 s) 16 [some (.ref (zb w + o0)), some (.int p1), some (.int p2), some (.int p3), some (.int p4), some (.long l5), none, some (.long l7), none, some (.int l9), none, none] [] s) : zJ (zQf w x zeL) w x RX1 cX1_determinant 12 lev (m_X1_determinant_91 fr o0 p1 p2 p3 p4 rec16 l5 l7 l9 s) 91 [some (.ref (zb w + o0)), some (.int p1), some (.int p2), some (.int p3), some (.int p4), some (.long l5), none, some (.long l7), none, some (.int l9), none, none] [] s := by
  unfold m_X1_determinant_91
  refine zj_iinc (v2 := l9 + 1) (lv' := [some (.ref (zb w + o0)), some (.int p1), some (.int p2), some (.int p3), some (.int p4), some (.long l5), none, some (.long l7), none, some (.int (l9 + 1)), none, none]) dX1_determinant_91 rfl (by rw [zic_1]) (by decide) rfl rfl ?_
  refine zj_goto (tgt := 16) dX1_determinant_94 (by decide) ?_
  exact h_rec16 _ _ _ _
def m_X1_determinant_86 (fr : Nat → Int32 → Int32 → Int32 → Int32 → zSt → Option (Int64 × zSt)) (o0 : Nat) (p1 : Int32) (p2 : Int32) (p3 : Int32) (p4 : Int32) (rec16 : Int64 → Int64 → Int32 → zSt → Option (Int64 × zSt)) (l5 : Int64) (l7 : Int64) (l9 : Int32) (s : zSt) : Option (Int64 × zSt) :=
  m_X1_determinant_91 fr o0 p1 p2 p3 p4 rec16 l5 (-l7) l9 s
set_option maxRecDepth 100000 in
theorem j_X1_determinant_86 {o0 : Nat} {p1 : Int32} {p2 : Int32} {p3 : Int32} {p4 : Int32} {rec16 : Int64 → Int64 → Int32 → zSt → Option (Int64 × zSt)} {l5 : Int64} {l7 : Int64} {l9 : Int32} {s : zSt} {w : zWC} {x : zCX} {lev : Nat} (hr : zrt x = (some .long)) {lev0 : Nat} (hlv : lev0 + 1 ≤ lev) {fr : Nat → Int32 → Int32 → Int32 → Int32 → zSt → Option (Int64 × zSt)} (hfr : ∀ (o0 : Nat) (p1 : Int32) (p2 : Int32) (p3 : Int32) (p4 : Int32) (s : zSt) (a : Int64 × zSt), zC o0 = 12 → fr o0 p1 p2 p3 p4 s = some a → zCn w lev0 yX1_determinant cX1_determinant 12 (some .long) [.ref (zb w + o0), .int p1, .int p2, .int p3, .int p4] s (zeL a).1 (zeL a).2) (hle : 0 ≤ lev) (h_o0 : zC o0 = 12) (h_rec16 : ∀ (l5 : Int64) (l7 : Int64) (l9 : Int32) (s : zSt), zJ (zQf w x zeL) w x RX1 cX1_determinant 12 lev (rec16 l5 l7 l9 s) 16 [some (.ref (zb w + o0)), some (.int p1), some (.int p2), some (.int p3), some (.int p4), some (.long l5), none, some (.long l7), none, some (.int l9), none, none] [] s) : zJ (zQf w x zeL) w x RX1 cX1_determinant 12 lev (m_X1_determinant_86 fr o0 p1 p2 p3 p4 rec16 l5 l7 l9 s) 86 [some (.ref (zb w + o0)), some (.int p1), some (.int p2), some (.int p3), some (.int p4), some (.long l5), none, some (.long l7), none, some (.int l9), none, none] [] s := by
  unfold m_X1_determinant_86
  refine zj_lload dX1_determinant_86 rfl ?_
  refine zj_lneg dX1_determinant_88 ?_
  refine zj_lstore (lv' := [some (.ref (zb w + o0)), some (.int p1), some (.int p2), some (.int p3), some (.int p4), some (.long l5), none, some (.long (-l7)), none, some (.int l9), none, none]) dX1_determinant_89 (by decide) rfl rfl ?_
  exact j_X1_determinant_91 hr hlv hfr hle h_o0 h_rec16
def m_X1_determinant_48 (fr : Nat → Int32 → Int32 → Int32 → Int32 → zSt → Option (Int64 × zSt)) (o0 : Nat) (p1 : Int32) (p2 : Int32) (p3 : Int32) (p4 : Int32) (rec16 : Int64 → Int64 → Int32 → zSt → Option (Int64 × zSt)) (l5 : Int64) (l7 : Int64) (l9 : Int32) (t0 : Nat) (t1 : Int32) (t2 : Int32) (s : zSt) : Option (Int64 × zSt) :=
  (if t1 + t2 < 0 ∨ zN t0 ≤ Int32.toNatClampNeg (t1 + t2) then none else (if zL s t0 (Int32.toNatClampNeg (t1 + t2)) = 0 then
  m_X1_determinant_86 fr o0 p1 p2 p3 p4 rec16 l5 l7 l9 s
  else
  zcl (fr o0 p1 (p2 + 1) (p3 ||| ((1 : Int32) <<< (l9 &&& 31))) p4 s) (fun r2 s1 => m_X1_determinant_86 fr o0 p1 p2 p3 p4 rec16 (l5 + ((l7 * (zL s t0 (Int32.toNatClampNeg (t1 + t2)))) * r2)) l7 l9 s1)))
set_option maxRecDepth 100000 in
theorem j_X1_determinant_48 {o0 : Nat} {p1 : Int32} {p2 : Int32} {p3 : Int32} {p4 : Int32} {rec16 : Int64 → Int64 → Int32 → zSt → Option (Int64 × zSt)} {l5 : Int64} {l7 : Int64} {l9 : Int32} {t0 : Nat} {t1 : Int32} {t2 : Int32} {s : zSt} {w : zWC} {x : zCX} {lev : Nat} (hr : zrt x = (some .long)) {lev0 : Nat} (hlv : lev0 + 1 ≤ lev) {fr : Nat → Int32 → Int32 → Int32 → Int32 → zSt → Option (Int64 × zSt)} (hfr : ∀ (o0 : Nat) (p1 : Int32) (p2 : Int32) (p3 : Int32) (p4 : Int32) (s : zSt) (a : Int64 × zSt), zC o0 = 12 → fr o0 p1 p2 p3 p4 s = some a → zCn w lev0 yX1_determinant cX1_determinant 12 (some .long) [.ref (zb w + o0), .int p1, .int p2, .int p3, .int p4] s (zeL a).1 (zeL a).2) (hle : 0 ≤ lev) (h_o0 : zC o0 = 12) (h_rec16 : ∀ (l5 : Int64) (l7 : Int64) (l9 : Int32) (s : zSt), zJ (zQf w x zeL) w x RX1 cX1_determinant 12 lev (rec16 l5 l7 l9 s) 16 [some (.ref (zb w + o0)), some (.int p1), some (.int p2), some (.int p3), some (.int p4), some (.long l5), none, some (.long l7), none, some (.int l9), none, none] [] s) (ht0 : zC t0 = 12) : zJ (zQf w x zeL) w x RX1 cX1_determinant 12 lev (m_X1_determinant_48 fr o0 p1 p2 p3 p4 rec16 l5 l7 l9 t0 t1 t2 s) 48 [some (.ref (zb w + o0)), some (.int p1), some (.int p2), some (.int p3), some (.int p4), some (.long l5), none, some (.long l7), none, some (.int l9), none, none] [.int t2, .int t1, .ref (zb w + t0)] s := by
  unfold m_X1_determinant_48
  refine zj_iadd dX1_determinant_48 ?_
  refine zj_lald dX1_determinant_49 ht0 ?_
  refine zj_lstore (lv' := [some (.ref (zb w + o0)), some (.int p1), some (.int p2), some (.int p3), some (.int p4), some (.long l5), none, some (.long l7), none, some (.int l9), some (.long (zL s t0 (Int32.toNatClampNeg (t1 + t2)))), none]) dX1_determinant_50 (by decide) rfl rfl ?_
  refine zj_lload dX1_determinant_52 rfl ?_
  refine zj_lconst (v := 0) dX1_determinant_54 rfl ?_
  refine zj_lcmp_eq (tgt := 86) dX1_determinant_55 dX1_determinant_56 (by decide) ?_ ?_
  · refine zj_weak [true, true, true, true, true, true, false, true, false, true, false, false] rfl ?_
    exact j_X1_determinant_86 hr hlv hfr hle h_o0 h_rec16
  · refine zj_lload dX1_determinant_59 rfl ?_
    refine zj_lload dX1_determinant_61 rfl ?_
    refine zj_lload dX1_determinant_63 rfl ?_
    refine zj_lmul dX1_determinant_65 ?_
    refine zj_aload_n dX1_determinant_66 rfl ?_
    refine zj_iload_n dX1_determinant_67 rfl ?_
    refine zj_iload_n dX1_determinant_68 rfl ?_
    refine zj_iconst dX1_determinant_69 zic_1 ?_
    refine zj_iadd dX1_determinant_70 ?_
    refine zj_iload_n dX1_determinant_71 rfl ?_
    refine zj_iconst dX1_determinant_72 zic_1 ?_
    refine zj_iload dX1_determinant_73 rfl ?_
    refine zj_ishl dX1_determinant_75 ?_
    refine zj_ior dX1_determinant_76 ?_
    refine zj_iload dX1_determinant_77 rfl ?_
    refine zj_cSL5 ml_X1_43 (fun a h => hfr _ _ _ _ _ _ _ h_o0 h) hlv (Nat.le_of_ble_eq_true rfl) dX1_determinant_79 (fun r2 s1 => ?_)
    refine zj_lmul dX1_determinant_82 ?_
    refine zj_ladd dX1_determinant_83 ?_
    refine zj_lstore (lv' := [some (.ref (zb w + o0)), some (.int p1), some (.int p2), some (.int p3), some (.int p4), some (.long (l5 + ((l7 * (zL s t0 (Int32.toNatClampNeg (t1 + t2)))) * r2))), none, some (.long l7), none, some (.int l9), some (.long (zL s t0 (Int32.toNatClampNeg (t1 + t2)))), none]) dX1_determinant_84 (by decide) rfl rfl ?_
    refine zj_weak [true, true, true, true, true, true, false, true, false, true, false, false] rfl ?_
    exact j_X1_determinant_86 hr hlv hfr hle h_o0 h_rec16
def bd_X1_determinant_16 (fr : Nat → Int32 → Int32 → Int32 → Int32 → zSt → Option (Int64 × zSt)) (o0 : Nat) (p1 : Int32) (p2 : Int32) (p3 : Int32) (p4 : Int32) (rec16 : Int64 → Int64 → Int32 → zSt → Option (Int64 × zSt)) (l5 : Int64) (l7 : Int64) (l9 : Int32) (s : zSt) : Option (Int64 × zSt) :=
  (if l9 < p1 then
  (if (p3 >>> (l9 &&& 31)) &&& 1 = 0 then
    (if l9 = p4 then
      m_X1_determinant_48 fr o0 p1 p2 p3 p4 rec16 l5 l7 l9 o0 (p2 * 5) 4 s
      else
      m_X1_determinant_48 fr o0 p1 p2 p3 p4 rec16 l5 l7 l9 o0 (p2 * 5) l9 s)
    else
    m_X1_determinant_91 fr o0 p1 p2 p3 p4 rec16 l5 l7 l9 s)
  else
  some (l5, s))
def lp_X1_determinant_16 (fr : Nat → Int32 → Int32 → Int32 → Int32 → zSt → Option (Int64 × zSt)) (o0 : Nat) (p1 : Int32) (p2 : Int32) (p3 : Int32) (p4 : Int32) : Nat → Int64 → Int64 → Int32 → zSt → Option (Int64 × zSt)
  | 0, _, _, _, _ => none
  | n + 1, l5, l7, l9, s => bd_X1_determinant_16 fr o0 p1 p2 p3 p4 (fun l5 l7 l9 s => lp_X1_determinant_16 fr o0 p1 p2 p3 p4 n l5 l7 l9 s) l5 l7 l9 s
set_option maxRecDepth 100000 in
theorem jb_X1_determinant_16 {o0 : Nat} {p1 : Int32} {p2 : Int32} {p3 : Int32} {p4 : Int32} {rec16 : Int64 → Int64 → Int32 → zSt → Option (Int64 × zSt)} {l5 : Int64} {l7 : Int64} {l9 : Int32} {s : zSt} {w : zWC} {x : zCX} {lev : Nat} (hr : zrt x = (some .long)) {lev0 : Nat} (hlv : lev0 + 1 ≤ lev) {fr : Nat → Int32 → Int32 → Int32 → Int32 → zSt → Option (Int64 × zSt)} (hfr : ∀ (o0 : Nat) (p1 : Int32) (p2 : Int32) (p3 : Int32) (p4 : Int32) (s : zSt) (a : Int64 × zSt), zC o0 = 12 → fr o0 p1 p2 p3 p4 s = some a → zCn w lev0 yX1_determinant cX1_determinant 12 (some .long) [.ref (zb w + o0), .int p1, .int p2, .int p3, .int p4] s (zeL a).1 (zeL a).2) (hle : 0 ≤ lev) (h_o0 : zC o0 = 12) (h_rec16 : ∀ (l5 : Int64) (l7 : Int64) (l9 : Int32) (s : zSt), zJ (zQf w x zeL) w x RX1 cX1_determinant 12 lev (rec16 l5 l7 l9 s) 16 [some (.ref (zb w + o0)), some (.int p1), some (.int p2), some (.int p3), some (.int p4), some (.long l5), none, some (.long l7), none, some (.int l9), none, none] [] s) : zJ (zQf w x zeL) w x RX1 cX1_determinant 12 lev (bd_X1_determinant_16 fr o0 p1 p2 p3 p4 rec16 l5 l7 l9 s) 16 [some (.ref (zb w + o0)), some (.int p1), some (.int p2), some (.int p3), some (.int p4), some (.long l5), none, some (.long l7), none, some (.int l9), none, none] [] s := by
  unfold bd_X1_determinant_16
  refine zj_iload dX1_determinant_16 rfl ?_
  refine zj_iload_n dX1_determinant_18 rfl ?_
  refine zj_icmp_ge (tgt := 97) dX1_determinant_19 (by decide) ?_ ?_
  · refine zj_iload_n dX1_determinant_22 rfl ?_
    refine zj_iload dX1_determinant_23 rfl ?_
    refine zj_ishr dX1_determinant_25 ?_
    refine zj_iconst dX1_determinant_26 zic_1 ?_
    refine zj_iand dX1_determinant_27 ?_
    refine zj_if_ne (tgt := 91) dX1_determinant_28 (by decide) ?_ ?_
    · refine zj_aload_n dX1_determinant_31 rfl ?_
      refine zj_iload_n dX1_determinant_32 rfl ?_
      refine zj_iconst dX1_determinant_33 zic_5 ?_
      refine zj_imul dX1_determinant_34 ?_
      refine zj_iload dX1_determinant_35 rfl ?_
      refine zj_iload dX1_determinant_37 rfl ?_
      refine zj_icmp_ne (tgt := 46) dX1_determinant_39 (by decide) ?_ ?_
      · refine zj_iconst dX1_determinant_42 zic_4 ?_
        refine zj_goto (tgt := 48) dX1_determinant_43 (by decide) ?_
        exact j_X1_determinant_48 hr hlv hfr hle h_o0 h_rec16 h_o0
      · refine zj_iload dX1_determinant_46 rfl ?_
        exact j_X1_determinant_48 hr hlv hfr hle h_o0 h_rec16 h_o0
    · exact j_X1_determinant_91 hr hlv hfr hle h_o0 h_rec16
  · refine zj_lload dX1_determinant_97 rfl ?_
    exact zj_lret hr dX1_determinant_99
set_option maxRecDepth 100000 in
theorem jl_X1_determinant_16 {o0 : Nat} {p1 : Int32} {p2 : Int32} {p3 : Int32} {p4 : Int32} {w : zWC} {x : zCX} {lev : Nat} (hr : zrt x = (some .long)) {lev0 : Nat} (hlv : lev0 + 1 ≤ lev) {fr : Nat → Int32 → Int32 → Int32 → Int32 → zSt → Option (Int64 × zSt)} (hfr : ∀ (o0 : Nat) (p1 : Int32) (p2 : Int32) (p3 : Int32) (p4 : Int32) (s : zSt) (a : Int64 × zSt), zC o0 = 12 → fr o0 p1 p2 p3 p4 s = some a → zCn w lev0 yX1_determinant cX1_determinant 12 (some .long) [.ref (zb w + o0), .int p1, .int p2, .int p3, .int p4] s (zeL a).1 (zeL a).2) (hle : 0 ≤ lev) (h_o0 : zC o0 = 12) : ∀ (n : Nat) (l5 : Int64) (l7 : Int64) (l9 : Int32) (s : zSt), zJ (zQf w x zeL) w x RX1 cX1_determinant 12 lev (lp_X1_determinant_16 fr o0 p1 p2 p3 p4 n l5 l7 l9 s) 16 [some (.ref (zb w + o0)), some (.int p1), some (.int p2), some (.int p3), some (.int p4), some (.long l5), none, some (.long l7), none, some (.int l9), none, none] [] s := by
  intro n
  induction n with
  | zero => intro l5 l7 l9 s; exact zj_none
  | succ n ih => intro l5 l7 l9 s; exact jb_X1_determinant_16 hr hlv hfr hle h_o0 (fun l5 l7 l9 s => ih l5 l7 l9 s)
def f_X1_determinant (fr : Nat → Int32 → Int32 → Int32 → Int32 → zSt → Option (Int64 × zSt)) (o0 : Nat) (p1 : Int32) (p2 : Int32) (p3 : Int32) (p4 : Int32) (s : zSt) : Option (Int64 × zSt) :=
  (if p2 < p1 then
  lp_X1_determinant_16 fr o0 p1 p2 p3 p4 zFuel 0 1 0 s
  else
  some (1, s))
set_option maxRecDepth 100000 in
theorem cf_X1_determinant {w : zWC} {lev : Nat} {lev0 : Nat} (hlv : lev0 + 1 ≤ lev) {fr : Nat → Int32 → Int32 → Int32 → Int32 → zSt → Option (Int64 × zSt)} (hfr : ∀ (o0 : Nat) (p1 : Int32) (p2 : Int32) (p3 : Int32) (p4 : Int32) (s : zSt) (a : Int64 × zSt), zC o0 = 12 → fr o0 p1 p2 p3 p4 s = some a → zCn w lev0 yX1_determinant cX1_determinant 12 (some .long) [.ref (zb w + o0), .int p1, .int p2, .int p3, .int p4] s (zeL a).1 (zeL a).2) (hle : 0 ≤ lev) {o0 : Nat} {p1 : Int32} {p2 : Int32} {p3 : Int32} {p4 : Int32} {s : zSt} (h_o0 : zC o0 = 12) {a : Int64 × zSt} (hm : f_X1_determinant fr o0 p1 p2 p3 p4 s = some a) : zCn w lev yX1_determinant cX1_determinant 12 (some .long) [.ref (zb w + o0), .int p1, .int p2, .int p3, .int p4] s (zeL a).1 (zeL a).2 :=
  zCn_of (own := RX1) (lv := [some (.ref (zb w + o0)), some (.int p1), some (.int p2), some (.int p3), some (.int p4), none, none, none, none, none, none, none]) (by decide +kernel) rfl (Nat.le_of_ble_eq_true rfl) rfl (fun x hr => by
    unfold f_X1_determinant
    refine zj_iload_n dX1_determinant_0 rfl ?_
    refine zj_iload_n dX1_determinant_1 rfl ?_
    refine zj_icmp_lt (tgt := 7) dX1_determinant_2 (by decide) ?_ ?_
    · refine zj_lconst (v := 0) dX1_determinant_7 rfl ?_
      refine zj_lstore (lv' := [some (.ref (zb w + o0)), some (.int p1), some (.int p2), some (.int p3), some (.int p4), some (.long 0), none, none, none, none, none, none]) dX1_determinant_8 (by decide) rfl rfl ?_
      refine zj_lconst (v := 1) dX1_determinant_10 rfl ?_
      refine zj_lstore (lv' := [some (.ref (zb w + o0)), some (.int p1), some (.int p2), some (.int p3), some (.int p4), some (.long 0), none, some (.long 1), none, none, none, none]) dX1_determinant_11 (by decide) rfl rfl ?_
      refine zj_iconst dX1_determinant_13 zic_0 ?_
      refine zj_istore (lv' := [some (.ref (zb w + o0)), some (.int p1), some (.int p2), some (.int p3), some (.int p4), some (.long 0), none, some (.long 1), none, some (.int 0), none, none]) dX1_determinant_14 (by decide) rfl rfl ?_
      exact jl_X1_determinant_16 hr hlv hfr hle h_o0 zFuel _ _ _ _
    · refine zj_lconst (v := 1) dX1_determinant_5 rfl ?_
      exact zj_lret hr dX1_determinant_6) hm
def m_X1_determinant : Nat → Nat → Int32 → Int32 → Int32 → Int32 → zSt → Option (Int64 × zSt)
  | 0, _, _, _, _, _, _ => none
  | d + 1, o0, p1, p2, p3, p4, s => f_X1_determinant (m_X1_determinant d) o0 p1 p2 p3 p4 s
set_option maxRecDepth 100000 in
theorem cd_X1_determinant {w : zWC} : ∀ (d : Nat) {o0 : Nat} {p1 : Int32} {p2 : Int32} {p3 : Int32} {p4 : Int32} {s : zSt} (h_o0 : zC o0 = 12) {a : Int64 × zSt}, m_X1_determinant d o0 p1 p2 p3 p4 s = some a → zCn w d yX1_determinant cX1_determinant 12 (some .long) [.ref (zb w + o0), .int p1, .int p2, .int p3, .int p4] s (zeL a).1 (zeL a).2 := by
  intro d
  induction d with
  | zero => intro o0 p1 p2 p3 p4 s h_o0 a hm; cases hm
  | succ d ih =>
    intro o0 p1 p2 p3 p4 s h_o0 a hm
    exact cf_X1_determinant (lev0 := d) (Nat.le_refl _) (fun o0 p1 p2 p3 p4 s a h_o0 h => ih h_o0 h) (Nat.zero_le _) h_o0 hm
set_option maxRecDepth 100000 in
theorem c_X1_determinant {w : zWC} {o0 : Nat} {p1 : Int32} {p2 : Int32} {p3 : Int32} {p4 : Int32} {s : zSt} (h_o0 : zC o0 = 12) {a : Int64 × zSt} (hm : m_X1_determinant 8 o0 p1 p2 p3 p4 s = some a) : zCn w 8 yX1_determinant cX1_determinant 12 (some .long) [.ref (zb w + o0), .int p1, .int p2, .int p3, .int p4] s (zeL a).1 (zeL a).2 := cd_X1_determinant 8 h_o0 hm
