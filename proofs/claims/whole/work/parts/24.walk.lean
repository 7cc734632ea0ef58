def m_X9_eOf_111 (o0 : Nat) (p1 : Int32) (o2 : Nat) (rec10 : Int32 → Int32 → zSt → Option (Int32 × zSt)) (l3 : Int32) (l4 : Int32) (s : zSt) : Option (Int32 × zSt) :=
  rec10 l3 (l4 + 1) s
set_option maxRecDepth 100000 in
theorem j_X9_eOf_111 {o0 : Nat} {p1 : Int32} {o2 : Nat} {rec10 : Int32 → Int32 → zSt → Option (Int32 × zSt)} {l3 : Int32} {l4 : Int32} {s : zSt} {w : zWC} {x : zCX} (hr : zrt x = (some .int))  (h_o0 : zC o0 = 9) (h_o2 : zC o2 = 11) (h_rec10 : ∀ (l3 : Int32) (l4 : Int32) (s : zSt), zJ (zQf w x zeI) w x RX9 cX9_eOf 5 1 (rec10 l3 l4 s) 10 [some (.ref (zb w + o0)), some (.int p1), some (.ref (zb w + o2)), some (.int l3), some (.int l4)] [] s) : zJ (zQf w x zeI) w x RX9 cX9_eOf 5 1 (m_X9_eOf_111 o0 p1 o2 rec10 l3 l4 s) 111 [some (.ref (zb w + o0)), some (.int p1), some (.ref (zb w + o2)), some (.int l3), some (.int l4)] [] s := by
  unfold m_X9_eOf_111
  refine zj_iinc (v2 := l4 + 1) (lv' := [some (.ref (zb w + o0)), some (.int p1), some (.ref (zb w + o2)), some (.int l3), some (.int (l4 + 1))]) dX9_eOf_111 rfl (by rw [zic_1]) (by decide) rfl rfl ?_
  refine zj_goto (tgt := 10) dX9_eOf_114 (by decide) ?_
  exact h_rec10 _ _ _
def m_X9_eOf_69 (o0 : Nat) (p1 : Int32) (o2 : Nat) (rec10 : Int32 → Int32 → zSt → Option (Int32 × zSt)) (l3 : Int32) (l4 : Int32) (t0 : Nat) (t1 : Int32) (t2 : Int32) (s : zSt) : Option (Int32 × zSt) :=
  (if t1 < 0 ∨ zN t0 ≤ Int32.toNatClampNeg t1 then none else zlt (zsI s t0 (Int32.toNatClampNeg t1) t2) (fun s1 => m_X9_eOf_111 o0 p1 o2 rec10 (l3 + 1) l4 s1))
set_option maxRecDepth 100000 in
theorem j_X9_eOf_69 {o0 : Nat} {p1 : Int32} {o2 : Nat} {rec10 : Int32 → Int32 → zSt → Option (Int32 × zSt)} {l3 : Int32} {l4 : Int32} {t0 : Nat} {t1 : Int32} {t2 : Int32} {s : zSt} {w : zWC} {x : zCX} (hr : zrt x = (some .int))  (h_o0 : zC o0 = 9) (h_o2 : zC o2 = 11) (h_rec10 : ∀ (l3 : Int32) (l4 : Int32) (s : zSt), zJ (zQf w x zeI) w x RX9 cX9_eOf 5 1 (rec10 l3 l4 s) 10 [some (.ref (zb w + o0)), some (.int p1), some (.ref (zb w + o2)), some (.int l3), some (.int l4)] [] s) (ht0 : zC t0 = 11) : zJ (zQf w x zeI) w x RX9 cX9_eOf 5 1 (m_X9_eOf_69 o0 p1 o2 rec10 l3 l4 t0 t1 t2 s) 69 [some (.ref (zb w + o0)), some (.int p1), some (.ref (zb w + o2)), some (.int l3), some (.int l4)] [.int t2, .int t1, .ref (zb w + t0)] s := by
  unfold m_X9_eOf_69
  refine zj_iast dX9_eOf_69 ht0 (fun s1 => ?_)
  refine zj_iinc (v2 := l3 + 1) (lv' := [some (.ref (zb w + o0)), some (.int p1), some (.ref (zb w + o2)), some (.int (l3 + 1)), some (.int l4)]) dX9_eOf_70 rfl (by rw [zic_1]) (by decide) rfl rfl ?_
  refine zj_goto (tgt := 111) dX9_eOf_73 (by decide) ?_
  exact j_X9_eOf_111 hr h_o0 h_o2 h_rec10
def bd_X9_eOf_10 (o0 : Nat) (p1 : Int32) (o2 : Nat) (rec10 : Int32 → Int32 → zSt → Option (Int32 × zSt)) (l3 : Int32) (l4 : Int32) (s : zSt) : Option (Int32 × zSt) :=
  (if p1 + 1 < 0 ∨ zN (zT o0 57) ≤ Int32.toNatClampNeg (p1 + 1) then none else (if l4 < zI s (zT o0 57) (Int32.toNatClampNeg (p1 + 1)) then
  (if l4 < 0 ∨ zN (zT o0 55) ≤ Int32.toNatClampNeg l4 then none else (if zI s (zT o0 55) (Int32.toNatClampNeg l4) < 20 then
    (if l4 < 0 ∨ zN (zT o0 55) ≤ Int32.toNatClampNeg l4 then none else (if zI s (zT o0 55) (Int32.toNatClampNeg l4) = 0 then
      (if l4 < 0 ∨ zN (zT o0 56) ≤ Int32.toNatClampNeg l4 then none else m_X9_eOf_69 o0 p1 o2 rec10 l3 l4 (zT o0 60) l3 (zI s (zT o0 56) (Int32.toNatClampNeg l4)) s)
      else
      (if l4 < 0 ∨ zN (zT o0 56) ≤ Int32.toNatClampNeg l4 then none else (if zI s (zT o0 56) (Int32.toNatClampNeg l4) < 0 ∨ zN o2 ≤ Int32.toNatClampNeg (zI s (zT o0 56) (Int32.toNatClampNeg l4)) then none else m_X9_eOf_69 o0 p1 o2 rec10 l3 l4 (zT o0 60) l3 (zI s o2 (Int32.toNatClampNeg (zI s (zT o0 56) (Int32.toNatClampNeg l4)))) s))))
    else
    (if l4 < 0 ∨ zN (zT o0 55) ≤ Int32.toNatClampNeg l4 then none else (if (l3 + (-1)) - 1 < 0 ∨ zN (zT o0 60) ≤ Int32.toNatClampNeg ((l3 + (-1)) - 1) then none else (if l3 + (-1) < 0 ∨ zN (zT o0 60) ≤ Int32.toNatClampNeg (l3 + (-1)) then none else zcl (m_X9_worked (zI s (zT o0 55) (Int32.toNatClampNeg l4)) (zI s (zT o0 60) (Int32.toNatClampNeg ((l3 + (-1)) - 1))) (zI s (zT o0 60) (Int32.toNatClampNeg (l3 + (-1)))) s) (fun r3 s2 => (if (l3 + (-1)) - 1 < 0 ∨ zN (zT o0 60) ≤ Int32.toNatClampNeg ((l3 + (-1)) - 1) then none else zlt (zsI s2 (zT o0 60) (Int32.toNatClampNeg ((l3 + (-1)) - 1)) r3) (fun s4 => m_X9_eOf_111 o0 p1 o2 rec10 (l3 + (-1)) l4 s4))))))))
  else
  (if (0 : Int32) < 0 ∨ zN (zT o0 60) ≤ Int32.toNatClampNeg 0 then none else some (zI s (zT o0 60) (Int32.toNatClampNeg 0), s))))
def lp_X9_eOf_10 (o0 : Nat) (p1 : Int32) (o2 : Nat) : Nat → Int32 → Int32 → zSt → Option (Int32 × zSt)
  | 0, _, _, _ => none
  | n + 1, l3, l4, s => bd_X9_eOf_10 o0 p1 o2 (fun l3 l4 s => lp_X9_eOf_10 o0 p1 o2 n l3 l4 s) l3 l4 s
set_option maxRecDepth 100000 in
theorem jb_X9_eOf_10 {o0 : Nat} {p1 : Int32} {o2 : Nat} {rec10 : Int32 → Int32 → zSt → Option (Int32 × zSt)} {l3 : Int32} {l4 : Int32} {s : zSt} {w : zWC} {x : zCX} (hr : zrt x = (some .int))  (h_o0 : zC o0 = 9) (h_o2 : zC o2 = 11) (h_rec10 : ∀ (l3 : Int32) (l4 : Int32) (s : zSt), zJ (zQf w x zeI) w x RX9 cX9_eOf 5 1 (rec10 l3 l4 s) 10 [some (.ref (zb w + o0)), some (.int p1), some (.ref (zb w + o2)), some (.int l3), some (.int l4)] [] s) : zJ (zQf w x zeI) w x RX9 cX9_eOf 5 1 (bd_X9_eOf_10 o0 p1 o2 rec10 l3 l4 s) 10 [some (.ref (zb w + o0)), some (.int p1), some (.ref (zb w + o2)), some (.int l3), some (.int l4)] [] s := by
  unfold bd_X9_eOf_10
  refine zj_iload dX9_eOf_10 rfl ?_
  refine zj_aload_n dX9_eOf_12 rfl ?_
  refine zj_getT dX9_eOf_13 fl_X9_121 rfl h_o0 ?_
  refine zj_iload_n dX9_eOf_16 rfl ?_
  refine zj_iconst dX9_eOf_17 zic_1 ?_
  refine zj_iadd dX9_eOf_18 ?_
  refine zj_iald dX9_eOf_19 (zt_9_57 _ h_o0) ?_
  refine zj_icmp_ge (tgt := 117) dX9_eOf_20 (by decide) ?_ ?_
  · refine zj_aload_n dX9_eOf_23 rfl ?_
    refine zj_getT dX9_eOf_24 fl_X9_115 rfl h_o0 ?_
    refine zj_iload dX9_eOf_27 rfl ?_
    refine zj_iald dX9_eOf_29 (zt_9_55 _ h_o0) ?_
    refine zj_bipush dX9_eOf_30 zbi_20 ?_
    refine zj_icmp_ge (tgt := 76) dX9_eOf_32 (by decide) ?_ ?_
    · refine zj_aload_n dX9_eOf_35 rfl ?_
      refine zj_getT dX9_eOf_36 fl_X9_130 rfl h_o0 ?_
      refine zj_iload_n dX9_eOf_39 rfl ?_
      refine zj_aload_n dX9_eOf_40 rfl ?_
      refine zj_getT dX9_eOf_41 fl_X9_115 rfl h_o0 ?_
      refine zj_iload dX9_eOf_44 rfl ?_
      refine zj_iald dX9_eOf_46 (zt_9_55 _ h_o0) ?_
      refine zj_if_ne (tgt := 60) dX9_eOf_47 (by decide) ?_ ?_
      · refine zj_aload_n dX9_eOf_50 rfl ?_
        refine zj_getT dX9_eOf_51 fl_X9_118 rfl h_o0 ?_
        refine zj_iload dX9_eOf_54 rfl ?_
        refine zj_iald dX9_eOf_56 (zt_9_56 _ h_o0) ?_
        refine zj_goto (tgt := 69) dX9_eOf_57 (by decide) ?_
        exact j_X9_eOf_69 hr h_o0 h_o2 h_rec10 (zt_9_60 _ h_o0)
      · refine zj_aload_n dX9_eOf_60 rfl ?_
        refine zj_aload_n dX9_eOf_61 rfl ?_
        refine zj_getT dX9_eOf_62 fl_X9_118 rfl h_o0 ?_
        refine zj_iload dX9_eOf_65 rfl ?_
        refine zj_iald dX9_eOf_67 (zt_9_56 _ h_o0) ?_
        refine zj_iald dX9_eOf_68 h_o2 ?_
        exact j_X9_eOf_69 hr h_o0 h_o2 h_rec10 (zt_9_60 _ h_o0)
    · refine zj_iinc (v2 := l3 + (-1)) (lv' := [some (.ref (zb w + o0)), some (.int p1), some (.ref (zb w + o2)), some (.int (l3 + (-1))), some (.int l4)]) dX9_eOf_76 rfl (by rw [zic_m1]) (by decide) rfl rfl ?_
      refine zj_aload_n dX9_eOf_79 rfl ?_
      refine zj_getT dX9_eOf_80 fl_X9_130 rfl h_o0 ?_
      refine zj_iload_n dX9_eOf_83 rfl ?_
      refine zj_iconst dX9_eOf_84 zic_1 ?_
      refine zj_isub dX9_eOf_85 ?_
      refine zj_aload_n dX9_eOf_86 rfl ?_
      refine zj_getT dX9_eOf_87 fl_X9_115 rfl h_o0 ?_
      refine zj_iload dX9_eOf_90 rfl ?_
      refine zj_iald dX9_eOf_92 (zt_9_55 _ h_o0) ?_
      refine zj_aload_n dX9_eOf_93 rfl ?_
      refine zj_getT dX9_eOf_94 fl_X9_130 rfl h_o0 ?_
      refine zj_iload_n dX9_eOf_97 rfl ?_
      refine zj_iconst dX9_eOf_98 zic_1 ?_
      refine zj_isub dX9_eOf_99 ?_
      refine zj_iald dX9_eOf_100 (zt_9_60 _ h_o0) ?_
      refine zj_aload_n dX9_eOf_101 rfl ?_
      refine zj_getT dX9_eOf_102 fl_X9_130 rfl h_o0 ?_
      refine zj_iload_n dX9_eOf_105 rfl ?_
      refine zj_iald dX9_eOf_106 (zt_9_60 _ h_o0) ?_
      refine zj_cSI3 ml_X9_466 (fun a h => c_X9_worked  h) (Nat.le_of_ble_eq_true rfl) (Nat.le_of_ble_eq_true rfl) dX9_eOf_107 (fun r3 s2 => ?_)
      refine zj_iast dX9_eOf_110 (zt_9_60 _ h_o0) (fun s4 => ?_)
      exact j_X9_eOf_111 hr h_o0 h_o2 h_rec10
  · refine zj_aload_n dX9_eOf_117 rfl ?_
    refine zj_getT dX9_eOf_118 fl_X9_130 rfl h_o0 ?_
    refine zj_iconst dX9_eOf_121 zic_0 ?_
    refine zj_iald dX9_eOf_122 (zt_9_60 _ h_o0) ?_
    exact zj_iret hr dX9_eOf_123
set_option maxRecDepth 100000 in
theorem jl_X9_eOf_10 {o0 : Nat} {p1 : Int32} {o2 : Nat} {w : zWC} {x : zCX} (hr : zrt x = (some .int))  (h_o0 : zC o0 = 9) (h_o2 : zC o2 = 11) : ∀ (n : Nat) (l3 : Int32) (l4 : Int32) (s : zSt), zJ (zQf w x zeI) w x RX9 cX9_eOf 5 1 (lp_X9_eOf_10 o0 p1 o2 n l3 l4 s) 10 [some (.ref (zb w + o0)), some (.int p1), some (.ref (zb w + o2)), some (.int l3), some (.int l4)] [] s := by
  intro n
  induction n with
  | zero => intro l3 l4 s; exact zj_none
  | succ n ih => intro l3 l4 s; exact jb_X9_eOf_10 hr h_o0 h_o2 (fun l3 l4 s => ih l3 l4 s)
def m_X9_eOf (o0 : Nat) (p1 : Int32) (o2 : Nat) (s : zSt) : Option (Int32 × zSt) :=
  (if p1 < 0 ∨ zN (zT o0 57) ≤ Int32.toNatClampNeg p1 then none else lp_X9_eOf_10 o0 p1 o2 zFuel 0 (zI s (zT o0 57) (Int32.toNatClampNeg p1)) s)
set_option maxRecDepth 100000 in
theorem c_X9_eOf {w : zWC} {o0 : Nat} {p1 : Int32} {o2 : Nat} {s : zSt} (h_o0 : zC o0 = 9) (h_o2 : zC o2 = 11) {a : Int32 × zSt} (hm : m_X9_eOf o0 p1 o2 s = some a) : zCn w 1 yX9_eOf cX9_eOf 5 (some .int) [.ref (zb w + o0), .int p1, .ref (zb w + o2)] s (zeI a).1 (zeI a).2 :=
  zCn_of (own := RX9) (lv := [some (.ref (zb w + o0)), some (.int p1), some (.ref (zb w + o2)), none, none]) (by decide +kernel) rfl (Nat.le_of_ble_eq_true rfl) rfl (fun x hr => by
    unfold m_X9_eOf
    refine zj_iconst dX9_eOf_0 zic_0 ?_
    refine zj_istore_n (lv' := [some (.ref (zb w + o0)), some (.int p1), some (.ref (zb w + o2)), some (.int 0), none]) dX9_eOf_1 rfl (by decide) rfl rfl ?_
    refine zj_aload_n dX9_eOf_2 rfl ?_
    refine zj_getT dX9_eOf_3 fl_X9_121 rfl h_o0 ?_
    refine zj_iload_n dX9_eOf_6 rfl ?_
    refine zj_iald dX9_eOf_7 (zt_9_57 _ h_o0) ?_
    refine zj_istore (lv' := [some (.ref (zb w + o0)), some (.int p1), some (.ref (zb w + o2)), some (.int 0), some (.int (zI s (zT o0 57) (Int32.toNatClampNeg p1)))]) dX9_eOf_8 (by decide) rfl rfl ?_
    exact jl_X9_eOf_10 hr h_o0 h_o2 zFuel _ _ _) hm
def m_X9_slipOf (o0 : Nat) (p1 : Int32) (s : zSt) : Option (Int32 × zSt) :=
  (if p1 < 0 ∨ zN (zT o0 58) ≤ Int32.toNatClampNeg p1 then none else zcl (m_X9_eOf o0 p1 (zT o0 58) s) (fun r2 s1 => some ((zI s (zT o0 58) (Int32.toNatClampNeg p1)) - r2, s1)))
set_option maxRecDepth 100000 in
theorem c_X9_slipOf {w : zWC} {o0 : Nat} {p1 : Int32} {s : zSt} (h_o0 : zC o0 = 9) {a : Int32 × zSt} (hm : m_X9_slipOf o0 p1 s = some a) : zCn w 2 yX9_slipOf cX9_slipOf 2 (some .int) [.ref (zb w + o0), .int p1] s (zeI a).1 (zeI a).2 :=
  zCn_of (own := RX9) (lv := [some (.ref (zb w + o0)), some (.int p1)]) (by decide +kernel) rfl (Nat.le_of_ble_eq_true rfl) rfl (fun x hr => by
    unfold m_X9_slipOf
    refine zj_aload_n dX9_slipOf_0 rfl ?_
    refine zj_getT dX9_slipOf_1 fl_X9_124 rfl h_o0 ?_
    refine zj_iload_n dX9_slipOf_4 rfl ?_
    refine zj_iald dX9_slipOf_5 (zt_9_58 _ h_o0) ?_
    refine zj_aload_n dX9_slipOf_6 rfl ?_
    refine zj_iload_n dX9_slipOf_7 rfl ?_
    refine zj_aload_n dX9_slipOf_8 rfl ?_
    refine zj_getT dX9_slipOf_9 fl_X9_124 rfl h_o0 ?_
    refine zj_cVI2 ml_X9_470 (fun a h => c_X9_eOf h_o0 (zt_9_58 _ h_o0) h) h_o0 rfl (Nat.le_of_ble_eq_true rfl) (Nat.le_of_ble_eq_true rfl) dX9_slipOf_12 (fun r2 s1 => ?_)
    refine zj_isub dX9_slipOf_15 ?_
    exact zj_iret hr dX9_slipOf_16) hm
def m_X9_without_38 (o0 : Nat) (p1 : Int32) (rec2 : Int32 → zSt → Option (Int32 × zSt)) (l2 : Int32) (t0 : Nat) (t1 : Int32) (t2 : Int32) (t3 : Int32) (s : zSt) : Option (Int32 × zSt) :=
  (if t1 < 0 ∨ zN t0 ≤ Int32.toNatClampNeg t1 then none else zlt (zsI s t0 (Int32.toNatClampNeg t1) (t2 + t3)) (fun s3 => rec2 (l2 + 1) s3))
set_option maxRecDepth 100000 in
theorem j_X9_without_38 {o0 : Nat} {p1 : Int32} {rec2 : Int32 → zSt → Option (Int32 × zSt)} {l2 : Int32} {t0 : Nat} {t1 : Int32} {t2 : Int32} {t3 : Int32} {s : zSt} {w : zWC} {x : zCX} (hr : zrt x = (some .int))  (h_o0 : zC o0 = 9) (h_rec2 : ∀ (l2 : Int32) (s : zSt), zJ (zQf w x zeI) w x RX9 cX9_without 3 3 (rec2 l2 s) 2 [some (.ref (zb w + o0)), some (.int p1), some (.int l2)] [] s) (ht0 : zC t0 = 11) : zJ (zQf w x zeI) w x RX9 cX9_without 3 3 (m_X9_without_38 o0 p1 rec2 l2 t0 t1 t2 t3 s) 38 [some (.ref (zb w + o0)), some (.int p1), some (.int l2)] [.int t3, .int t2, .int t1, .ref (zb w + t0)] s := by
  unfold m_X9_without_38
  refine zj_iadd dX9_without_38 ?_
  refine zj_iast dX9_without_39 ht0 (fun s3 => ?_)
  refine zj_iinc (v2 := l2 + 1) (lv' := [some (.ref (zb w + o0)), some (.int p1), some (.int (l2 + 1))]) dX9_without_40 rfl (by rw [zic_1]) (by decide) rfl rfl ?_
  refine zj_goto (tgt := 2) dX9_without_43 (by decide) ?_
  exact h_rec2 _ _
def bd_X9_without_2 (o0 : Nat) (p1 : Int32) (rec2 : Int32 → zSt → Option (Int32 × zSt)) (l2 : Int32) (s : zSt) : Option (Int32 × zSt) :=
  (if l2 < zI s o0 66 then
  zcl (m_X9_eOf o0 l2 (zT o0 61) s) (fun r2 s1 => (if l2 = p1 then
    m_X9_without_38 o0 p1 rec2 l2 (zT o0 61) l2 r2 0 s1
    else
    zcl (m_X9_slipOf o0 l2 s1) (fun r5 s4 => m_X9_without_38 o0 p1 rec2 l2 (zT o0 61) l2 r2 r5 s4)))
  else
  (if (zI s o0 66) - 1 < 0 ∨ zN (zT o0 61) ≤ Int32.toNatClampNeg ((zI s o0 66) - 1) then none else some (zI s (zT o0 61) (Int32.toNatClampNeg ((zI s o0 66) - 1)), s)))
def lp_X9_without_2 (o0 : Nat) (p1 : Int32) : Nat → Int32 → zSt → Option (Int32 × zSt)
  | 0, _, _ => none
  | n + 1, l2, s => bd_X9_without_2 o0 p1 (fun l2 s => lp_X9_without_2 o0 p1 n l2 s) l2 s
set_option maxRecDepth 100000 in
theorem jb_X9_without_2 {o0 : Nat} {p1 : Int32} {rec2 : Int32 → zSt → Option (Int32 × zSt)} {l2 : Int32} {s : zSt} {w : zWC} {x : zCX} (hr : zrt x = (some .int))  (h_o0 : zC o0 = 9) (h_rec2 : ∀ (l2 : Int32) (s : zSt), zJ (zQf w x zeI) w x RX9 cX9_without 3 3 (rec2 l2 s) 2 [some (.ref (zb w + o0)), some (.int p1), some (.int l2)] [] s) : zJ (zQf w x zeI) w x RX9 cX9_without 3 3 (bd_X9_without_2 o0 p1 rec2 l2 s) 2 [some (.ref (zb w + o0)), some (.int p1), some (.int l2)] [] s := by
  unfold bd_X9_without_2
  refine zj_iload_n dX9_without_2 rfl ?_
  refine zj_aload_n dX9_without_3 rfl ?_
  refine zj_getI dX9_without_4 fl_X9_463 rfl h_o0 ?_
  refine zj_icmp_ge (tgt := 46) dX9_without_7 (by decide) ?_ ?_
  · refine zj_aload_n dX9_without_10 rfl ?_
    refine zj_getT dX9_without_11 fl_X9_133 rfl h_o0 ?_
    refine zj_iload_n dX9_without_14 rfl ?_
    refine zj_aload_n dX9_without_15 rfl ?_
    refine zj_iload_n dX9_without_16 rfl ?_
    refine zj_aload_n dX9_without_17 rfl ?_
    refine zj_getT dX9_without_18 fl_X9_133 rfl h_o0 ?_
    refine zj_cVI2 ml_X9_470 (fun a h => c_X9_eOf h_o0 (zt_9_61 _ h_o0) h) h_o0 rfl (Nat.le_of_ble_eq_true rfl) (Nat.le_of_ble_eq_true rfl) dX9_without_21 (fun r2 s1 => ?_)
    refine zj_iload_n dX9_without_24 rfl ?_
    refine zj_iload_n dX9_without_25 rfl ?_
    refine zj_icmp_ne (tgt := 33) dX9_without_26 (by decide) ?_ ?_
    · refine zj_iconst dX9_without_29 zic_0 ?_
      refine zj_goto (tgt := 38) dX9_without_30 (by decide) ?_
      exact j_X9_without_38 hr h_o0 h_rec2 (zt_9_61 _ h_o0)
    · refine zj_aload_n dX9_without_33 rfl ?_
      refine zj_iload_n dX9_without_34 rfl ?_
      refine zj_cVI1 ml_X9_474 (fun a h => c_X9_slipOf h_o0 h) h_o0 rfl (Nat.le_of_ble_eq_true rfl) (Nat.le_of_ble_eq_true rfl) dX9_without_35 (fun r5 s4 => ?_)
      exact j_X9_without_38 hr h_o0 h_rec2 (zt_9_61 _ h_o0)
  · refine zj_aload_n dX9_without_46 rfl ?_
    refine zj_getT dX9_without_47 fl_X9_133 rfl h_o0 ?_
    refine zj_aload_n dX9_without_50 rfl ?_
    refine zj_getI dX9_without_51 fl_X9_463 rfl h_o0 ?_
    refine zj_iconst dX9_without_54 zic_1 ?_
    refine zj_isub dX9_without_55 ?_
    refine zj_iald dX9_without_56 (zt_9_61 _ h_o0) ?_
    exact zj_iret hr dX9_without_57
set_option maxRecDepth 100000 in
theorem jl_X9_without_2 {o0 : Nat} {p1 : Int32} {w : zWC} {x : zCX} (hr : zrt x = (some .int))  (h_o0 : zC o0 = 9) : ∀ (n : Nat) (l2 : Int32) (s : zSt), zJ (zQf w x zeI) w x RX9 cX9_without 3 3 (lp_X9_without_2 o0 p1 n l2 s) 2 [some (.ref (zb w + o0)), some (.int p1), some (.int l2)] [] s := by
  intro n
  induction n with
  | zero => intro l2 s; exact zj_none
  | succ n ih => intro l2 s; exact jb_X9_without_2 hr h_o0 (fun l2 s => ih l2 s)
def m_X9_without (o0 : Nat) (p1 : Int32) (s : zSt) : Option (Int32 × zSt) :=
  lp_X9_without_2 o0 p1 zFuel 0 s
set_option maxRecDepth 100000 in
theorem c_X9_without {w : zWC} {o0 : Nat} {p1 : Int32} {s : zSt} (h_o0 : zC o0 = 9) {a : Int32 × zSt} (hm : m_X9_without o0 p1 s = some a) : zCn w 3 yX9_without cX9_without 3 (some .int) [.ref (zb w + o0), .int p1] s (zeI a).1 (zeI a).2 :=
  zCn_of (own := RX9) (lv := [some (.ref (zb w + o0)), some (.int p1), none]) (by decide +kernel) rfl (Nat.le_of_ble_eq_true rfl) rfl (fun x hr => by
    unfold m_X9_without
    refine zj_iconst dX9_without_0 zic_0 ?_
    refine zj_istore_n (lv' := [some (.ref (zb w + o0)), some (.int p1), some (.int 0)]) dX9_without_1 rfl (by decide) rfl rfl ?_
    exact jl_X9_without_2 hr h_o0 zFuel _ _) hm
def m_X9_line (o0 : Nat) (p1 : Int32) (p2 : Int32) (s : zSt) : Option (Int64 × zSt) :=
  (if p1 < 0 then
  some ((-1000000000000), s)
  else
  (if p1 < zI s o0 66 then
    (if p2 = 0 then
      zcl (m_X9_eOf o0 p1 (zT o0 58) s) (fun r9 s8 => some (r9.toInt64, s8))
      else
      (if p2 = 1 then
        zcl (m_X9_slipOf o0 p1 s) (fun r7 s6 => some (r7.toInt64, s6))
        else
        (if p2 = 2 then
          (if (zI s o0 66) - 1 < 0 ∨ zN (zT o0 58) ≤ Int32.toNatClampNeg ((zI s o0 66) - 1) then none else zcl (m_X9_without o0 p1 s) (fun r5 s4 => some (((zI s (zT o0 58) (Int32.toNatClampNeg ((zI s o0 66) - 1))) - r5).toInt64, s4)))
          else
          some ((-1000000000000), s))))
    else
    some ((-1000000000000), s)))
set_option maxRecDepth 100000 in
theorem c_X9_line {w : zWC} {o0 : Nat} {p1 : Int32} {p2 : Int32} {s : zSt} (h_o0 : zC o0 = 9) {a : Int64 × zSt} (hm : m_X9_line o0 p1 p2 s = some a) : zCn w 4 yX9_line cX9_line 3 (some .long) [.ref (zb w + o0), .int p1, .int p2] s (zeL a).1 (zeL a).2 :=
  zCn_of (own := RX9) (lv := [some (.ref (zb w + o0)), some (.int p1), some (.int p2)]) (by decide +kernel) rfl (Nat.le_of_ble_eq_true rfl) rfl (fun x hr => by
    unfold m_X9_line
    refine zj_iload_n dX9_line_0 rfl ?_
    refine zj_if_lt (tgt := 12) dX9_line_1 (by decide) ?_ ?_
    · refine zj_ldc2 dX9_line_12 kcL_X9_330 ?_
      exact zj_lret hr dX9_line_15
    · refine zj_iload_n dX9_line_4 rfl ?_
      refine zj_aload_n dX9_line_5 rfl ?_
      refine zj_getI dX9_line_6 fl_X9_463 rfl h_o0 ?_
      refine zj_icmp_lt (tgt := 16) dX9_line_9 (by decide) ?_ ?_
      · refine zj_iload_n dX9_line_16 rfl ?_
        refine zj_split (fun hs1 => ?_) (fun hs1 => ?_)
        · refine zj_tsE (u := 0) (tgt := 44) hs1 dX9_line_17 (by decide) (by decide) rfl (by decide) ?_
          refine zj_aload_n dX9_line_44 rfl ?_
          refine zj_iload_n dX9_line_45 rfl ?_
          refine zj_aload_n dX9_line_46 rfl ?_
          refine zj_getT dX9_line_47 fl_X9_124 rfl h_o0 ?_
          refine zj_cVI2 ml_X9_470 (fun a h => c_X9_eOf h_o0 (zt_9_58 _ h_o0) h) h_o0 rfl (Nat.le_of_ble_eq_true rfl) (Nat.le_of_ble_eq_true rfl) dX9_line_50 (fun r9 s8 => ?_)
          refine zj_i2l dX9_line_53 ?_
          exact zj_lret hr dX9_line_54
        · refine zj_split (fun hs2 => ?_) (fun hs2 => ?_)
          · refine zj_tsE (u := 1) (tgt := 55) hs2 dX9_line_17 (by decide) (by decide) rfl (by decide) ?_
            refine zj_aload_n dX9_line_55 rfl ?_
            refine zj_iload_n dX9_line_56 rfl ?_
            refine zj_cVI1 ml_X9_474 (fun a h => c_X9_slipOf h_o0 h) h_o0 rfl (Nat.le_of_ble_eq_true rfl) (Nat.le_of_ble_eq_true rfl) dX9_line_57 (fun r7 s6 => ?_)
            refine zj_i2l dX9_line_60 ?_
            exact zj_lret hr dX9_line_61
          · refine zj_split (fun hs3 => ?_) (fun hs3 => ?_)
            · refine zj_tsE (u := 2) (tgt := 62) hs3 dX9_line_17 (by decide) (by decide) rfl (by decide) ?_
              refine zj_aload_n dX9_line_62 rfl ?_
              refine zj_getT dX9_line_63 fl_X9_124 rfl h_o0 ?_
              refine zj_aload_n dX9_line_66 rfl ?_
              refine zj_getI dX9_line_67 fl_X9_463 rfl h_o0 ?_
              refine zj_iconst dX9_line_70 zic_1 ?_
              refine zj_isub dX9_line_71 ?_
              refine zj_iald dX9_line_72 (zt_9_58 _ h_o0) ?_
              refine zj_aload_n dX9_line_73 rfl ?_
              refine zj_iload_n dX9_line_74 rfl ?_
              refine zj_cVI1 ml_X9_477 (fun a h => c_X9_without h_o0 h) h_o0 rfl (Nat.le_of_ble_eq_true rfl) (Nat.le_of_ble_eq_true rfl) dX9_line_75 (fun r5 s4 => ?_)
              refine zj_isub dX9_line_78 ?_
              refine zj_i2l dX9_line_79 ?_
              exact zj_lret hr dX9_line_80
            · refine zj_tsDef (vs := [0, 1, 2]) (tgt := 81) dX9_line_17 (by decide) (by decide +kernel) (by decide) (by
                intro u hu
                simp only [List.mem_cons, List.not_mem_nil, or_false] at hu
                rcases hu with rfl | rfl | rfl
                · exact hs1
                · exact hs2
                · exact hs3
                ) ?_
              refine zj_ldc2 dX9_line_81 kcL_X9_330 ?_
              exact zj_lret hr dX9_line_84
      · refine zj_ldc2 dX9_line_12 kcL_X9_330 ?_
        exact zj_lret hr dX9_line_15) hm
def bd_X9_right_13 (o0 : Nat) (rec13 : Int32 → zSt → Option (Int64 × zSt)) (k42 : zSt → Option (Int64 × zSt)) (l1 : Int32) (s : zSt) : Option (Int64 × zSt) :=
  (if l1 < zI s o0 66 then
  zcl (m_X9_eOf o0 l1 (zT o0 61) s) (fun r2 s1 => (if l1 < 0 ∨ zN (zT o0 61) ≤ Int32.toNatClampNeg l1 then none else zlt (zsI s1 (zT o0 61) (Int32.toNatClampNeg l1) r2) (fun s3 => rec13 (l1 + 1) s3)))
  else
  k42  s)
def lp_X9_right_13 (o0 : Nat) (k42 : zSt → Option (Int64 × zSt)) : Nat → Int32 → zSt → Option (Int64 × zSt)
  | 0, _, _ => none
  | n + 1, l1, s => bd_X9_right_13 o0 (fun l1 s => lp_X9_right_13 o0 k42 n l1 s) k42 l1 s
set_option maxRecDepth 100000 in
theorem jb_X9_right_13 {o0 : Nat} {rec13 : Int32 → zSt → Option (Int64 × zSt)} {k42 : zSt → Option (Int64 × zSt)} {l1 : Int32} {s : zSt} {w : zWC} {x : zCX} (hr : zrt x = (some .long))  (h_o0 : zC o0 = 9) (h_rec13 : ∀ (l1 : Int32) (s : zSt), zJ (zQf w x zeL) w x RX9 cX9_right 2 2 (rec13 l1 s) 13 [some (.ref (zb w + o0)), some (.int l1)] [] s) (h_k42 : ∀  (s : zSt), zJ (zQf w x zeL) w x RX9 cX9_right 2 2 (k42  s) 42 [some (.ref (zb w + o0)), none] [] s) : zJ (zQf w x zeL) w x RX9 cX9_right 2 2 (bd_X9_right_13 o0 rec13 k42 l1 s) 13 [some (.ref (zb w + o0)), some (.int l1)] [] s := by
  unfold bd_X9_right_13
  refine zj_iload_n dX9_right_13 rfl ?_
  refine zj_aload_n dX9_right_14 rfl ?_
  refine zj_getI dX9_right_15 fl_X9_463 rfl h_o0 ?_
  refine zj_icmp_ge (tgt := 42) dX9_right_18 (by decide) ?_ ?_
  · refine zj_aload_n dX9_right_21 rfl ?_
    refine zj_getT dX9_right_22 fl_X9_133 rfl h_o0 ?_
    refine zj_iload_n dX9_right_25 rfl ?_
    refine zj_aload_n dX9_right_26 rfl ?_
    refine zj_iload_n dX9_right_27 rfl ?_
    refine zj_aload_n dX9_right_28 rfl ?_
    refine zj_getT dX9_right_29 fl_X9_133 rfl h_o0 ?_
    refine zj_cVI2 ml_X9_470 (fun a h => c_X9_eOf h_o0 (zt_9_61 _ h_o0) h) h_o0 rfl (Nat.le_of_ble_eq_true rfl) (Nat.le_of_ble_eq_true rfl) dX9_right_32 (fun r2 s1 => ?_)
    refine zj_iast dX9_right_35 (zt_9_61 _ h_o0) (fun s3 => ?_)
    refine zj_iinc (v2 := l1 + 1) (lv' := [some (.ref (zb w + o0)), some (.int (l1 + 1))]) dX9_right_36 rfl (by rw [zic_1]) (by decide) rfl rfl ?_
    refine zj_goto (tgt := 13) dX9_right_39 (by decide) ?_
    exact h_rec13 _ _
  · refine zj_weak [true, false] rfl ?_
    exact h_k42 _
set_option maxRecDepth 100000 in
theorem jl_X9_right_13 {o0 : Nat} {k42 : zSt → Option (Int64 × zSt)} {w : zWC} {x : zCX} (hr : zrt x = (some .long))  (h_o0 : zC o0 = 9) (h_k42 : ∀  (s : zSt), zJ (zQf w x zeL) w x RX9 cX9_right 2 2 (k42  s) 42 [some (.ref (zb w + o0)), none] [] s) : ∀ (n : Nat) (l1 : Int32) (s : zSt), zJ (zQf w x zeL) w x RX9 cX9_right 2 2 (lp_X9_right_13 o0 k42 n l1 s) 13 [some (.ref (zb w + o0)), some (.int l1)] [] s := by
  intro n
  induction n with
  | zero => intro l1 s; exact zj_none
  | succ n ih => intro l1 s; exact jb_X9_right_13 hr h_o0 (fun l1 s => ih l1 s) h_k42
def m_X9_right (o0 : Nat) (s : zSt) : Option (Int64 × zSt) :=
  (if zI s o0 66 = 0 then
  some ((-1000000000000), s)
  else
  lp_X9_right_13 o0 (fun s_4 => (if (zI s_4 o0 66) - 1 < 0 ∨ zN (zT o0 61) ≤ Int32.toNatClampNeg ((zI s_4 o0 66) - 1) then none else some ((zI s_4 (zT o0 61) (Int32.toNatClampNeg ((zI s_4 o0 66) - 1))).toInt64, s_4))) zFuel 0 s)
set_option maxRecDepth 100000 in
theorem c_X9_right {w : zWC} {o0 : Nat} {s : zSt} (h_o0 : zC o0 = 9) {a : Int64 × zSt} (hm : m_X9_right o0 s = some a) : zCn w 2 yX9_right cX9_right 2 (some .long) [.ref (zb w + o0)] s (zeL a).1 (zeL a).2 :=
  zCn_of (own := RX9) (lv := [some (.ref (zb w + o0)), none]) (by decide +kernel) rfl (Nat.le_of_ble_eq_true rfl) rfl (fun x hr => by
    unfold m_X9_right
    refine zj_aload_n dX9_right_0 rfl ?_
    refine zj_getI dX9_right_1 fl_X9_463 rfl h_o0 ?_
    refine zj_if_ne (tgt := 11) dX9_right_4 (by decide) ?_ ?_
    · refine zj_ldc2 dX9_right_7 kcL_X9_330 ?_
      exact zj_lret hr dX9_right_10
    · refine zj_iconst dX9_right_11 zic_0 ?_
      refine zj_istore_n (lv' := [some (.ref (zb w + o0)), some (.int 0)]) dX9_right_12 rfl (by decide) rfl rfl ?_
      refine jl_X9_right_13 hr h_o0 (fun s_4 => ?_) zFuel _ _
      refine zj_aload_n dX9_right_42 rfl ?_
      refine zj_getT dX9_right_43 fl_X9_133 rfl h_o0 ?_
      refine zj_aload_n dX9_right_46 rfl ?_
      refine zj_getI dX9_right_47 fl_X9_463 rfl h_o0 ?_
      refine zj_iconst dX9_right_50 zic_1 ?_
      refine zj_isub dX9_right_51 ?_
      refine zj_iald dX9_right_52 (zt_9_61 _ h_o0) ?_
      refine zj_i2l dX9_right_53 ?_
      exact zj_lret hr dX9_right_54) hm
def m_X9_result_33 (o0 : Nat) (p1 : Int32) (p2 : Int32) (s : zSt) : Option (Int32 × zSt) :=
  (if p1 < 0 ∨ zN (zT o0 69) ≤ Int32.toNatClampNeg p1 then none else zlt (zsI s (zT o0 69) (Int32.toNatClampNeg p1) (vp_nar .boolean 1)) (fun s1 => (if p1 < 0 ∨ zN (zT o0 70) ≤ Int32.toNatClampNeg p1 then none else zlt (zsI s1 (zT o0 70) (Int32.toNatClampNeg p1) (vp_nar .boolean p2)) (fun s2 => some (1, s2)))))
set_option maxRecDepth 100000 in
theorem j_X9_result_33 {o0 : Nat} {p1 : Int32} {p2 : Int32} {s : zSt} {w : zWC} {x : zCX} (hr : zrt x = (some .boolean))  (h_o0 : zC o0 = 9) : zJ (zQf w x zeI) w x RX9 cX9_result 3 0 (m_X9_result_33 o0 p1 p2 s) 33 [some (.ref (zb w + o0)), some (.int p1), some (.int p2)] [] s := by
  unfold m_X9_result_33
  refine zj_aload_n dX9_result_33 rfl ?_
  refine zj_getT dX9_result_34 fl_X9_136 rfl h_o0 ?_
  refine zj_iload_n dX9_result_37 rfl ?_
  refine zj_iconst dX9_result_38 zic_1 ?_
  refine zj_zast dX9_result_39 (zt_9_69 _ h_o0) (fun s1 => ?_)
  refine zj_aload_n dX9_result_40 rfl ?_
  refine zj_getT dX9_result_41 fl_X9_139 rfl h_o0 ?_
  refine zj_iload_n dX9_result_44 rfl ?_
  refine zj_iload_n dX9_result_45 rfl ?_
  refine zj_zast dX9_result_46 (zt_9_70 _ h_o0) (fun s2 => ?_)
  refine zj_iconst dX9_result_47 zic_1 ?_
  exact zj_zret hr rfl dX9_result_48
def m_X9_result (o0 : Nat) (p1 : Int32) (p2 : Int32) (s : zSt) : Option (Int32 × zSt) :=
  (if p1 < 0 then
  some (0, s)
  else
  (if p1 < zI s o0 22 then
    (if p1 < 0 ∨ zN (zT o0 69) ≤ Int32.toNatClampNeg p1 then none else (if zI s (zT o0 69) (Int32.toNatClampNeg p1) = 0 then
      m_X9_result_33 o0 p1 p2 s
      else
      (if p1 < 0 ∨ zN (zT o0 70) ≤ Int32.toNatClampNeg p1 then none else (if zI s (zT o0 70) (Int32.toNatClampNeg p1) = p2 then
        some (0, s)
        else
        m_X9_result_33 o0 p1 p2 s))))
    else
    some (0, s)))
set_option maxRecDepth 100000 in
theorem c_X9_result {w : zWC} {o0 : Nat} {p1 : Int32} {p2 : Int32} {s : zSt} (h_o0 : zC o0 = 9) {a : Int32 × zSt} (hm : m_X9_result o0 p1 p2 s = some a) : zCn w 0 yX9_result cX9_result 3 (some .boolean) [.ref (zb w + o0), .int p1, .int p2] s (zeI a).1 (zeI a).2 :=
  zCn_of (own := RX9) (lv := [some (.ref (zb w + o0)), some (.int p1), some (.int p2)]) (by decide +kernel) rfl (Nat.le_of_ble_eq_true rfl) rfl (fun x hr => by
    unfold m_X9_result
    refine zj_iload_n dX9_result_0 rfl ?_
    refine zj_if_lt (tgt := 31) dX9_result_1 (by decide) ?_ ?_
    · refine zj_iconst dX9_result_31 zic_0 ?_
      exact zj_zret hr rfl dX9_result_32
    · refine zj_iload_n dX9_result_4 rfl ?_
      refine zj_aload_n dX9_result_5 rfl ?_
      refine zj_getI dX9_result_6 fl_X9_300 rfl h_o0 ?_
      refine zj_icmp_ge (tgt := 31) dX9_result_9 (by decide) ?_ ?_
      · refine zj_aload_n dX9_result_12 rfl ?_
        refine zj_getT dX9_result_13 fl_X9_136 rfl h_o0 ?_
        refine zj_iload_n dX9_result_16 rfl ?_
        refine zj_zald dX9_result_17 (zt_9_69 _ h_o0) ?_
        refine zj_if_eq (tgt := 33) dX9_result_18 (by decide) ?_ ?_
        · exact j_X9_result_33 hr h_o0
        · refine zj_aload_n dX9_result_21 rfl ?_
          refine zj_getT dX9_result_22 fl_X9_139 rfl h_o0 ?_
          refine zj_iload_n dX9_result_25 rfl ?_
          refine zj_zald dX9_result_26 (zt_9_70 _ h_o0) ?_
          refine zj_iload_n dX9_result_27 rfl ?_
          refine zj_icmp_ne (tgt := 33) dX9_result_28 (by decide) ?_ ?_
          · refine zj_iconst dX9_result_31 zic_0 ?_
            exact zj_zret hr rfl dX9_result_32
          · exact j_X9_result_33 hr h_o0
      · refine zj_iconst dX9_result_31 zic_0 ?_
        exact zj_zret hr rfl dX9_result_32) hm
def m_X9_mayBe_57 (o0 : Nat) (rec11 : Int32 → Int32 → zSt → Option (Int32 × zSt)) (l1 : Int32) (l2 : Int32) (s : zSt) : Option (Int32 × zSt) :=
  rec11 l1 (l2 + 1) s
set_option maxRecDepth 100000 in
theorem j_X9_mayBe_57 {o0 : Nat} {rec11 : Int32 → Int32 → zSt → Option (Int32 × zSt)} {l1 : Int32} {l2 : Int32} {s : zSt} {w : zWC} {x : zCX} (hr : zrt x = (some .int))  (h_o0 : zC o0 = 9) (h_rec11 : ∀ (l1 : Int32) (l2 : Int32) (s : zSt), zJ (zQf w x zeI) w x RX9 cX9_mayBe 3 0 (rec11 l1 l2 s) 11 [some (.ref (zb w + o0)), some (.int l1), some (.int l2)] [] s) : zJ (zQf w x zeI) w x RX9 cX9_mayBe 3 0 (m_X9_mayBe_57 o0 rec11 l1 l2 s) 57 [some (.ref (zb w + o0)), some (.int l1), some (.int l2)] [] s := by
  unfold m_X9_mayBe_57
  refine zj_iinc (v2 := l2 + 1) (lv' := [some (.ref (zb w + o0)), some (.int l1), some (.int (l2 + 1))]) dX9_mayBe_57 rfl (by rw [zic_1]) (by decide) rfl rfl ?_
  refine zj_goto (tgt := 11) dX9_mayBe_60 (by decide) ?_
  exact h_rec11 _ _ _
def m_X9_mayBe_55 (o0 : Nat) (rec11 : Int32 → Int32 → zSt → Option (Int32 × zSt)) (l2 : Int32) (t0 : Int32) (t1 : Int32) (s : zSt) : Option (Int32 × zSt) :=
  m_X9_mayBe_57 o0 rec11 (t0 &&& t1) l2 s
set_option maxRecDepth 100000 in
theorem j_X9_mayBe_55 {o0 : Nat} {rec11 : Int32 → Int32 → zSt → Option (Int32 × zSt)} {l2 : Int32} {t0 : Int32} {t1 : Int32} {s : zSt} {w : zWC} {x : zCX} (hr : zrt x = (some .int))  (h_o0 : zC o0 = 9) (h_rec11 : ∀ (l1 : Int32) (l2 : Int32) (s : zSt), zJ (zQf w x zeI) w x RX9 cX9_mayBe 3 0 (rec11 l1 l2 s) 11 [some (.ref (zb w + o0)), some (.int l1), some (.int l2)] [] s) : zJ (zQf w x zeI) w x RX9 cX9_mayBe 3 0 (m_X9_mayBe_55 o0 rec11 l2 t0 t1 s) 55 [some (.ref (zb w + o0)), none, some (.int l2)] [.int t1, .int t0] s := by
  unfold m_X9_mayBe_55
  refine zj_iand dX9_mayBe_55 ?_
  refine zj_istore_n (lv' := [some (.ref (zb w + o0)), some (.int (t0 &&& t1)), some (.int l2)]) dX9_mayBe_56 rfl (by decide) rfl rfl ?_
  exact j_X9_mayBe_57 hr h_o0 h_rec11
def bd_X9_mayBe_11 (o0 : Nat) (rec11 : Int32 → Int32 → zSt → Option (Int32 × zSt)) (l1 : Int32) (l2 : Int32) (s : zSt) : Option (Int32 × zSt) :=
  (if l2 < zI s o0 22 then
  (if l2 < 0 ∨ zN (zT o0 69) ≤ Int32.toNatClampNeg l2 then none else (if zI s (zT o0 69) (Int32.toNatClampNeg l2) = 0 then
    m_X9_mayBe_57 o0 rec11 l1 l2 s
    else
    (if l2 < 0 ∨ zN (zT o0 70) ≤ Int32.toNatClampNeg l2 then none else (if zI s (zT o0 70) (Int32.toNatClampNeg l2) = 0 then
      (if l2 < 0 ∨ zN (zT o0 14) ≤ Int32.toNatClampNeg l2 then none else m_X9_mayBe_55 o0 rec11 l2 l1 ((zI s (zT o0 14) (Int32.toNatClampNeg l2)) ^^^ (-1)) s)
      else
      (if l2 < 0 ∨ zN (zT o0 14) ≤ Int32.toNatClampNeg l2 then none else m_X9_mayBe_55 o0 rec11 l2 l1 (zI s (zT o0 14) (Int32.toNatClampNeg l2)) s)))))
  else
  some (l1, s))
def lp_X9_mayBe_11 (o0 : Nat) : Nat → Int32 → Int32 → zSt → Option (Int32 × zSt)
  | 0, _, _, _ => none
  | n + 1, l1, l2, s => bd_X9_mayBe_11 o0 (fun l1 l2 s => lp_X9_mayBe_11 o0 n l1 l2 s) l1 l2 s
set_option maxRecDepth 100000 in
theorem jb_X9_mayBe_11 {o0 : Nat} {rec11 : Int32 → Int32 → zSt → Option (Int32 × zSt)} {l1 : Int32} {l2 : Int32} {s : zSt} {w : zWC} {x : zCX} (hr : zrt x = (some .int))  (h_o0 : zC o0 = 9) (h_rec11 : ∀ (l1 : Int32) (l2 : Int32) (s : zSt), zJ (zQf w x zeI) w x RX9 cX9_mayBe 3 0 (rec11 l1 l2 s) 11 [some (.ref (zb w + o0)), some (.int l1), some (.int l2)] [] s) : zJ (zQf w x zeI) w x RX9 cX9_mayBe 3 0 (bd_X9_mayBe_11 o0 rec11 l1 l2 s) 11 [some (.ref (zb w + o0)), some (.int l1), some (.int l2)] [] s := by
  unfold bd_X9_mayBe_11
  refine zj_iload_n dX9_mayBe_11 rfl ?_
  refine zj_aload_n dX9_mayBe_12 rfl ?_
  refine zj_getI dX9_mayBe_13 fl_X9_300 rfl h_o0 ?_
  refine zj_icmp_ge (tgt := 63) dX9_mayBe_16 (by decide) ?_ ?_
  · refine zj_aload_n dX9_mayBe_19 rfl ?_
    refine zj_getT dX9_mayBe_20 fl_X9_136 rfl h_o0 ?_
    refine zj_iload_n dX9_mayBe_23 rfl ?_
    refine zj_zald dX9_mayBe_24 (zt_9_69 _ h_o0) ?_
    refine zj_if_eq (tgt := 57) dX9_mayBe_25 (by decide) ?_ ?_
    · exact j_X9_mayBe_57 hr h_o0 h_rec11
    · refine zj_iload_n dX9_mayBe_28 rfl ?_
      refine zj_aload_n dX9_mayBe_29 rfl ?_
      refine zj_getT dX9_mayBe_30 fl_X9_139 rfl h_o0 ?_
      refine zj_iload_n dX9_mayBe_33 rfl ?_
      refine zj_zald dX9_mayBe_34 (zt_9_70 _ h_o0) ?_
      refine zj_if_eq (tgt := 47) dX9_mayBe_35 (by decide) ?_ ?_
      · refine zj_aload_n dX9_mayBe_47 rfl ?_
        refine zj_getT dX9_mayBe_48 fl_X9_26 rfl h_o0 ?_
        refine zj_iload_n dX9_mayBe_51 rfl ?_
        refine zj_iald dX9_mayBe_52 (zt_9_14 _ h_o0) ?_
        refine zj_iconst dX9_mayBe_53 zic_m1 ?_
        refine zj_ixor dX9_mayBe_54 ?_
        refine zj_weak [true, false, true] rfl ?_
        exact j_X9_mayBe_55 hr h_o0 h_rec11
      · refine zj_aload_n dX9_mayBe_38 rfl ?_
        refine zj_getT dX9_mayBe_39 fl_X9_26 rfl h_o0 ?_
        refine zj_iload_n dX9_mayBe_42 rfl ?_
        refine zj_iald dX9_mayBe_43 (zt_9_14 _ h_o0) ?_
        refine zj_goto (tgt := 55) dX9_mayBe_44 (by decide) ?_
        refine zj_weak [true, false, true] rfl ?_
        exact j_X9_mayBe_55 hr h_o0 h_rec11
  · refine zj_iload_n dX9_mayBe_63 rfl ?_
    exact zj_iret hr dX9_mayBe_64
set_option maxRecDepth 100000 in
theorem jl_X9_mayBe_11 {o0 : Nat} {w : zWC} {x : zCX} (hr : zrt x = (some .int))  (h_o0 : zC o0 = 9) : ∀ (n : Nat) (l1 : Int32) (l2 : Int32) (s : zSt), zJ (zQf w x zeI) w x RX9 cX9_mayBe 3 0 (lp_X9_mayBe_11 o0 n l1 l2 s) 11 [some (.ref (zb w + o0)), some (.int l1), some (.int l2)] [] s := by
  intro n
  induction n with
  | zero => intro l1 l2 s; exact zj_none
  | succ n ih => intro l1 l2 s; exact jb_X9_mayBe_11 hr h_o0 (fun l1 l2 s => ih l1 l2 s)
def m_X9_mayBe (o0 : Nat) (s : zSt) : Option (Int32 × zSt) :=
  lp_X9_mayBe_11 o0 zFuel (((1 : Int32) <<< ((zI s o0 21) &&& 31)) - 1) 0 s
set_option maxRecDepth 100000 in
theorem c_X9_mayBe {w : zWC} {o0 : Nat} {s : zSt} (h_o0 : zC o0 = 9) {a : Int32 × zSt} (hm : m_X9_mayBe o0 s = some a) : zCn w 0 yX9_mayBe cX9_mayBe 3 (some .int) [.ref (zb w + o0)] s (zeI a).1 (zeI a).2 :=
  zCn_of (own := RX9) (lv := [some (.ref (zb w + o0)), none, none]) (by decide +kernel) rfl (Nat.le_of_ble_eq_true rfl) rfl (fun x hr => by
    unfold m_X9_mayBe
    refine zj_iconst dX9_mayBe_0 zic_1 ?_
    refine zj_aload_n dX9_mayBe_1 rfl ?_
    refine zj_getI dX9_mayBe_2 fl_X9_297 rfl h_o0 ?_
    refine zj_ishl dX9_mayBe_5 ?_
    refine zj_iconst dX9_mayBe_6 zic_1 ?_
    refine zj_isub dX9_mayBe_7 ?_
    refine zj_istore_n (lv' := [some (.ref (zb w + o0)), some (.int (((1 : Int32) <<< ((zI s o0 21) &&& 31)) - 1)), none]) dX9_mayBe_8 rfl (by decide) rfl rfl ?_
    refine zj_iconst dX9_mayBe_9 zic_0 ?_
    refine zj_istore_n (lv' := [some (.ref (zb w + o0)), some (.int (((1 : Int32) <<< ((zI s o0 21) &&& 31)) - 1)), some (.int 0)]) dX9_mayBe_10 rfl (by decide) rfl rfl ?_
    exact jl_X9_mayBe_11 hr h_o0 zFuel _ _ _) hm
def m_X9_maybe (o0 : Nat) (s : zSt) : Option (Int32 × zSt) :=
  zcl (m_X9_mayBe o0 s) (fun r2 s1 => some (r2, s1))
set_option maxRecDepth 100000 in
theorem c_X9_maybe {w : zWC} {o0 : Nat} {s : zSt} (h_o0 : zC o0 = 9) {a : Int32 × zSt} (hm : m_X9_maybe o0 s = some a) : zCn w 1 yX9_maybe cX9_maybe 1 (some .int) [.ref (zb w + o0)] s (zeI a).1 (zeI a).2 :=
  zCn_of (own := RX9) (lv := [some (.ref (zb w + o0))]) (by decide +kernel) rfl (Nat.le_of_ble_eq_true rfl) rfl (fun x hr => by
    unfold m_X9_maybe
    refine zj_aload_n dX9_maybe_0 rfl ?_
    refine zj_cVI0 ml_X9_480 (fun a h => c_X9_mayBe h_o0 h) h_o0 rfl (Nat.le_of_ble_eq_true rfl) (Nat.le_of_ble_eq_true rfl) dX9_maybe_1 (fun r2 s1 => ?_)
    exact zj_iret hr dX9_maybe_4) hm
def m_X9_next_106 (o0 : Nat) (rec12 : Int32 → Int32 → Int32 → Int32 → zSt → Option (Int32 × zSt)) (l1 : Int32) (l2 : Int32) (l3 : Int32) (l4 : Int32) (s : zSt) : Option (Int32 × zSt) :=
  rec12 l1 l2 l3 (l4 + 1) s
set_option maxRecDepth 100000 in
theorem j_X9_next_106 {o0 : Nat} {rec12 : Int32 → Int32 → Int32 → Int32 → zSt → Option (Int32 × zSt)} {l1 : Int32} {l2 : Int32} {l3 : Int32} {l4 : Int32} {s : zSt} {w : zWC} {x : zCX} (hr : zrt x = (some .int))  (h_o0 : zC o0 = 9) (h_rec12 : ∀ (l1 : Int32) (l2 : Int32) (l3 : Int32) (l4 : Int32) (s : zSt), zJ (zQf w x zeI) w x RX9 cX9_next 8 1 (rec12 l1 l2 l3 l4 s) 12 [some (.ref (zb w + o0)), some (.int l1), some (.int l2), some (.int l3), some (.int l4), none, none, none] [] s) : zJ (zQf w x zeI) w x RX9 cX9_next 8 1 (m_X9_next_106 o0 rec12 l1 l2 l3 l4 s) 106 [some (.ref (zb w + o0)), some (.int l1), some (.int l2), some (.int l3), some (.int l4), none, none, none] [] s := by
  unfold m_X9_next_106
  refine zj_iinc (v2 := l4 + 1) (lv' := [some (.ref (zb w + o0)), some (.int l1), some (.int l2), some (.int l3), some (.int (l4 + 1)), none, none, none]) dX9_next_106 rfl (by rw [zic_1]) (by decide) rfl rfl ?_
  refine zj_goto (tgt := 12) dX9_next_109 (by decide) ?_
  exact h_rec12 _ _ _ _ _
def m_X9_next_100 (o0 : Nat) (rec12 : Int32 → Int32 → Int32 → Int32 → zSt → Option (Int32 × zSt)) (l1 : Int32) (l4 : Int32) (l7 : Int32) (s : zSt) : Option (Int32 × zSt) :=
  m_X9_next_106 o0 rec12 l1 l4 l7 l4 s
set_option maxRecDepth 100000 in
theorem j_X9_next_100 {o0 : Nat} {rec12 : Int32 → Int32 → Int32 → Int32 → zSt → Option (Int32 × zSt)} {l1 : Int32} {l4 : Int32} {l7 : Int32} {s : zSt} {w : zWC} {x : zCX} (hr : zrt x = (some .int))  (h_o0 : zC o0 = 9) (h_rec12 : ∀ (l1 : Int32) (l2 : Int32) (l3 : Int32) (l4 : Int32) (s : zSt), zJ (zQf w x zeI) w x RX9 cX9_next 8 1 (rec12 l1 l2 l3 l4 s) 12 [some (.ref (zb w + o0)), some (.int l1), some (.int l2), some (.int l3), some (.int l4), none, none, none] [] s) : zJ (zQf w x zeI) w x RX9 cX9_next 8 1 (m_X9_next_100 o0 rec12 l1 l4 l7 s) 100 [some (.ref (zb w + o0)), some (.int l1), none, none, some (.int l4), none, none, some (.int l7)] [] s := by
  unfold m_X9_next_100
  refine zj_iload dX9_next_100 rfl ?_
  refine zj_istore_n (lv' := [some (.ref (zb w + o0)), some (.int l1), some (.int l4), none, some (.int l4), none, none, some (.int l7)]) dX9_next_102 rfl (by decide) rfl rfl ?_
  refine zj_iload dX9_next_103 rfl ?_
  refine zj_istore_n (lv' := [some (.ref (zb w + o0)), some (.int l1), some (.int l4), some (.int l7), some (.int l4), none, none, some (.int l7)]) dX9_next_105 rfl (by decide) rfl rfl ?_
  refine zj_weak [true, true, true, true, true, false, false, false] rfl ?_
  exact j_X9_next_106 hr h_o0 h_rec12
def m_X9_next_65 (o0 : Nat) (rec12 : Int32 → Int32 → Int32 → Int32 → zSt → Option (Int32 × zSt)) (l1 : Int32) (l2 : Int32) (l3 : Int32) (l4 : Int32) (l5 : Int32) (l6 : Int32) (t0 : Int32) (s : zSt) : Option (Int32 × zSt) :=
  (if l4 < 0 ∨ zN (zT o0 69) ≤ Int32.toNatClampNeg l4 then none else (if zI s (zT o0 69) (Int32.toNatClampNeg l4) = 0 then
  (if l5 = 0 then
    m_X9_next_106 o0 rec12 l1 l2 l3 l4 s
    else
    (if l6 = 0 then
      m_X9_next_106 o0 rec12 l1 l2 l3 l4 s
      else
      (if l2 < 0 then
        m_X9_next_100 o0 rec12 l1 l4 t0 s
        else
        (if t0 < l3 then
          m_X9_next_100 o0 rec12 l1 l4 t0 s
          else
          m_X9_next_106 o0 rec12 l1 l2 l3 l4 s))))
  else
  m_X9_next_106 o0 rec12 l1 l2 l3 l4 s))
set_option maxRecDepth 100000 in
theorem j_X9_next_65 {o0 : Nat} {rec12 : Int32 → Int32 → Int32 → Int32 → zSt → Option (Int32 × zSt)} {l1 : Int32} {l2 : Int32} {l3 : Int32} {l4 : Int32} {l5 : Int32} {l6 : Int32} {t0 : Int32} {s : zSt} {w : zWC} {x : zCX} (hr : zrt x = (some .int))  (h_o0 : zC o0 = 9) (h_rec12 : ∀ (l1 : Int32) (l2 : Int32) (l3 : Int32) (l4 : Int32) (s : zSt), zJ (zQf w x zeI) w x RX9 cX9_next 8 1 (rec12 l1 l2 l3 l4 s) 12 [some (.ref (zb w + o0)), some (.int l1), some (.int l2), some (.int l3), some (.int l4), none, none, none] [] s) : zJ (zQf w x zeI) w x RX9 cX9_next 8 1 (m_X9_next_65 o0 rec12 l1 l2 l3 l4 l5 l6 t0 s) 65 [some (.ref (zb w + o0)), some (.int l1), some (.int l2), some (.int l3), some (.int l4), some (.int l5), some (.int l6), none] [.int t0] s := by
  unfold m_X9_next_65
  refine zj_istore (lv' := [some (.ref (zb w + o0)), some (.int l1), some (.int l2), some (.int l3), some (.int l4), some (.int l5), some (.int l6), some (.int t0)]) dX9_next_65 (by decide) rfl rfl ?_
  refine zj_aload_n dX9_next_67 rfl ?_
  refine zj_getT dX9_next_68 fl_X9_136 rfl h_o0 ?_
  refine zj_iload dX9_next_71 rfl ?_
  refine zj_zald dX9_next_73 (zt_9_69 _ h_o0) ?_
  refine zj_if_ne (tgt := 106) dX9_next_74 (by decide) ?_ ?_
  · refine zj_iload dX9_next_77 rfl ?_
    refine zj_if_eq (tgt := 106) dX9_next_79 (by decide) ?_ ?_
    · refine zj_weak [true, true, true, true, true, false, false, false] rfl ?_
      exact j_X9_next_106 hr h_o0 h_rec12
    · refine zj_iload dX9_next_82 rfl ?_
      refine zj_if_eq (tgt := 106) dX9_next_84 (by decide) ?_ ?_
      · refine zj_weak [true, true, true, true, true, false, false, false] rfl ?_
        exact j_X9_next_106 hr h_o0 h_rec12
      · refine zj_iload_n dX9_next_87 rfl ?_
        refine zj_if_lt (tgt := 100) dX9_next_88 (by decide) ?_ ?_
        · refine zj_weak [true, true, false, false, true, false, false, true] rfl ?_
          exact j_X9_next_100 hr h_o0 h_rec12
        · refine zj_iload dX9_next_91 rfl ?_
          refine zj_iload_n dX9_next_93 rfl ?_
          refine zj_icmp_lt (tgt := 100) dX9_next_94 (by decide) ?_ ?_
          · refine zj_weak [true, true, false, false, true, false, false, true] rfl ?_
            exact j_X9_next_100 hr h_o0 h_rec12
          · refine zj_goto (tgt := 106) dX9_next_97 (by decide) ?_
            refine zj_weak [true, true, true, true, true, false, false, false] rfl ?_
            exact j_X9_next_106 hr h_o0 h_rec12
  · refine zj_weak [true, true, true, true, true, false, false, false] rfl ?_
    exact j_X9_next_106 hr h_o0 h_rec12
def bd_X9_next_12 (o0 : Nat) (rec12 : Int32 → Int32 → Int32 → Int32 → zSt → Option (Int32 × zSt)) (l1 : Int32) (l2 : Int32) (l3 : Int32) (l4 : Int32) (s : zSt) : Option (Int32 × zSt) :=
  (if l4 < zI s o0 22 then
  (if l4 < 0 ∨ zN (zT o0 14) ≤ Int32.toNatClampNeg l4 then none else zcl (m_X9_ones (l1 &&& (zI s (zT o0 14) (Int32.toNatClampNeg l4))) s) (fun r4 s3 => (if l4 < 0 ∨ zN (zT o0 14) ≤ Int32.toNatClampNeg l4 then none else zcl (m_X9_ones (l1 &&& ((zI s3 (zT o0 14) (Int32.toNatClampNeg l4)) ^^^ (-1))) s3) (fun r6 s5 => (if r6 < r4 then
    m_X9_next_65 o0 rec12 l1 l2 l3 l4 r4 r6 r4 s5
    else
    m_X9_next_65 o0 rec12 l1 l2 l3 l4 r4 r6 r6 s5)))))
  else
  some (l2, s))
def lp_X9_next_12 (o0 : Nat) : Nat → Int32 → Int32 → Int32 → Int32 → zSt → Option (Int32 × zSt)
  | 0, _, _, _, _, _ => none
  | n + 1, l1, l2, l3, l4, s => bd_X9_next_12 o0 (fun l1 l2 l3 l4 s => lp_X9_next_12 o0 n l1 l2 l3 l4 s) l1 l2 l3 l4 s
set_option maxRecDepth 100000 in
theorem jb_X9_next_12 {o0 : Nat} {rec12 : Int32 → Int32 → Int32 → Int32 → zSt → Option (Int32 × zSt)} {l1 : Int32} {l2 : Int32} {l3 : Int32} {l4 : Int32} {s : zSt} {w : zWC} {x : zCX} (hr : zrt x = (some .int))  (h_o0 : zC o0 = 9) (h_rec12 : ∀ (l1 : Int32) (l2 : Int32) (l3 : Int32) (l4 : Int32) (s : zSt), zJ (zQf w x zeI) w x RX9 cX9_next 8 1 (rec12 l1 l2 l3 l4 s) 12 [some (.ref (zb w + o0)), some (.int l1), some (.int l2), some (.int l3), some (.int l4), none, none, none] [] s) : zJ (zQf w x zeI) w x RX9 cX9_next 8 1 (bd_X9_next_12 o0 rec12 l1 l2 l3 l4 s) 12 [some (.ref (zb w + o0)), some (.int l1), some (.int l2), some (.int l3), some (.int l4), none, none, none] [] s := by
  unfold bd_X9_next_12
  refine zj_iload dX9_next_12 rfl ?_
  refine zj_aload_n dX9_next_14 rfl ?_
  refine zj_getI dX9_next_15 fl_X9_300 rfl h_o0 ?_
  refine zj_icmp_ge (tgt := 112) dX9_next_18 (by decide) ?_ ?_
  · refine zj_iload_n dX9_next_21 rfl ?_
    refine zj_aload_n dX9_next_22 rfl ?_
    refine zj_getT dX9_next_23 fl_X9_26 rfl h_o0 ?_
    refine zj_iload dX9_next_26 rfl ?_
    refine zj_iald dX9_next_28 (zt_9_14 _ h_o0) ?_
    refine zj_iand dX9_next_29 ?_
    refine zj_cSI1 ml_X9_390 (fun a h => c_X9_ones  h) (Nat.le_of_ble_eq_true rfl) (Nat.le_of_ble_eq_true rfl) dX9_next_30 (fun r4 s3 => ?_)
    refine zj_istore (lv' := [some (.ref (zb w + o0)), some (.int l1), some (.int l2), some (.int l3), some (.int l4), some (.int r4), none, none]) dX9_next_33 (by decide) rfl rfl ?_
    refine zj_iload_n dX9_next_35 rfl ?_
    refine zj_aload_n dX9_next_36 rfl ?_
    refine zj_getT dX9_next_37 fl_X9_26 rfl h_o0 ?_
    refine zj_iload dX9_next_40 rfl ?_
    refine zj_iald dX9_next_42 (zt_9_14 _ h_o0) ?_
    refine zj_iconst dX9_next_43 zic_m1 ?_
    refine zj_ixor dX9_next_44 ?_
    refine zj_iand dX9_next_45 ?_
    refine zj_cSI1 ml_X9_390 (fun a h => c_X9_ones  h) (Nat.le_of_ble_eq_true rfl) (Nat.le_of_ble_eq_true rfl) dX9_next_46 (fun r6 s5 => ?_)
    refine zj_istore (lv' := [some (.ref (zb w + o0)), some (.int l1), some (.int l2), some (.int l3), some (.int l4), some (.int r4), some (.int r6), none]) dX9_next_49 (by decide) rfl rfl ?_
    refine zj_iload dX9_next_51 rfl ?_
    refine zj_iload dX9_next_53 rfl ?_
    refine zj_icmp_le (tgt := 63) dX9_next_55 (by decide) ?_ ?_
    · refine zj_iload dX9_next_58 rfl ?_
      refine zj_goto (tgt := 65) dX9_next_60 (by decide) ?_
      exact j_X9_next_65 hr h_o0 h_rec12
    · refine zj_iload dX9_next_63 rfl ?_
      exact j_X9_next_65 hr h_o0 h_rec12
  · refine zj_iload_n dX9_next_112 rfl ?_
    exact zj_iret hr dX9_next_113
set_option maxRecDepth 100000 in
theorem jl_X9_next_12 {o0 : Nat} {w : zWC} {x : zCX} (hr : zrt x = (some .int))  (h_o0 : zC o0 = 9) : ∀ (n : Nat) (l1 : Int32) (l2 : Int32) (l3 : Int32) (l4 : Int32) (s : zSt), zJ (zQf w x zeI) w x RX9 cX9_next 8 1 (lp_X9_next_12 o0 n l1 l2 l3 l4 s) 12 [some (.ref (zb w + o0)), some (.int l1), some (.int l2), some (.int l3), some (.int l4), none, none, none] [] s := by
  intro n
  induction n with
  | zero => intro l1 l2 l3 l4 s; exact zj_none
  | succ n ih => intro l1 l2 l3 l4 s; exact jb_X9_next_12 hr h_o0 (fun l1 l2 l3 l4 s => ih l1 l2 l3 l4 s)
def m_X9_next (o0 : Nat) (s : zSt) : Option (Int32 × zSt) :=
  zcl (m_X9_mayBe o0 s) (fun r2 s1 => lp_X9_next_12 o0 zFuel r2 (-1) 0 0 s1)
set_option maxRecDepth 100000 in
theorem c_X9_next {w : zWC} {o0 : Nat} {s : zSt} (h_o0 : zC o0 = 9) {a : Int32 × zSt} (hm : m_X9_next o0 s = some a) : zCn w 1 yX9_next cX9_next 8 (some .int) [.ref (zb w + o0)] s (zeI a).1 (zeI a).2 :=
  zCn_of (own := RX9) (lv := [some (.ref (zb w + o0)), none, none, none, none, none, none, none]) (by decide +kernel) rfl (Nat.le_of_ble_eq_true rfl) rfl (fun x hr => by
    unfold m_X9_next
    refine zj_aload_n dX9_next_0 rfl ?_
    refine zj_cVI0 ml_X9_480 (fun a h => c_X9_mayBe h_o0 h) h_o0 rfl (Nat.le_of_ble_eq_true rfl) (Nat.le_of_ble_eq_true rfl) dX9_next_1 (fun r2 s1 => ?_)
    refine zj_istore_n (lv' := [some (.ref (zb w + o0)), some (.int r2), none, none, none, none, none, none]) dX9_next_4 rfl (by decide) rfl rfl ?_
    refine zj_iconst dX9_next_5 zic_m1 ?_
    refine zj_istore_n (lv' := [some (.ref (zb w + o0)), some (.int r2), some (.int (-1)), none, none, none, none, none]) dX9_next_6 rfl (by decide) rfl rfl ?_
    refine zj_iconst dX9_next_7 zic_0 ?_
    refine zj_istore_n (lv' := [some (.ref (zb w + o0)), some (.int r2), some (.int (-1)), some (.int 0), none, none, none, none]) dX9_next_8 rfl (by decide) rfl rfl ?_
    refine zj_iconst dX9_next_9 zic_0 ?_
    refine zj_istore (lv' := [some (.ref (zb w + o0)), some (.int r2), some (.int (-1)), some (.int 0), some (.int 0), none, none, none]) dX9_next_10 (by decide) rfl rfl ?_
    exact jl_X9_next_12 hr h_o0 zFuel _ _ _ _ _) hm
