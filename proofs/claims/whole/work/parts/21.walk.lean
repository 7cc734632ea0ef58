def bd_X9_offOf_16 (o0 : Nat) (p1 : Int32) (rec16 : Int64 → Int32 → zSt → Option (Int64 × zSt)) (k47 : Int64 → zSt → Option (Int64 × zSt)) (l2 : Int64) (l4 : Int32) (s : zSt) : Option (Int64 × zSt) :=
  (if l4 < 4 then
  zcl (m_X9_goes o0 p1 l4 s) (fun r2 s1 => (if l4 < 0 ∨ zN (zT o0 35) ≤ Int32.toNatClampNeg l4 then none else rec16 (l2 - (r2.toInt64 * (zL s1 (zT o0 35) (Int32.toNatClampNeg l4)))) (l4 + 1) s1))
  else
  k47 l2 s)
def lp_X9_offOf_16 (o0 : Nat) (p1 : Int32) (k47 : Int64 → zSt → Option (Int64 × zSt)) : Nat → Int64 → Int32 → zSt → Option (Int64 × zSt)
  | 0, _, _, _ => none
  | n + 1, l2, l4, s => bd_X9_offOf_16 o0 p1 (fun l2 l4 s => lp_X9_offOf_16 o0 p1 k47 n l2 l4 s) k47 l2 l4 s
set_option maxRecDepth 100000 in
theorem jb_X9_offOf_16 {o0 : Nat} {p1 : Int32} {rec16 : Int64 → Int32 → zSt → Option (Int64 × zSt)} {k47 : Int64 → zSt → Option (Int64 × zSt)} {l2 : Int64} {l4 : Int32} {s : zSt} {w : zWC} {x : zCX} (hr : zrt x = (some .long))  (h_o0 : zC o0 = 9) (h_rec16 : ∀ (l2 : Int64) (l4 : Int32) (s : zSt), zJ (zQf w x zeL) w x RX9 cX9_offOf 5 1 (rec16 l2 l4 s) 16 [some (.ref (zb w + o0)), some (.int p1), some (.long l2), none, some (.int l4)] [] s) (h_k47 : ∀ (l2 : Int64) (s : zSt), zJ (zQf w x zeL) w x RX9 cX9_offOf 5 1 (k47 l2 s) 47 [none, none, some (.long l2), none, none] [] s) : zJ (zQf w x zeL) w x RX9 cX9_offOf 5 1 (bd_X9_offOf_16 o0 p1 rec16 k47 l2 l4 s) 16 [some (.ref (zb w + o0)), some (.int p1), some (.long l2), none, some (.int l4)] [] s := by
  unfold bd_X9_offOf_16
  refine zj_iload dX9_offOf_16 rfl ?_
  refine zj_iconst dX9_offOf_18 zic_4 ?_
  refine zj_icmp_ge (tgt := 47) dX9_offOf_19 (by decide) ?_ ?_
  · refine zj_lload_n dX9_offOf_22 rfl ?_
    refine zj_aload_n dX9_offOf_23 rfl ?_
    refine zj_iload_n dX9_offOf_24 rfl ?_
    refine zj_iload dX9_offOf_25 rfl ?_
    refine zj_cVI2 ml_X9_366 (fun a h => c_X9_goes h_o0 h) h_o0 rfl (Nat.le_of_ble_eq_true rfl) (Nat.le_of_ble_eq_true rfl) dX9_offOf_27 (fun r2 s1 => ?_)
    refine zj_i2l dX9_offOf_30 ?_
    refine zj_aload_n dX9_offOf_31 rfl ?_
    refine zj_getT dX9_offOf_32 fl_X9_64 rfl h_o0 ?_
    refine zj_iload dX9_offOf_35 rfl ?_
    refine zj_lald dX9_offOf_37 (zt_9_35 _ h_o0) ?_
    refine zj_lmul dX9_offOf_38 ?_
    refine zj_lsub dX9_offOf_39 ?_
    refine zj_lstore_n (lv' := [some (.ref (zb w + o0)), some (.int p1), some (.long (l2 - (r2.toInt64 * (zL s1 (zT o0 35) (Int32.toNatClampNeg l4))))), none, some (.int l4)]) dX9_offOf_40 rfl (by decide) rfl rfl ?_
    refine zj_iinc (v2 := l4 + 1) (lv' := [some (.ref (zb w + o0)), some (.int p1), some (.long (l2 - (r2.toInt64 * (zL s1 (zT o0 35) (Int32.toNatClampNeg l4))))), none, some (.int (l4 + 1))]) dX9_offOf_41 rfl (by rw [zic_1]) (by decide) rfl rfl ?_
    refine zj_goto (tgt := 16) dX9_offOf_44 (by decide) ?_
    exact h_rec16 _ _ _
  · refine zj_weak [false, false, true, false, false] rfl ?_
    exact h_k47 _ _
set_option maxRecDepth 100000 in
theorem jl_X9_offOf_16 {o0 : Nat} {p1 : Int32} {k47 : Int64 → zSt → Option (Int64 × zSt)} {w : zWC} {x : zCX} (hr : zrt x = (some .long))  (h_o0 : zC o0 = 9) (h_k47 : ∀ (l2 : Int64) (s : zSt), zJ (zQf w x zeL) w x RX9 cX9_offOf 5 1 (k47 l2 s) 47 [none, none, some (.long l2), none, none] [] s) : ∀ (n : Nat) (l2 : Int64) (l4 : Int32) (s : zSt), zJ (zQf w x zeL) w x RX9 cX9_offOf 5 1 (lp_X9_offOf_16 o0 p1 k47 n l2 l4 s) 16 [some (.ref (zb w + o0)), some (.int p1), some (.long l2), none, some (.int l4)] [] s := by
  intro n
  induction n with
  | zero => intro l2 l4 s; exact zj_none
  | succ n ih => intro l2 l4 s; exact jb_X9_offOf_16 hr h_o0 (fun l2 l4 s => ih l2 l4 s) h_k47
def m_X9_offOf (o0 : Nat) (p1 : Int32) (s : zSt) : Option (Int64 × zSt) :=
  (if p1 < 0 ∨ zN (zT o0 27) ≤ Int32.toNatClampNeg p1 then none else lp_X9_offOf_16 o0 p1 (fun l2_3 s_3 => (if l2_3 < 0 then
  some (-l2_3, s_3)
  else
  some (l2_3, s_3))) zFuel (((zI s (zT o0 27) (Int32.toNatClampNeg p1)).toInt64) * (zL s o0 36)) 0 s)
set_option maxRecDepth 100000 in
theorem c_X9_offOf {w : zWC} {o0 : Nat} {p1 : Int32} {s : zSt} (h_o0 : zC o0 = 9) {a : Int64 × zSt} (hm : m_X9_offOf o0 p1 s = some a) : zCn w 1 yX9_offOf cX9_offOf 5 (some .long) [.ref (zb w + o0), .int p1] s (zeL a).1 (zeL a).2 :=
  zCn_of (own := RX9) (lv := [some (.ref (zb w + o0)), some (.int p1), none, none, none]) (by decide +kernel) rfl (Nat.le_of_ble_eq_true rfl) rfl (fun x hr => by
    unfold m_X9_offOf
    refine zj_aload_n dX9_offOf_0 rfl ?_
    refine zj_getT dX9_offOf_1 fl_X9_46 rfl h_o0 ?_
    refine zj_iload_n dX9_offOf_4 rfl ?_
    refine zj_iald dX9_offOf_5 (zt_9_27 _ h_o0) ?_
    refine zj_i2l dX9_offOf_6 ?_
    refine zj_aload_n dX9_offOf_7 rfl ?_
    refine zj_getL dX9_offOf_8 fl_X9_373 rfl h_o0 ?_
    refine zj_lmul dX9_offOf_11 ?_
    refine zj_lstore_n (lv' := [some (.ref (zb w + o0)), some (.int p1), some (.long (((zI s (zT o0 27) (Int32.toNatClampNeg p1)).toInt64) * (zL s o0 36))), none, none]) dX9_offOf_12 rfl (by decide) rfl rfl ?_
    refine zj_iconst dX9_offOf_13 zic_0 ?_
    refine zj_istore (lv' := [some (.ref (zb w + o0)), some (.int p1), some (.long (((zI s (zT o0 27) (Int32.toNatClampNeg p1)).toInt64) * (zL s o0 36))), none, some (.int 0)]) dX9_offOf_14 (by decide) rfl rfl ?_
    refine jl_X9_offOf_16 hr h_o0 (fun l2_3 s_3 => ?_) zFuel _ _ _
    refine zj_lload_n dX9_offOf_47 rfl ?_
    refine zj_lconst (v := 0) dX9_offOf_48 rfl ?_
    refine zj_lcmp_ge (tgt := 58) dX9_offOf_49 dX9_offOf_50 (by decide) ?_ ?_
    · refine zj_lload_n dX9_offOf_53 rfl ?_
      refine zj_lneg dX9_offOf_54 ?_
      refine zj_goto (tgt := 59) dX9_offOf_55 (by decide) ?_
      exact zj_lret hr dX9_offOf_59
    · refine zj_lload_n dX9_offOf_58 rfl ?_
      exact zj_lret hr dX9_offOf_59) hm
def m_X9_fit_100 (o0 : Nat) (p1 : Int32) (p2 : Int32) (p3 : Int32) (p4 : Int32) (rec55 : Int64 → Int32 → zSt → Option (Int64 × zSt)) (k106 : Int64 → zSt → Option (Int64 × zSt)) (l5 : Int64) (l7 : Int32) (s : zSt) : Option (Int64 × zSt) :=
  rec55 l5 (l7 + 1) s
set_option maxRecDepth 100000 in
theorem j_X9_fit_100 {o0 : Nat} {p1 : Int32} {p2 : Int32} {p3 : Int32} {p4 : Int32} {rec55 : Int64 → Int32 → zSt → Option (Int64 × zSt)} {k106 : Int64 → zSt → Option (Int64 × zSt)} {l5 : Int64} {l7 : Int32} {s : zSt} {w : zWC} {x : zCX} (hr : zrt x = (some .long))  (h_o0 : zC o0 = 9) (h_rec55 : ∀ (l5 : Int64) (l7 : Int32) (s : zSt), zJ (zQf w x zeL) w x RX9 cX9_fit 8 4 (rec55 l5 l7 s) 55 [some (.ref (zb w + o0)), none, some (.int p2), some (.int p3), some (.int p4), some (.long l5), none, some (.int l7)] [] s) (h_k106 : ∀ (l5 : Int64) (s : zSt), zJ (zQf w x zeL) w x RX9 cX9_fit 8 4 (k106 l5 s) 106 [some (.ref (zb w + o0)), none, some (.int p2), some (.int p3), none, some (.long l5), none, none] [] s) : zJ (zQf w x zeL) w x RX9 cX9_fit 8 4 (m_X9_fit_100 o0 p1 p2 p3 p4 rec55 k106 l5 l7 s) 100 [some (.ref (zb w + o0)), none, some (.int p2), some (.int p3), some (.int p4), some (.long l5), none, some (.int l7)] [] s := by
  unfold m_X9_fit_100
  refine zj_iinc (v2 := l7 + 1) (lv' := [some (.ref (zb w + o0)), none, some (.int p2), some (.int p3), some (.int p4), some (.long l5), none, some (.int (l7 + 1))]) dX9_fit_100 rfl (by rw [zic_1]) (by decide) rfl rfl ?_
  refine zj_goto (tgt := 55) dX9_fit_103 (by decide) ?_
  exact h_rec55 _ _ _
def bd_X9_fit_55 (o0 : Nat) (p1 : Int32) (p2 : Int32) (p3 : Int32) (p4 : Int32) (rec55 : Int64 → Int32 → zSt → Option (Int64 × zSt)) (k106 : Int64 → zSt → Option (Int64 × zSt)) (l5 : Int64) (l7 : Int32) (s : zSt) : Option (Int64 × zSt) :=
  (if l7 < zI s o0 30 then
  (if p2 = 4 then
    zcl (m_X9_counts o0 l7 p4 s) (fun r5 s4 => (if r5 = 0 then
      m_X9_fit_100 o0 p1 p2 p3 p4 rec55 k106 l5 l7 s4
      else
      zcl (m_X9_offOf o0 l7 s4) (fun r7 s6 => (if l5 < r7 then
        zcl (m_X9_offOf o0 l7 s6) (fun r9 s8 => m_X9_fit_100 o0 p1 p2 p3 p4 rec55 k106 r9 l7 s8)
        else
        m_X9_fit_100 o0 p1 p2 p3 p4 rec55 k106 l5 l7 s6))))
    else
    k106 l5 s)
  else
  k106 l5 s)
def lp_X9_fit_55 (o0 : Nat) (p1 : Int32) (p2 : Int32) (p3 : Int32) (p4 : Int32) (k106 : Int64 → zSt → Option (Int64 × zSt)) : Nat → Int64 → Int32 → zSt → Option (Int64 × zSt)
  | 0, _, _, _ => none
  | n + 1, l5, l7, s => bd_X9_fit_55 o0 p1 p2 p3 p4 (fun l5 l7 s => lp_X9_fit_55 o0 p1 p2 p3 p4 k106 n l5 l7 s) k106 l5 l7 s
set_option maxRecDepth 100000 in
theorem jb_X9_fit_55 {o0 : Nat} {p1 : Int32} {p2 : Int32} {p3 : Int32} {p4 : Int32} {rec55 : Int64 → Int32 → zSt → Option (Int64 × zSt)} {k106 : Int64 → zSt → Option (Int64 × zSt)} {l5 : Int64} {l7 : Int32} {s : zSt} {w : zWC} {x : zCX} (hr : zrt x = (some .long))  (h_o0 : zC o0 = 9) (h_rec55 : ∀ (l5 : Int64) (l7 : Int32) (s : zSt), zJ (zQf w x zeL) w x RX9 cX9_fit 8 4 (rec55 l5 l7 s) 55 [some (.ref (zb w + o0)), none, some (.int p2), some (.int p3), some (.int p4), some (.long l5), none, some (.int l7)] [] s) (h_k106 : ∀ (l5 : Int64) (s : zSt), zJ (zQf w x zeL) w x RX9 cX9_fit 8 4 (k106 l5 s) 106 [some (.ref (zb w + o0)), none, some (.int p2), some (.int p3), none, some (.long l5), none, none] [] s) : zJ (zQf w x zeL) w x RX9 cX9_fit 8 4 (bd_X9_fit_55 o0 p1 p2 p3 p4 rec55 k106 l5 l7 s) 55 [some (.ref (zb w + o0)), none, some (.int p2), some (.int p3), some (.int p4), some (.long l5), none, some (.int l7)] [] s := by
  unfold bd_X9_fit_55
  refine zj_iload dX9_fit_55 rfl ?_
  refine zj_aload_n dX9_fit_57 rfl ?_
  refine zj_getI dX9_fit_58 fl_X9_347 rfl h_o0 ?_
  refine zj_icmp_ge (tgt := 106) dX9_fit_61 (by decide) ?_ ?_
  · refine zj_iload_n dX9_fit_64 rfl ?_
    refine zj_iconst dX9_fit_65 zic_4 ?_
    refine zj_icmp_ne (tgt := 106) dX9_fit_66 (by decide) ?_ ?_
    · refine zj_aload_n dX9_fit_69 rfl ?_
      refine zj_iload dX9_fit_70 rfl ?_
      refine zj_iload dX9_fit_72 rfl ?_
      refine zj_cVI2 ml_X9_362 (fun a h => c_X9_counts h_o0 h) h_o0 rfl (Nat.le_of_ble_eq_true rfl) (Nat.le_of_ble_eq_true rfl) dX9_fit_74 (fun r5 s4 => ?_)
      refine zj_if_eq (tgt := 100) dX9_fit_77 (by decide) ?_ ?_
      · exact j_X9_fit_100 hr h_o0 h_rec55 h_k106
      · refine zj_aload_n dX9_fit_80 rfl ?_
        refine zj_iload dX9_fit_81 rfl ?_
        refine zj_cVL1 ml_X9_379 (fun a h => c_X9_offOf h_o0 h) h_o0 rfl (Nat.le_of_ble_eq_true rfl) (Nat.le_of_ble_eq_true rfl) dX9_fit_83 (fun r7 s6 => ?_)
        refine zj_lload dX9_fit_86 rfl ?_
        refine zj_lcmp_le (tgt := 100) dX9_fit_88 dX9_fit_89 (by decide) ?_ ?_
        · refine zj_aload_n dX9_fit_92 rfl ?_
          refine zj_iload dX9_fit_93 rfl ?_
          refine zj_cVL1 ml_X9_379 (fun a h => c_X9_offOf h_o0 h) h_o0 rfl (Nat.le_of_ble_eq_true rfl) (Nat.le_of_ble_eq_true rfl) dX9_fit_95 (fun r9 s8 => ?_)
          refine zj_lstore (lv' := [some (.ref (zb w + o0)), none, some (.int p2), some (.int p3), some (.int p4), some (.long r9), none, some (.int l7)]) dX9_fit_98 (by decide) rfl rfl ?_
          exact j_X9_fit_100 hr h_o0 h_rec55 h_k106
        · exact j_X9_fit_100 hr h_o0 h_rec55 h_k106
    · refine zj_weak [true, false, true, true, false, true, false, false] rfl ?_
      exact h_k106 _ _
  · refine zj_weak [true, false, true, true, false, true, false, false] rfl ?_
    exact h_k106 _ _
set_option maxRecDepth 100000 in
theorem jl_X9_fit_55 {o0 : Nat} {p1 : Int32} {p2 : Int32} {p3 : Int32} {p4 : Int32} {k106 : Int64 → zSt → Option (Int64 × zSt)} {w : zWC} {x : zCX} (hr : zrt x = (some .long))  (h_o0 : zC o0 = 9) (h_k106 : ∀ (l5 : Int64) (s : zSt), zJ (zQf w x zeL) w x RX9 cX9_fit 8 4 (k106 l5 s) 106 [some (.ref (zb w + o0)), none, some (.int p2), some (.int p3), none, some (.long l5), none, none] [] s) : ∀ (n : Nat) (l5 : Int64) (l7 : Int32) (s : zSt), zJ (zQf w x zeL) w x RX9 cX9_fit 8 4 (lp_X9_fit_55 o0 p1 p2 p3 p4 k106 n l5 l7 s) 55 [some (.ref (zb w + o0)), none, some (.int p2), some (.int p3), some (.int p4), some (.long l5), none, some (.int l7)] [] s := by
  intro n
  induction n with
  | zero => intro l5 l7 s; exact zj_none
  | succ n ih => intro l5 l7 s; exact jb_X9_fit_55 hr h_o0 (fun l5 l7 s => ih l5 l7 s) h_k106
def m_X9_fit_149 (o0 : Nat) (p1 : Int32) (p2 : Int32) (p3 : Int32) (p4 : Int32) (t0 : Nat) (t1 : Int64) (t2 : Int64) (s : zSt) : Option (Int64 × zSt) :=
  zcv (m_X9_found t0 t1 t2 s) (fun s11 => zcl (m_X9_part o0 p3 s11) (fun r13 s12 => some (r13, s12)))
set_option maxRecDepth 100000 in
theorem j_X9_fit_149 {o0 : Nat} {p1 : Int32} {p2 : Int32} {p3 : Int32} {p4 : Int32} {t0 : Nat} {t1 : Int64} {t2 : Int64} {s : zSt} {w : zWC} {x : zCX} (hr : zrt x = (some .long))  (h_o0 : zC o0 = 9) (ht0 : zC t0 = 9) : zJ (zQf w x zeL) w x RX9 cX9_fit 8 4 (m_X9_fit_149 o0 p1 p2 p3 p4 t0 t1 t2 s) 149 [some (.ref (zb w + o0)), none, none, some (.int p3), none, none, none, none] [.long t2, .long t1, .ref (zb w + t0)] s := by
  unfold m_X9_fit_149
  refine zj_cVV2 ml_X9_315 (fun a h => c_X9_found ht0 h) ht0 rfl (Nat.le_of_ble_eq_true rfl) (Nat.le_of_ble_eq_true rfl) dX9_fit_149 (fun s11 => ?_)
  refine zj_aload_n dX9_fit_152 rfl ?_
  refine zj_iload_n dX9_fit_153 rfl ?_
  refine zj_cVL1 ml_X9_336 (fun a h => c_X9_part h_o0 h) h_o0 rfl (Nat.le_of_ble_eq_true rfl) (Nat.le_of_ble_eq_true rfl) dX9_fit_154 (fun r13 s12 => ?_)
  exact zj_lret hr dX9_fit_157
def m_X9_fit_145 (o0 : Nat) (p1 : Int32) (p2 : Int32) (p3 : Int32) (p4 : Int32) (t0 : Nat) (t1 : Int64) (s : zSt) : Option (Int64 × zSt) :=
  m_X9_fit_149 o0 p1 p2 p3 p4 t0 t1 (zL s o0 36) s
set_option maxRecDepth 100000 in
theorem j_X9_fit_145 {o0 : Nat} {p1 : Int32} {p2 : Int32} {p3 : Int32} {p4 : Int32} {t0 : Nat} {t1 : Int64} {s : zSt} {w : zWC} {x : zCX} (hr : zrt x = (some .long))  (h_o0 : zC o0 = 9) (ht0 : zC t0 = 9) : zJ (zQf w x zeL) w x RX9 cX9_fit 8 4 (m_X9_fit_145 o0 p1 p2 p3 p4 t0 t1 s) 145 [some (.ref (zb w + o0)), none, none, some (.int p3), none, none, none, none] [.long t1, .ref (zb w + t0)] s := by
  unfold m_X9_fit_145
  refine zj_aload_n dX9_fit_145 rfl ?_
  refine zj_getL dX9_fit_146 fl_X9_373 rfl h_o0 ?_
  exact j_X9_fit_149 hr h_o0 ht0
def m_X9_fit_123 (o0 : Nat) (p1 : Int32) (p2 : Int32) (p3 : Int32) (p4 : Int32) (t0 : Nat) (t1 : Int64) (s : zSt) : Option (Int64 × zSt) :=
  (if p2 = 4 then
  (if zL s o0 36 < 0 then
    m_X9_fit_149 o0 p1 p2 p3 p4 t0 t1 (-(zL s o0 36)) s
    else
    m_X9_fit_145 o0 p1 p2 p3 p4 t0 t1 s)
  else
  m_X9_fit_145 o0 p1 p2 p3 p4 t0 t1 s)
set_option maxRecDepth 100000 in
theorem j_X9_fit_123 {o0 : Nat} {p1 : Int32} {p2 : Int32} {p3 : Int32} {p4 : Int32} {t0 : Nat} {t1 : Int64} {s : zSt} {w : zWC} {x : zCX} (hr : zrt x = (some .long))  (h_o0 : zC o0 = 9) (ht0 : zC t0 = 9) : zJ (zQf w x zeL) w x RX9 cX9_fit 8 4 (m_X9_fit_123 o0 p1 p2 p3 p4 t0 t1 s) 123 [some (.ref (zb w + o0)), none, some (.int p2), some (.int p3), none, none, none, none] [.long t1, .ref (zb w + t0)] s := by
  unfold m_X9_fit_123
  refine zj_iload_n dX9_fit_123 rfl ?_
  refine zj_iconst dX9_fit_124 zic_4 ?_
  refine zj_icmp_ne (tgt := 145) dX9_fit_125 (by decide) ?_ ?_
  · refine zj_aload_n dX9_fit_128 rfl ?_
    refine zj_getL dX9_fit_129 fl_X9_373 rfl h_o0 ?_
    refine zj_lconst (v := 0) dX9_fit_132 rfl ?_
    refine zj_lcmp_ge (tgt := 145) dX9_fit_133 dX9_fit_134 (by decide) ?_ ?_
    · refine zj_aload_n dX9_fit_137 rfl ?_
      refine zj_getL dX9_fit_138 fl_X9_373 rfl h_o0 ?_
      refine zj_lneg dX9_fit_141 ?_
      refine zj_goto (tgt := 149) dX9_fit_142 (by decide) ?_
      refine zj_weak [true, false, false, true, false, false, false, false] rfl ?_
      exact j_X9_fit_149 hr h_o0 ht0
    · refine zj_weak [true, false, false, true, false, false, false, false] rfl ?_
      exact j_X9_fit_145 hr h_o0 ht0
  · refine zj_weak [true, false, false, true, false, false, false, false] rfl ?_
    exact j_X9_fit_145 hr h_o0 ht0
def m_X9_fit_106 (o0 : Nat) (p1 : Int32) (p2 : Int32) (p3 : Int32) (p4 : Int32) (l5 : Int64) (s : zSt) : Option (Int64 × zSt) :=
  (if p2 = 4 then
  m_X9_fit_123 o0 p1 p2 p3 p4 o0 l5 s
  else
  (if p2 < 0 ∨ zN (zT o0 35) ≤ Int32.toNatClampNeg p2 then none else m_X9_fit_123 o0 p1 p2 p3 p4 o0 (zL s (zT o0 35) (Int32.toNatClampNeg p2)) s))
set_option maxRecDepth 100000 in
theorem j_X9_fit_106 {o0 : Nat} {p1 : Int32} {p2 : Int32} {p3 : Int32} {p4 : Int32} {l5 : Int64} {s : zSt} {w : zWC} {x : zCX} (hr : zrt x = (some .long))  (h_o0 : zC o0 = 9) : zJ (zQf w x zeL) w x RX9 cX9_fit 8 4 (m_X9_fit_106 o0 p1 p2 p3 p4 l5 s) 106 [some (.ref (zb w + o0)), none, some (.int p2), some (.int p3), none, some (.long l5), none, none] [] s := by
  unfold m_X9_fit_106
  refine zj_aload_n dX9_fit_106 rfl ?_
  refine zj_iload_n dX9_fit_107 rfl ?_
  refine zj_iconst dX9_fit_108 zic_4 ?_
  refine zj_icmp_ne (tgt := 117) dX9_fit_109 (by decide) ?_ ?_
  · refine zj_lload dX9_fit_112 rfl ?_
    refine zj_goto (tgt := 123) dX9_fit_114 (by decide) ?_
    refine zj_weak [true, false, true, true, false, false, false, false] rfl ?_
    exact j_X9_fit_123 hr h_o0 h_o0
  · refine zj_aload_n dX9_fit_117 rfl ?_
    refine zj_getT dX9_fit_118 fl_X9_64 rfl h_o0 ?_
    refine zj_iload_n dX9_fit_121 rfl ?_
    refine zj_lald dX9_fit_122 (zt_9_35 _ h_o0) ?_
    refine zj_weak [true, false, true, true, false, false, false, false] rfl ?_
    exact j_X9_fit_123 hr h_o0 h_o0
def m_X9_fit (o0 : Nat) (p1 : Int32) (p2 : Int32) (p3 : Int32) (p4 : Int32) (s : zSt) : Option (Int64 × zSt) :=
  (if p1 < 0 then
  some ((-1000000000000), s)
  else
  (if 2 < p1 then
    some ((-1000000000000), s)
    else
    (if p2 < 0 then
      some ((-1000000000000), s)
      else
      (if 4 < p2 then
        some ((-1000000000000), s)
        else
        zcl (m_X9_isPart p3 s) (fun r2 s1 => (if r2 = 0 then
          some ((-1000000000000), s1)
          else
          zcv (m_X9_seekFit o0 p1 p4 s1) (fun s3 => (if zL s3 o0 36 = 0 then
            some ((-1000000000000), s3)
            else
            lp_X9_fit_55 o0 p1 p2 p3 p4 (fun l5_10 s_10 => m_X9_fit_106 o0 p1 p2 p3 p4 l5_10 s_10) zFuel 0 0 s3))))))))
set_option maxRecDepth 100000 in
theorem c_X9_fit {w : zWC} {o0 : Nat} {p1 : Int32} {p2 : Int32} {p3 : Int32} {p4 : Int32} {s : zSt} (h_o0 : zC o0 = 9) {a : Int64 × zSt} (hm : m_X9_fit o0 p1 p2 p3 p4 s = some a) : zCn w 4 yX9_fit cX9_fit 8 (some .long) [.ref (zb w + o0), .int p1, .int p2, .int p3, .int p4] s (zeL a).1 (zeL a).2 :=
  zCn_of (own := RX9) (lv := [some (.ref (zb w + o0)), some (.int p1), some (.int p2), some (.int p3), some (.int p4), none, none, none]) (by decide +kernel) rfl (Nat.le_of_ble_eq_true rfl) rfl (fun x hr => by
    unfold m_X9_fit
    refine zj_iload_n dX9_fit_0 rfl ?_
    refine zj_if_lt (tgt := 25) dX9_fit_1 (by decide) ?_ ?_
    · refine zj_ldc2 dX9_fit_25 kcL_X9_330 ?_
      exact zj_lret hr dX9_fit_28
    · refine zj_iload_n dX9_fit_4 rfl ?_
      refine zj_iconst dX9_fit_5 zic_2 ?_
      refine zj_icmp_gt (tgt := 25) dX9_fit_6 (by decide) ?_ ?_
      · refine zj_ldc2 dX9_fit_25 kcL_X9_330 ?_
        exact zj_lret hr dX9_fit_28
      · refine zj_iload_n dX9_fit_9 rfl ?_
        refine zj_if_lt (tgt := 25) dX9_fit_10 (by decide) ?_ ?_
        · refine zj_ldc2 dX9_fit_25 kcL_X9_330 ?_
          exact zj_lret hr dX9_fit_28
        · refine zj_iload_n dX9_fit_13 rfl ?_
          refine zj_iconst dX9_fit_14 zic_4 ?_
          refine zj_icmp_gt (tgt := 25) dX9_fit_15 (by decide) ?_ ?_
          · refine zj_ldc2 dX9_fit_25 kcL_X9_330 ?_
            exact zj_lret hr dX9_fit_28
          · refine zj_iload_n dX9_fit_18 rfl ?_
            refine zj_cSI1 ml_X9_327 (fun a h => c_X9_isPart  h) (Nat.le_of_ble_eq_true rfl) (Nat.le_of_ble_eq_true rfl) dX9_fit_19 (fun r2 s1 => ?_)
            refine zj_if_ne (tgt := 29) dX9_fit_22 (by decide) ?_ ?_
            · refine zj_ldc2 dX9_fit_25 kcL_X9_330 ?_
              exact zj_lret hr dX9_fit_28
            · refine zj_aload_n dX9_fit_29 rfl ?_
              refine zj_iload_n dX9_fit_30 rfl ?_
              refine zj_iload dX9_fit_31 rfl ?_
              refine zj_cVV2 ml_X9_376 (fun a h => c_X9_seekFit h_o0 h) h_o0 rfl (Nat.le_of_ble_eq_true rfl) (Nat.le_of_ble_eq_true rfl) dX9_fit_33 (fun s3 => ?_)
              refine zj_aload_n dX9_fit_36 rfl ?_
              refine zj_getL dX9_fit_37 fl_X9_373 rfl h_o0 ?_
              refine zj_lconst (v := 0) dX9_fit_40 rfl ?_
              refine zj_lcmp_ne (tgt := 49) dX9_fit_41 dX9_fit_42 (by decide) ?_ ?_
              · refine zj_ldc2 dX9_fit_45 kcL_X9_330 ?_
                exact zj_lret hr dX9_fit_48
              · refine zj_lconst (v := 0) dX9_fit_49 rfl ?_
                refine zj_lstore (lv' := [some (.ref (zb w + o0)), some (.int p1), some (.int p2), some (.int p3), some (.int p4), some (.long 0), none, none]) dX9_fit_50 (by decide) rfl rfl ?_
                refine zj_iconst dX9_fit_52 zic_0 ?_
                refine zj_istore (lv' := [some (.ref (zb w + o0)), some (.int p1), some (.int p2), some (.int p3), some (.int p4), some (.long 0), none, some (.int 0)]) dX9_fit_53 (by decide) rfl rfl ?_
                refine zj_weak [true, false, true, true, true, true, false, true] rfl ?_
                refine jl_X9_fit_55 hr h_o0 (fun l5_10 s_10 => ?_) zFuel _ _ _
                exact j_X9_fit_106 hr h_o0) hm
def m_X9_world (o0 : Nat) (p1 : Int32) (s : zSt) : Option (Int64 × zSt) :=
  zcv (m_X9_seekFit o0 1 p1 s) (fun s1 => (if zL s1 o0 36 = 0 then
  some ((-1), s1)
  else
  (if (1 : Int32) < 0 ∨ zN (zT o0 35) ≤ Int32.toNatClampNeg 1 then none else zcv (m_X9_found o0 (zL s1 (zT o0 35) (Int32.toNatClampNeg 1)) (zL s1 o0 36) s1) (fun s2 => zcl (m_X9_down ((zL s2 o0 23) * 1000) (zL s2 o0 24) s2) (fun r4 s3 => (if 0 < r4 then
    zcv (m_X9_seekPull o0 s3) (fun s5 => zcl (m_X9_down ((zL s5 o0 23) * 100000) ((zL s5 o0 24) * r4) s5) (fun r7 s6 => some (r7, s6)))
    else
    some ((-1), s3)))))))
set_option maxRecDepth 100000 in
theorem c_X9_world {w : zWC} {o0 : Nat} {p1 : Int32} {s : zSt} (h_o0 : zC o0 = 9) {a : Int64 × zSt} (hm : m_X9_world o0 p1 s = some a) : zCn w 4 yX9_world cX9_world 4 (some .long) [.ref (zb w + o0), .int p1] s (zeL a).1 (zeL a).2 :=
  zCn_of (own := RX9) (lv := [some (.ref (zb w + o0)), some (.int p1), none, none]) (by decide +kernel) rfl (Nat.le_of_ble_eq_true rfl) rfl (fun x hr => by
    unfold m_X9_world
    refine zj_aload_n dX9_world_0 rfl ?_
    refine zj_iconst dX9_world_1 zic_1 ?_
    refine zj_iload_n dX9_world_2 rfl ?_
    refine zj_cVV2 ml_X9_376 (fun a h => c_X9_seekFit h_o0 h) h_o0 rfl (Nat.le_of_ble_eq_true rfl) (Nat.le_of_ble_eq_true rfl) dX9_world_3 (fun s1 => ?_)
    refine zj_aload_n dX9_world_6 rfl ?_
    refine zj_getL dX9_world_7 fl_X9_373 rfl h_o0 ?_
    refine zj_lconst (v := 0) dX9_world_10 rfl ?_
    refine zj_lcmp_ne (tgt := 19) dX9_world_11 dX9_world_12 (by decide) ?_ ?_
    · refine zj_ldc2 dX9_world_15 kcL_X9_382 ?_
      exact zj_lret hr dX9_world_18
    · refine zj_aload_n dX9_world_19 rfl ?_
      refine zj_aload_n dX9_world_20 rfl ?_
      refine zj_getT dX9_world_21 fl_X9_64 rfl h_o0 ?_
      refine zj_iconst dX9_world_24 zic_1 ?_
      refine zj_lald dX9_world_25 (zt_9_35 _ h_o0) ?_
      refine zj_aload_n dX9_world_26 rfl ?_
      refine zj_getL dX9_world_27 fl_X9_373 rfl h_o0 ?_
      refine zj_cVV2 ml_X9_315 (fun a h => c_X9_found h_o0 h) h_o0 rfl (Nat.le_of_ble_eq_true rfl) (Nat.le_of_ble_eq_true rfl) dX9_world_30 (fun s2 => ?_)
      refine zj_aload_n dX9_world_33 rfl ?_
      refine zj_getL dX9_world_34 fl_X9_307 rfl h_o0 ?_
      refine zj_ldc2 dX9_world_37 kcL_X9_313 ?_
      refine zj_lmul dX9_world_40 ?_
      refine zj_aload_n dX9_world_41 rfl ?_
      refine zj_getL dX9_world_42 fl_X9_310 rfl h_o0 ?_
      refine zj_cSL2 ml_X9_340 (fun a h => c_X9_down  h) (Nat.le_of_ble_eq_true rfl) (Nat.le_of_ble_eq_true rfl) dX9_world_45 (fun r4 s3 => ?_)
      refine zj_lstore_n (lv' := [some (.ref (zb w + o0)), some (.int p1), some (.long r4), none]) dX9_world_48 rfl (by decide) rfl rfl ?_
      refine zj_lload_n dX9_world_49 rfl ?_
      refine zj_lconst (v := 0) dX9_world_50 rfl ?_
      refine zj_lcmp_gt (tgt := 59) dX9_world_51 dX9_world_52 (by decide) ?_ ?_
      · refine zj_aload_n dX9_world_59 rfl ?_
        refine zj_cVV0 ml_X9_319 (fun a h => c_X9_seekPull h_o0 h) h_o0 rfl (Nat.le_of_ble_eq_true rfl) (Nat.le_of_ble_eq_true rfl) dX9_world_60 (fun s5 => ?_)
        refine zj_aload_n dX9_world_63 rfl ?_
        refine zj_getL dX9_world_64 fl_X9_307 rfl h_o0 ?_
        refine zj_ldc2 dX9_world_67 kcL_X9_384 ?_
        refine zj_lmul dX9_world_70 ?_
        refine zj_aload_n dX9_world_71 rfl ?_
        refine zj_getL dX9_world_72 fl_X9_310 rfl h_o0 ?_
        refine zj_lload_n dX9_world_75 rfl ?_
        refine zj_lmul dX9_world_76 ?_
        refine zj_cSL2 ml_X9_340 (fun a h => c_X9_down  h) (Nat.le_of_ble_eq_true rfl) (Nat.le_of_ble_eq_true rfl) dX9_world_77 (fun r7 s6 => ?_)
        exact zj_lret hr dX9_world_80
      · refine zj_ldc2 dX9_world_55 kcL_X9_382 ?_
        exact zj_lret hr dX9_world_58) hm
def m_X9_sized (q0 : Int64) (s : zSt) : Option (Int64 × zSt) :=
  (if q0 < 0 then
  some (-q0, s)
  else
  some (q0, s))
set_option maxRecDepth 100000 in
theorem c_X9_sized {w : zWC} {q0 : Int64} {s : zSt}  {a : Int64 × zSt} (hm : m_X9_sized q0 s = some a) : zCn w 0 yX9_sized cX9_sized 2 (some .long) [.long q0] s (zeL a).1 (zeL a).2 :=
  zCn_of (own := RX9) (lv := [some (.long q0), none]) (by decide +kernel) rfl (Nat.le_of_ble_eq_true rfl) rfl (fun x hr => by
    unfold m_X9_sized
    refine zj_lload_n dX9_sized_0 rfl ?_
    refine zj_lconst (v := 0) dX9_sized_1 rfl ?_
    refine zj_lcmp_ge (tgt := 11) dX9_sized_2 dX9_sized_3 (by decide) ?_ ?_
    · refine zj_lload_n dX9_sized_6 rfl ?_
      refine zj_lneg dX9_sized_7 ?_
      refine zj_goto (tgt := 12) dX9_sized_8 (by decide) ?_
      exact zj_lret hr dX9_sized_12
    · refine zj_lload_n dX9_sized_11 rfl ?_
      exact zj_lret hr dX9_sized_12) hm
def bd_X9_ones_4 (p0 : Int32) (rec4 : Int32 → Int32 → zSt → Option (Int32 × zSt)) (l1 : Int32) (l2 : Int32) (s : zSt) : Option (Int32 × zSt) :=
  (if l2 < 16 then
  rec4 (l1 + ((p0 >>> (l2 &&& 31)) &&& 1)) (l2 + 1) s
  else
  some (l1, s))
def lp_X9_ones_4 (p0 : Int32) : Nat → Int32 → Int32 → zSt → Option (Int32 × zSt)
  | 0, _, _, _ => none
  | n + 1, l1, l2, s => bd_X9_ones_4 p0 (fun l1 l2 s => lp_X9_ones_4 p0 n l1 l2 s) l1 l2 s
set_option maxRecDepth 100000 in
theorem jb_X9_ones_4 {p0 : Int32} {rec4 : Int32 → Int32 → zSt → Option (Int32 × zSt)} {l1 : Int32} {l2 : Int32} {s : zSt} {w : zWC} {x : zCX} (hr : zrt x = (some .int))  (h_rec4 : ∀ (l1 : Int32) (l2 : Int32) (s : zSt), zJ (zQf w x zeI) w x RX9 cX9_ones 3 0 (rec4 l1 l2 s) 4 [some (.int p0), some (.int l1), some (.int l2)] [] s) : zJ (zQf w x zeI) w x RX9 cX9_ones 3 0 (bd_X9_ones_4 p0 rec4 l1 l2 s) 4 [some (.int p0), some (.int l1), some (.int l2)] [] s := by
  unfold bd_X9_ones_4
  refine zj_iload_n dX9_ones_4 rfl ?_
  refine zj_bipush dX9_ones_5 zbi_16 ?_
  refine zj_icmp_ge (tgt := 24) dX9_ones_7 (by decide) ?_ ?_
  · refine zj_iload_n dX9_ones_10 rfl ?_
    refine zj_iload_n dX9_ones_11 rfl ?_
    refine zj_iload_n dX9_ones_12 rfl ?_
    refine zj_ishr dX9_ones_13 ?_
    refine zj_iconst dX9_ones_14 zic_1 ?_
    refine zj_iand dX9_ones_15 ?_
    refine zj_iadd dX9_ones_16 ?_
    refine zj_istore_n (lv' := [some (.int p0), some (.int (l1 + ((p0 >>> (l2 &&& 31)) &&& 1))), some (.int l2)]) dX9_ones_17 rfl (by decide) rfl rfl ?_
    refine zj_iinc (v2 := l2 + 1) (lv' := [some (.int p0), some (.int (l1 + ((p0 >>> (l2 &&& 31)) &&& 1))), some (.int (l2 + 1))]) dX9_ones_18 rfl (by rw [zic_1]) (by decide) rfl rfl ?_
    refine zj_goto (tgt := 4) dX9_ones_21 (by decide) ?_
    exact h_rec4 _ _ _
  · refine zj_iload_n dX9_ones_24 rfl ?_
    exact zj_iret hr dX9_ones_25
set_option maxRecDepth 100000 in
theorem jl_X9_ones_4 {p0 : Int32} {w : zWC} {x : zCX} (hr : zrt x = (some .int))  : ∀ (n : Nat) (l1 : Int32) (l2 : Int32) (s : zSt), zJ (zQf w x zeI) w x RX9 cX9_ones 3 0 (lp_X9_ones_4 p0 n l1 l2 s) 4 [some (.int p0), some (.int l1), some (.int l2)] [] s := by
  intro n
  induction n with
  | zero => intro l1 l2 s; exact zj_none
  | succ n ih => intro l1 l2 s; exact jb_X9_ones_4 hr (fun l1 l2 s => ih l1 l2 s)
def m_X9_ones (p0 : Int32) (s : zSt) : Option (Int32 × zSt) :=
  lp_X9_ones_4 p0 zFuel 0 0 s
set_option maxRecDepth 100000 in
theorem c_X9_ones {w : zWC} {p0 : Int32} {s : zSt}  {a : Int32 × zSt} (hm : m_X9_ones p0 s = some a) : zCn w 0 yX9_ones cX9_ones 3 (some .int) [.int p0] s (zeI a).1 (zeI a).2 :=
  zCn_of (own := RX9) (lv := [some (.int p0), none, none]) (by decide +kernel) rfl (Nat.le_of_ble_eq_true rfl) rfl (fun x hr => by
    unfold m_X9_ones
    refine zj_iconst dX9_ones_0 zic_0 ?_
    refine zj_istore_n (lv' := [some (.int p0), some (.int 0), none]) dX9_ones_1 rfl (by decide) rfl rfl ?_
    refine zj_iconst dX9_ones_2 zic_0 ?_
    refine zj_istore_n (lv' := [some (.int p0), some (.int 0), some (.int 0)]) dX9_ones_3 rfl (by decide) rfl rfl ?_
    exact jl_X9_ones_4 hr zFuel _ _ _) hm
def bd_X9_weigh_2 (o0 : Nat) (p1 : Int32) (p2 : Int32) (rec2 : Int32 → zSt → Option (zSt)) (k20 : zSt → Option (zSt)) (l3 : Int32) (s : zSt) : Option (zSt) :=
  (if l3 < 3 then
  (if l3 < 0 ∨ zN (zT o0 38) ≤ Int32.toNatClampNeg l3 then none else zlt (zsL s (zT o0 38) (Int32.toNatClampNeg l3) 0) (fun s1 => rec2 (l3 + 1) s1))
  else
  k20  s)
def lp_X9_weigh_2 (o0 : Nat) (p1 : Int32) (p2 : Int32) (k20 : zSt → Option (zSt)) : Nat → Int32 → zSt → Option (zSt)
  | 0, _, _ => none
  | n + 1, l3, s => bd_X9_weigh_2 o0 p1 p2 (fun l3 s => lp_X9_weigh_2 o0 p1 p2 k20 n l3 s) k20 l3 s
set_option maxRecDepth 100000 in
theorem jb_X9_weigh_2 {o0 : Nat} {p1 : Int32} {p2 : Int32} {rec2 : Int32 → zSt → Option (zSt)} {k20 : zSt → Option (zSt)} {l3 : Int32} {s : zSt} {w : zWC} {x : zCX} (hr : zrt x = none)  (h_o0 : zC o0 = 9) (h_rec2 : ∀ (l3 : Int32) (s : zSt), zJ (zQf w x zeV) w x RX9 cX9_weigh 6 1 (rec2 l3 s) 2 [some (.ref (zb w + o0)), some (.int p1), some (.int p2), some (.int l3), none, none] [] s) (h_k20 : ∀  (s : zSt), zJ (zQf w x zeV) w x RX9 cX9_weigh 6 1 (k20  s) 20 [some (.ref (zb w + o0)), some (.int p1), some (.int p2), none, none, none] [] s) : zJ (zQf w x zeV) w x RX9 cX9_weigh 6 1 (bd_X9_weigh_2 o0 p1 p2 rec2 k20 l3 s) 2 [some (.ref (zb w + o0)), some (.int p1), some (.int p2), some (.int l3), none, none] [] s := by
  unfold bd_X9_weigh_2
  refine zj_iload_n dX9_weigh_2 rfl ?_
  refine zj_iconst dX9_weigh_3 zic_3 ?_
  refine zj_icmp_ge (tgt := 20) dX9_weigh_4 (by decide) ?_ ?_
  · refine zj_aload_n dX9_weigh_7 rfl ?_
    refine zj_getT dX9_weigh_8 fl_X9_70 rfl h_o0 ?_
    refine zj_iload_n dX9_weigh_11 rfl ?_
    refine zj_lconst (v := 0) dX9_weigh_12 rfl ?_
    refine zj_last dX9_weigh_13 (zt_9_38 _ h_o0) (fun s1 => ?_)
    refine zj_iinc (v2 := l3 + 1) (lv' := [some (.ref (zb w + o0)), some (.int p1), some (.int p2), some (.int (l3 + 1)), none, none]) dX9_weigh_14 rfl (by rw [zic_1]) (by decide) rfl rfl ?_
    refine zj_goto (tgt := 2) dX9_weigh_17 (by decide) ?_
    exact h_rec2 _ _
  · refine zj_weak [true, true, true, false, false, false] rfl ?_
    exact h_k20 _
set_option maxRecDepth 100000 in
theorem jl_X9_weigh_2 {o0 : Nat} {p1 : Int32} {p2 : Int32} {k20 : zSt → Option (zSt)} {w : zWC} {x : zCX} (hr : zrt x = none)  (h_o0 : zC o0 = 9) (h_k20 : ∀  (s : zSt), zJ (zQf w x zeV) w x RX9 cX9_weigh 6 1 (k20  s) 20 [some (.ref (zb w + o0)), some (.int p1), some (.int p2), none, none, none] [] s) : ∀ (n : Nat) (l3 : Int32) (s : zSt), zJ (zQf w x zeV) w x RX9 cX9_weigh 6 1 (lp_X9_weigh_2 o0 p1 p2 k20 n l3 s) 2 [some (.ref (zb w + o0)), some (.int p1), some (.int p2), some (.int l3), none, none] [] s := by
  intro n
  induction n with
  | zero => intro l3 s; exact zj_none
  | succ n ih => intro l3 s; exact jb_X9_weigh_2 hr h_o0 (fun l3 s => ih l3 s) h_k20
def m_X9_weigh_43 (o0 : Nat) (p1 : Int32) (p2 : Int32) (rec22 : Int32 → zSt → Option (zSt)) (k102 : zSt → Option (zSt)) (l3 : Int32) (t0 : Int64) (s : zSt) : Option (zSt) :=
  (if (0 : Int32) < 0 ∨ zN (zT o0 38) ≤ Int32.toNatClampNeg 0 then none else (if (0 : Int32) < 0 ∨ zN (zT o0 38) ≤ Int32.toNatClampNeg 0 then none else zlt (zsL s (zT o0 38) (Int32.toNatClampNeg 0) ((zL s (zT o0 38) (Int32.toNatClampNeg 0)) + (t0 * l3.toInt64))) (fun s3 => (if (1 : Int32) < 0 ∨ zN (zT o0 38) ≤ Int32.toNatClampNeg 1 then none else (if (1 : Int32) < 0 ∨ zN (zT o0 38) ≤ Int32.toNatClampNeg 1 then none else zlt (zsL s3 (zT o0 38) (Int32.toNatClampNeg 1) ((zL s3 (zT o0 38) (Int32.toNatClampNeg 1)) + ((t0 * l3.toInt64) * l3.toInt64))) (fun s4 => (if (2 : Int32) < 0 ∨ zN (zT o0 38) ≤ Int32.toNatClampNeg 2 then none else (if (2 : Int32) < 0 ∨ zN (zT o0 38) ≤ Int32.toNatClampNeg 2 then none else zlt (zsL s4 (zT o0 38) (Int32.toNatClampNeg 2) ((zL s4 (zT o0 38) (Int32.toNatClampNeg 2)) + (((t0 * l3.toInt64) * l3.toInt64) * l3.toInt64))) (fun s5 => rec22 (l3 + 1) s5)))))))))
set_option maxRecDepth 100000 in
theorem j_X9_weigh_43 {o0 : Nat} {p1 : Int32} {p2 : Int32} {rec22 : Int32 → zSt → Option (zSt)} {k102 : zSt → Option (zSt)} {l3 : Int32} {t0 : Int64} {s : zSt} {w : zWC} {x : zCX} (hr : zrt x = none)  (h_o0 : zC o0 = 9) (h_rec22 : ∀ (l3 : Int32) (s : zSt), zJ (zQf w x zeV) w x RX9 cX9_weigh 6 1 (rec22 l3 s) 22 [some (.ref (zb w + o0)), some (.int p1), some (.int p2), some (.int l3), none, none] [] s) (h_k102 : ∀  (s : zSt), zJ (zQf w x zeV) w x RX9 cX9_weigh 6 1 (k102  s) 102 [some (.ref (zb w + o0)), none, none, none, none, none] [] s) : zJ (zQf w x zeV) w x RX9 cX9_weigh 6 1 (m_X9_weigh_43 o0 p1 p2 rec22 k102 l3 t0 s) 43 [some (.ref (zb w + o0)), some (.int p1), some (.int p2), some (.int l3), none, none] [.long t0] s := by
  unfold m_X9_weigh_43
  refine zj_lstore (lv' := [some (.ref (zb w + o0)), some (.int p1), some (.int p2), some (.int l3), some (.long t0), none]) dX9_weigh_43 (by decide) rfl rfl ?_
  refine zj_aload_n dX9_weigh_45 rfl ?_
  refine zj_getT dX9_weigh_46 fl_X9_70 rfl h_o0 ?_
  refine zj_iconst dX9_weigh_49 zic_0 ?_
  refine zj_dup2 dX9_weigh_50 rfl rfl ?_
  refine zj_lald dX9_weigh_51 (zt_9_38 _ h_o0) ?_
  refine zj_lload dX9_weigh_52 rfl ?_
  refine zj_iload_n dX9_weigh_54 rfl ?_
  refine zj_i2l dX9_weigh_55 ?_
  refine zj_lmul dX9_weigh_56 ?_
  refine zj_ladd dX9_weigh_57 ?_
  refine zj_last dX9_weigh_58 (zt_9_38 _ h_o0) (fun s3 => ?_)
  refine zj_aload_n dX9_weigh_59 rfl ?_
  refine zj_getT dX9_weigh_60 fl_X9_70 rfl h_o0 ?_
  refine zj_iconst dX9_weigh_63 zic_1 ?_
  refine zj_dup2 dX9_weigh_64 rfl rfl ?_
  refine zj_lald dX9_weigh_65 (zt_9_38 _ h_o0) ?_
  refine zj_lload dX9_weigh_66 rfl ?_
  refine zj_iload_n dX9_weigh_68 rfl ?_
  refine zj_i2l dX9_weigh_69 ?_
  refine zj_lmul dX9_weigh_70 ?_
  refine zj_iload_n dX9_weigh_71 rfl ?_
  refine zj_i2l dX9_weigh_72 ?_
  refine zj_lmul dX9_weigh_73 ?_
  refine zj_ladd dX9_weigh_74 ?_
  refine zj_last dX9_weigh_75 (zt_9_38 _ h_o0) (fun s4 => ?_)
  refine zj_aload_n dX9_weigh_76 rfl ?_
  refine zj_getT dX9_weigh_77 fl_X9_70 rfl h_o0 ?_
  refine zj_iconst dX9_weigh_80 zic_2 ?_
  refine zj_dup2 dX9_weigh_81 rfl rfl ?_
  refine zj_lald dX9_weigh_82 (zt_9_38 _ h_o0) ?_
  refine zj_lload dX9_weigh_83 rfl ?_
  refine zj_iload_n dX9_weigh_85 rfl ?_
  refine zj_i2l dX9_weigh_86 ?_
  refine zj_lmul dX9_weigh_87 ?_
  refine zj_iload_n dX9_weigh_88 rfl ?_
  refine zj_i2l dX9_weigh_89 ?_
  refine zj_lmul dX9_weigh_90 ?_
  refine zj_iload_n dX9_weigh_91 rfl ?_
  refine zj_i2l dX9_weigh_92 ?_
  refine zj_lmul dX9_weigh_93 ?_
  refine zj_ladd dX9_weigh_94 ?_
  refine zj_last dX9_weigh_95 (zt_9_38 _ h_o0) (fun s5 => ?_)
  refine zj_iinc (v2 := l3 + 1) (lv' := [some (.ref (zb w + o0)), some (.int p1), some (.int p2), some (.int (l3 + 1)), some (.long t0), none]) dX9_weigh_96 rfl (by rw [zic_1]) (by decide) rfl rfl ?_
  refine zj_goto (tgt := 22) dX9_weigh_99 (by decide) ?_
  refine zj_weak [true, true, true, true, false, false] rfl ?_
  exact h_rec22 _ _
def bd_X9_weigh_22 (o0 : Nat) (p1 : Int32) (p2 : Int32) (rec22 : Int32 → zSt → Option (zSt)) (k102 : zSt → Option (zSt)) (l3 : Int32) (s : zSt) : Option (zSt) :=
  (if l3 < p2 then
  (if (p1 >>> (l3 &&& 31)) &&& 1 = 1 then
    m_X9_weigh_43 o0 p1 p2 rec22 k102 l3 1 s
    else
    m_X9_weigh_43 o0 p1 p2 rec22 k102 l3 (-1) s)
  else
  k102  s)
def lp_X9_weigh_22 (o0 : Nat) (p1 : Int32) (p2 : Int32) (k102 : zSt → Option (zSt)) : Nat → Int32 → zSt → Option (zSt)
  | 0, _, _ => none
  | n + 1, l3, s => bd_X9_weigh_22 o0 p1 p2 (fun l3 s => lp_X9_weigh_22 o0 p1 p2 k102 n l3 s) k102 l3 s
set_option maxRecDepth 100000 in
theorem jb_X9_weigh_22 {o0 : Nat} {p1 : Int32} {p2 : Int32} {rec22 : Int32 → zSt → Option (zSt)} {k102 : zSt → Option (zSt)} {l3 : Int32} {s : zSt} {w : zWC} {x : zCX} (hr : zrt x = none)  (h_o0 : zC o0 = 9) (h_rec22 : ∀ (l3 : Int32) (s : zSt), zJ (zQf w x zeV) w x RX9 cX9_weigh 6 1 (rec22 l3 s) 22 [some (.ref (zb w + o0)), some (.int p1), some (.int p2), some (.int l3), none, none] [] s) (h_k102 : ∀  (s : zSt), zJ (zQf w x zeV) w x RX9 cX9_weigh 6 1 (k102  s) 102 [some (.ref (zb w + o0)), none, none, none, none, none] [] s) : zJ (zQf w x zeV) w x RX9 cX9_weigh 6 1 (bd_X9_weigh_22 o0 p1 p2 rec22 k102 l3 s) 22 [some (.ref (zb w + o0)), some (.int p1), some (.int p2), some (.int l3), none, none] [] s := by
  unfold bd_X9_weigh_22
  refine zj_iload_n dX9_weigh_22 rfl ?_
  refine zj_iload_n dX9_weigh_23 rfl ?_
  refine zj_icmp_ge (tgt := 102) dX9_weigh_24 (by decide) ?_ ?_
  · refine zj_iload_n dX9_weigh_27 rfl ?_
    refine zj_iload_n dX9_weigh_28 rfl ?_
    refine zj_ishr dX9_weigh_29 ?_
    refine zj_iconst dX9_weigh_30 zic_1 ?_
    refine zj_iand dX9_weigh_31 ?_
    refine zj_iconst dX9_weigh_32 zic_1 ?_
    refine zj_icmp_ne (tgt := 40) dX9_weigh_33 (by decide) ?_ ?_
    · refine zj_lconst (v := 1) dX9_weigh_36 rfl ?_
      refine zj_goto (tgt := 43) dX9_weigh_37 (by decide) ?_
      exact j_X9_weigh_43 hr h_o0 h_rec22 h_k102
    · refine zj_ldc2 dX9_weigh_40 kcL_X9_382 ?_
      exact j_X9_weigh_43 hr h_o0 h_rec22 h_k102
  · refine zj_weak [true, false, false, false, false, false] rfl ?_
    exact h_k102 _
set_option maxRecDepth 100000 in
theorem jl_X9_weigh_22 {o0 : Nat} {p1 : Int32} {p2 : Int32} {k102 : zSt → Option (zSt)} {w : zWC} {x : zCX} (hr : zrt x = none)  (h_o0 : zC o0 = 9) (h_k102 : ∀  (s : zSt), zJ (zQf w x zeV) w x RX9 cX9_weigh 6 1 (k102  s) 102 [some (.ref (zb w + o0)), none, none, none, none, none] [] s) : ∀ (n : Nat) (l3 : Int32) (s : zSt), zJ (zQf w x zeV) w x RX9 cX9_weigh 6 1 (lp_X9_weigh_22 o0 p1 p2 k102 n l3 s) 22 [some (.ref (zb w + o0)), some (.int p1), some (.int p2), some (.int l3), none, none] [] s := by
  intro n
  induction n with
  | zero => intro l3 s; exact zj_none
  | succ n ih => intro l3 s; exact jb_X9_weigh_22 hr h_o0 (fun l3 s => ih l3 s) h_k102
def bd_X9_weigh_104 (o0 : Nat) (p1 : Int32) (p2 : Int32) (rec104 : Int32 → zSt → Option (zSt)) (l3 : Int32) (s : zSt) : Option (zSt) :=
  (if l3 < 3 then
  (if l3 < 0 ∨ zN (zT o0 38) ≤ Int32.toNatClampNeg l3 then none else zcl (m_X9_sized (zL s (zT o0 38) (Int32.toNatClampNeg l3)) s) (fun r8 s7 => (if l3 < 0 ∨ zN (zT o0 38) ≤ Int32.toNatClampNeg l3 then none else zlt (zsL s7 (zT o0 38) (Int32.toNatClampNeg l3) r8) (fun s9 => rec104 (l3 + 1) s9))))
  else
  some s)
def lp_X9_weigh_104 (o0 : Nat) (p1 : Int32) (p2 : Int32) : Nat → Int32 → zSt → Option (zSt)
  | 0, _, _ => none
  | n + 1, l3, s => bd_X9_weigh_104 o0 p1 p2 (fun l3 s => lp_X9_weigh_104 o0 p1 p2 n l3 s) l3 s
set_option maxRecDepth 100000 in
theorem jb_X9_weigh_104 {o0 : Nat} {p1 : Int32} {p2 : Int32} {rec104 : Int32 → zSt → Option (zSt)} {l3 : Int32} {s : zSt} {w : zWC} {x : zCX} (hr : zrt x = none)  (h_o0 : zC o0 = 9) (h_rec104 : ∀ (l3 : Int32) (s : zSt), zJ (zQf w x zeV) w x RX9 cX9_weigh 6 1 (rec104 l3 s) 104 [some (.ref (zb w + o0)), none, none, some (.int l3), none, none] [] s) : zJ (zQf w x zeV) w x RX9 cX9_weigh 6 1 (bd_X9_weigh_104 o0 p1 p2 rec104 l3 s) 104 [some (.ref (zb w + o0)), none, none, some (.int l3), none, none] [] s := by
  unfold bd_X9_weigh_104
  refine zj_iload_n dX9_weigh_104 rfl ?_
  refine zj_iconst dX9_weigh_105 zic_3 ?_
  refine zj_icmp_ge (tgt := 130) dX9_weigh_106 (by decide) ?_ ?_
  · refine zj_aload_n dX9_weigh_109 rfl ?_
    refine zj_getT dX9_weigh_110 fl_X9_70 rfl h_o0 ?_
    refine zj_iload_n dX9_weigh_113 rfl ?_
    refine zj_aload_n dX9_weigh_114 rfl ?_
    refine zj_getT dX9_weigh_115 fl_X9_70 rfl h_o0 ?_
    refine zj_iload_n dX9_weigh_118 rfl ?_
    refine zj_lald dX9_weigh_119 (zt_9_38 _ h_o0) ?_
    refine zj_cSL1 ml_X9_386 (fun a h => c_X9_sized  h) (Nat.le_of_ble_eq_true rfl) (Nat.le_of_ble_eq_true rfl) dX9_weigh_120 (fun r8 s7 => ?_)
    refine zj_last dX9_weigh_123 (zt_9_38 _ h_o0) (fun s9 => ?_)
    refine zj_iinc (v2 := l3 + 1) (lv' := [some (.ref (zb w + o0)), none, none, some (.int (l3 + 1)), none, none]) dX9_weigh_124 rfl (by rw [zic_1]) (by decide) rfl rfl ?_
    refine zj_goto (tgt := 104) dX9_weigh_127 (by decide) ?_
    exact h_rec104 _ _
  · exact zj_vret hr dX9_weigh_130
set_option maxRecDepth 100000 in
theorem jl_X9_weigh_104 {o0 : Nat} {p1 : Int32} {p2 : Int32} {w : zWC} {x : zCX} (hr : zrt x = none)  (h_o0 : zC o0 = 9) : ∀ (n : Nat) (l3 : Int32) (s : zSt), zJ (zQf w x zeV) w x RX9 cX9_weigh 6 1 (lp_X9_weigh_104 o0 p1 p2 n l3 s) 104 [some (.ref (zb w + o0)), none, none, some (.int l3), none, none] [] s := by
  intro n
  induction n with
  | zero => intro l3 s; exact zj_none
  | succ n ih => intro l3 s; exact jb_X9_weigh_104 hr h_o0 (fun l3 s => ih l3 s)
def m_X9_weigh (o0 : Nat) (p1 : Int32) (p2 : Int32) (s : zSt) : Option (zSt) :=
  lp_X9_weigh_2 o0 p1 p2 (fun s_2 => lp_X9_weigh_22 o0 p1 p2 (fun s_6 => lp_X9_weigh_104 o0 p1 p2 zFuel 0 s_6) zFuel 0 s_2) zFuel 0 s
set_option maxRecDepth 100000 in
theorem c_X9_weigh {w : zWC} {o0 : Nat} {p1 : Int32} {p2 : Int32} {s : zSt} (h_o0 : zC o0 = 9) {a : zSt} (hm : m_X9_weigh o0 p1 p2 s = some a) : zCn w 1 yX9_weigh cX9_weigh 6 none [.ref (zb w + o0), .int p1, .int p2] s (zeV a).1 (zeV a).2 :=
  zCn_of (own := RX9) (lv := [some (.ref (zb w + o0)), some (.int p1), some (.int p2), none, none, none]) (by decide +kernel) rfl (Nat.le_of_ble_eq_true rfl) rfl (fun x hr => by
    unfold m_X9_weigh
    refine zj_iconst dX9_weigh_0 zic_0 ?_
    refine zj_istore_n (lv' := [some (.ref (zb w + o0)), some (.int p1), some (.int p2), some (.int 0), none, none]) dX9_weigh_1 rfl (by decide) rfl rfl ?_
    refine jl_X9_weigh_2 hr h_o0 (fun s_2 => ?_) zFuel _ _
    refine zj_iconst dX9_weigh_20 zic_0 ?_
    refine zj_istore_n (lv' := [some (.ref (zb w + o0)), some (.int p1), some (.int p2), some (.int 0), none, none]) dX9_weigh_21 rfl (by decide) rfl rfl ?_
    refine jl_X9_weigh_22 hr h_o0 (fun s_6 => ?_) zFuel _ _
    refine zj_iconst dX9_weigh_102 zic_0 ?_
    refine zj_istore_n (lv' := [some (.ref (zb w + o0)), none, none, some (.int 0), none, none]) dX9_weigh_103 rfl (by decide) rfl rfl ?_
    exact jl_X9_weigh_104 hr h_o0 zFuel _ _) hm
def bd_X9_isLess_2 (o0 : Nat) (rec2 : Int32 → zSt → Option (Int32 × zSt)) (k23 : Int32 → zSt → Option (Int32 × zSt)) (l1 : Int32) (s : zSt) : Option (Int32 × zSt) :=
  (if l1 < 3 then
  (if l1 < 0 ∨ zN (zT o0 38) ≤ Int32.toNatClampNeg l1 then none else (if l1 < 0 ∨ zN (zT o0 37) ≤ Int32.toNatClampNeg l1 then none else (if zL s (zT o0 38) (Int32.toNatClampNeg l1) = zL s (zT o0 37) (Int32.toNatClampNeg l1) then
    rec2 (l1 + 1) s
    else
    k23 l1 s)))
  else
  some (0, s))
def lp_X9_isLess_2 (o0 : Nat) (k23 : Int32 → zSt → Option (Int32 × zSt)) : Nat → Int32 → zSt → Option (Int32 × zSt)
  | 0, _, _ => none
  | n + 1, l1, s => bd_X9_isLess_2 o0 (fun l1 s => lp_X9_isLess_2 o0 k23 n l1 s) k23 l1 s
set_option maxRecDepth 100000 in
theorem jb_X9_isLess_2 {o0 : Nat} {rec2 : Int32 → zSt → Option (Int32 × zSt)} {k23 : Int32 → zSt → Option (Int32 × zSt)} {l1 : Int32} {s : zSt} {w : zWC} {x : zCX} (hr : zrt x = (some .boolean))  (h_o0 : zC o0 = 9) (h_rec2 : ∀ (l1 : Int32) (s : zSt), zJ (zQf w x zeI) w x RX9 cX9_isLess 2 0 (rec2 l1 s) 2 [some (.ref (zb w + o0)), some (.int l1)] [] s) (h_k23 : ∀ (l1 : Int32) (s : zSt), zJ (zQf w x zeI) w x RX9 cX9_isLess 2 0 (k23 l1 s) 23 [some (.ref (zb w + o0)), some (.int l1)] [] s) : zJ (zQf w x zeI) w x RX9 cX9_isLess 2 0 (bd_X9_isLess_2 o0 rec2 k23 l1 s) 2 [some (.ref (zb w + o0)), some (.int l1)] [] s := by
  unfold bd_X9_isLess_2
  refine zj_iload_n dX9_isLess_2 rfl ?_
  refine zj_iconst dX9_isLess_3 zic_3 ?_
  refine zj_icmp_ge (tgt := 51) dX9_isLess_4 (by decide) ?_ ?_
  · refine zj_aload_n dX9_isLess_7 rfl ?_
    refine zj_getT dX9_isLess_8 fl_X9_70 rfl h_o0 ?_
    refine zj_iload_n dX9_isLess_11 rfl ?_
    refine zj_lald dX9_isLess_12 (zt_9_38 _ h_o0) ?_
    refine zj_aload_n dX9_isLess_13 rfl ?_
    refine zj_getT dX9_isLess_14 fl_X9_67 rfl h_o0 ?_
    refine zj_iload_n dX9_isLess_17 rfl ?_
    refine zj_lald dX9_isLess_18 (zt_9_37 _ h_o0) ?_
    refine zj_lcmp_eq (tgt := 45) dX9_isLess_19 dX9_isLess_20 (by decide) ?_ ?_
    · refine zj_iinc (v2 := l1 + 1) (lv' := [some (.ref (zb w + o0)), some (.int (l1 + 1))]) dX9_isLess_45 rfl (by rw [zic_1]) (by decide) rfl rfl ?_
      refine zj_goto (tgt := 2) dX9_isLess_48 (by decide) ?_
      exact h_rec2 _ _
    · exact h_k23 _ _
  · refine zj_iconst dX9_isLess_51 zic_0 ?_
    exact zj_zret hr rfl dX9_isLess_52
set_option maxRecDepth 100000 in
theorem jl_X9_isLess_2 {o0 : Nat} {k23 : Int32 → zSt → Option (Int32 × zSt)} {w : zWC} {x : zCX} (hr : zrt x = (some .boolean))  (h_o0 : zC o0 = 9) (h_k23 : ∀ (l1 : Int32) (s : zSt), zJ (zQf w x zeI) w x RX9 cX9_isLess 2 0 (k23 l1 s) 23 [some (.ref (zb w + o0)), some (.int l1)] [] s) : ∀ (n : Nat) (l1 : Int32) (s : zSt), zJ (zQf w x zeI) w x RX9 cX9_isLess 2 0 (lp_X9_isLess_2 o0 k23 n l1 s) 2 [some (.ref (zb w + o0)), some (.int l1)] [] s := by
  intro n
  induction n with
  | zero => intro l1 s; exact zj_none
  | succ n ih => intro l1 s; exact jb_X9_isLess_2 hr h_o0 (fun l1 s => ih l1 s) h_k23
def m_X9_isLess (o0 : Nat) (s : zSt) : Option (Int32 × zSt) :=
  lp_X9_isLess_2 o0 (fun l1_1 s_1 => (if l1_1 < 0 ∨ zN (zT o0 38) ≤ Int32.toNatClampNeg l1_1 then none else (if l1_1 < 0 ∨ zN (zT o0 37) ≤ Int32.toNatClampNeg l1_1 then none else (if zL s_1 (zT o0 38) (Int32.toNatClampNeg l1_1) < zL s_1 (zT o0 37) (Int32.toNatClampNeg l1_1) then
  some (1, s_1)
  else
  some (0, s_1))))) zFuel 0 s
set_option maxRecDepth 100000 in
theorem c_X9_isLess {w : zWC} {o0 : Nat} {s : zSt} (h_o0 : zC o0 = 9) {a : Int32 × zSt} (hm : m_X9_isLess o0 s = some a) : zCn w 0 yX9_isLess cX9_isLess 2 (some .boolean) [.ref (zb w + o0)] s (zeI a).1 (zeI a).2 :=
  zCn_of (own := RX9) (lv := [some (.ref (zb w + o0)), none]) (by decide +kernel) rfl (Nat.le_of_ble_eq_true rfl) rfl (fun x hr => by
    unfold m_X9_isLess
    refine zj_iconst dX9_isLess_0 zic_0 ?_
    refine zj_istore_n (lv' := [some (.ref (zb w + o0)), some (.int 0)]) dX9_isLess_1 rfl (by decide) rfl rfl ?_
    refine jl_X9_isLess_2 hr h_o0 (fun l1_1 s_1 => ?_) zFuel _ _
    refine zj_aload_n dX9_isLess_23 rfl ?_
    refine zj_getT dX9_isLess_24 fl_X9_70 rfl h_o0 ?_
    refine zj_iload_n dX9_isLess_27 rfl ?_
    refine zj_lald dX9_isLess_28 (zt_9_38 _ h_o0) ?_
    refine zj_aload_n dX9_isLess_29 rfl ?_
    refine zj_getT dX9_isLess_30 fl_X9_67 rfl h_o0 ?_
    refine zj_iload_n dX9_isLess_33 rfl ?_
    refine zj_lald dX9_isLess_34 (zt_9_37 _ h_o0) ?_
    refine zj_lcmp_ge (tgt := 43) dX9_isLess_35 dX9_isLess_36 (by decide) ?_ ?_
    · refine zj_iconst dX9_isLess_39 zic_1 ?_
      refine zj_goto (tgt := 44) dX9_isLess_40 (by decide) ?_
      exact zj_zret hr rfl dX9_isLess_44
    · refine zj_iconst dX9_isLess_43 zic_0 ?_
      exact zj_zret hr rfl dX9_isLess_44) hm
def bd_X9_order_68 (o0 : Nat) (p1 : Int32) (rec68 : Int32 → Int32 → Int32 → zSt → Option (Int32 × zSt)) (k94 : Int32 → Int32 → zSt → Option (Int32 × zSt)) (l2 : Int32) (l3 : Int32) (l4 : Int32) (s : zSt) : Option (Int32 × zSt) :=
  (if l4 < 3 then
  (if l4 < 0 ∨ zN (zT o0 38) ≤ Int32.toNatClampNeg l4 then none else (if l4 < 0 ∨ zN (zT o0 37) ≤ Int32.toNatClampNeg l4 then none else zlt (zsL s (zT o0 37) (Int32.toNatClampNeg l4) (zL s (zT o0 38) (Int32.toNatClampNeg l4))) (fun s4 => rec68 l2 l3 (l4 + 1) s4)))
  else
  k94 l2 l3 s)
def lp_X9_order_68 (o0 : Nat) (p1 : Int32) (k94 : Int32 → Int32 → zSt → Option (Int32 × zSt)) : Nat → Int32 → Int32 → Int32 → zSt → Option (Int32 × zSt)
  | 0, _, _, _, _ => none
  | n + 1, l2, l3, l4, s => bd_X9_order_68 o0 p1 (fun l2 l3 l4 s => lp_X9_order_68 o0 p1 k94 n l2 l3 l4 s) k94 l2 l3 l4 s
set_option maxRecDepth 100000 in
theorem jb_X9_order_68 {o0 : Nat} {p1 : Int32} {rec68 : Int32 → Int32 → Int32 → zSt → Option (Int32 × zSt)} {k94 : Int32 → Int32 → zSt → Option (Int32 × zSt)} {l2 : Int32} {l3 : Int32} {l4 : Int32} {s : zSt} {w : zWC} {x : zCX} (hr : zrt x = (some .int))  (h_o0 : zC o0 = 9) (h_rec68 : ∀ (l2 : Int32) (l3 : Int32) (l4 : Int32) (s : zSt), zJ (zQf w x zeI) w x RX9 cX9_order 5 2 (rec68 l2 l3 l4 s) 68 [some (.ref (zb w + o0)), some (.int p1), some (.int l2), some (.int l3), some (.int l4)] [] s) (h_k94 : ∀ (l2 : Int32) (l3 : Int32) (s : zSt), zJ (zQf w x zeI) w x RX9 cX9_order 5 2 (k94 l2 l3 s) 94 [some (.ref (zb w + o0)), some (.int p1), some (.int l2), some (.int l3), none] [] s) : zJ (zQf w x zeI) w x RX9 cX9_order 5 2 (bd_X9_order_68 o0 p1 rec68 k94 l2 l3 l4 s) 68 [some (.ref (zb w + o0)), some (.int p1), some (.int l2), some (.int l3), some (.int l4)] [] s := by
  unfold bd_X9_order_68
  refine zj_iload dX9_order_68 rfl ?_
  refine zj_iconst dX9_order_70 zic_3 ?_
  refine zj_icmp_ge (tgt := 94) dX9_order_71 (by decide) ?_ ?_
  · refine zj_aload_n dX9_order_74 rfl ?_
    refine zj_getT dX9_order_75 fl_X9_67 rfl h_o0 ?_
    refine zj_iload dX9_order_78 rfl ?_
    refine zj_aload_n dX9_order_80 rfl ?_
    refine zj_getT dX9_order_81 fl_X9_70 rfl h_o0 ?_
    refine zj_iload dX9_order_84 rfl ?_
    refine zj_lald dX9_order_86 (zt_9_38 _ h_o0) ?_
    refine zj_last dX9_order_87 (zt_9_37 _ h_o0) (fun s4 => ?_)
    refine zj_iinc (v2 := l4 + 1) (lv' := [some (.ref (zb w + o0)), some (.int p1), some (.int l2), some (.int l3), some (.int (l4 + 1))]) dX9_order_88 rfl (by rw [zic_1]) (by decide) rfl rfl ?_
    refine zj_goto (tgt := 68) dX9_order_91 (by decide) ?_
    exact h_rec68 _ _ _ _
  · refine zj_weak [true, true, true, true, false] rfl ?_
    exact h_k94 _ _ _
set_option maxRecDepth 100000 in
theorem jl_X9_order_68 {o0 : Nat} {p1 : Int32} {k94 : Int32 → Int32 → zSt → Option (Int32 × zSt)} {w : zWC} {x : zCX} (hr : zrt x = (some .int))  (h_o0 : zC o0 = 9) (h_k94 : ∀ (l2 : Int32) (l3 : Int32) (s : zSt), zJ (zQf w x zeI) w x RX9 cX9_order 5 2 (k94 l2 l3 s) 94 [some (.ref (zb w + o0)), some (.int p1), some (.int l2), some (.int l3), none] [] s) : ∀ (n : Nat) (l2 : Int32) (l3 : Int32) (l4 : Int32) (s : zSt), zJ (zQf w x zeI) w x RX9 cX9_order 5 2 (lp_X9_order_68 o0 p1 k94 n l2 l3 l4 s) 68 [some (.ref (zb w + o0)), some (.int p1), some (.int l2), some (.int l3), some (.int l4)] [] s := by
  intro n
  induction n with
  | zero => intro l2 l3 l4 s; exact zj_none
  | succ n ih => intro l2 l3 l4 s; exact jb_X9_order_68 hr h_o0 (fun l2 l3 l4 s => ih l2 l3 l4 s) h_k94
def m_X9_order_94 (o0 : Nat) (p1 : Int32) (rec23 : Int32 → Int32 → zSt → Option (Int32 × zSt)) (l2 : Int32) (l3 : Int32) (s : zSt) : Option (Int32 × zSt) :=
  rec23 l2 (l3 + 2) s
set_option maxRecDepth 100000 in
theorem j_X9_order_94 {o0 : Nat} {p1 : Int32} {rec23 : Int32 → Int32 → zSt → Option (Int32 × zSt)} {l2 : Int32} {l3 : Int32} {s : zSt} {w : zWC} {x : zCX} (hr : zrt x = (some .int))  (h_o0 : zC o0 = 9) (h_rec23 : ∀ (l2 : Int32) (l3 : Int32) (s : zSt), zJ (zQf w x zeI) w x RX9 cX9_order 5 2 (rec23 l2 l3 s) 23 [some (.ref (zb w + o0)), some (.int p1), some (.int l2), some (.int l3), none] [] s) : zJ (zQf w x zeI) w x RX9 cX9_order 5 2 (m_X9_order_94 o0 p1 rec23 l2 l3 s) 94 [some (.ref (zb w + o0)), some (.int p1), some (.int l2), some (.int l3), none] [] s := by
  unfold m_X9_order_94
  refine zj_iinc (v2 := l3 + 2) (lv' := [some (.ref (zb w + o0)), some (.int p1), some (.int l2), some (.int (l3 + 2)), none]) dX9_order_94 rfl (by rw [zic_2]) (by decide) rfl rfl ?_
  refine zj_goto (tgt := 23) dX9_order_97 (by decide) ?_
  exact h_rec23 _ _ _
def m_X9_order_63 (o0 : Nat) (p1 : Int32) (rec23 : Int32 → Int32 → zSt → Option (Int32 × zSt)) (l3 : Int32) (s : zSt) : Option (Int32 × zSt) :=
  lp_X9_order_68 o0 p1 (fun l2_5 l3_5 s_5 => m_X9_order_94 o0 p1 rec23 l2_5 l3_5 s_5) zFuel l3 l3 0 s
set_option maxRecDepth 100000 in
theorem j_X9_order_63 {o0 : Nat} {p1 : Int32} {rec23 : Int32 → Int32 → zSt → Option (Int32 × zSt)} {l3 : Int32} {s : zSt} {w : zWC} {x : zCX} (hr : zrt x = (some .int))  (h_o0 : zC o0 = 9) (h_rec23 : ∀ (l2 : Int32) (l3 : Int32) (s : zSt), zJ (zQf w x zeI) w x RX9 cX9_order 5 2 (rec23 l2 l3 s) 23 [some (.ref (zb w + o0)), some (.int p1), some (.int l2), some (.int l3), none] [] s) : zJ (zQf w x zeI) w x RX9 cX9_order 5 2 (m_X9_order_63 o0 p1 rec23 l3 s) 63 [some (.ref (zb w + o0)), some (.int p1), none, some (.int l3), none] [] s := by
  unfold m_X9_order_63
  refine zj_iload_n dX9_order_63 rfl ?_
  refine zj_istore_n (lv' := [some (.ref (zb w + o0)), some (.int p1), some (.int l3), some (.int l3), none]) dX9_order_64 rfl (by decide) rfl rfl ?_
  refine zj_iconst dX9_order_65 zic_0 ?_
  refine zj_istore (lv' := [some (.ref (zb w + o0)), some (.int p1), some (.int l3), some (.int l3), some (.int 0)]) dX9_order_66 (by decide) rfl rfl ?_
  refine jl_X9_order_68 hr h_o0 (fun l2_5 l3_5 s_5 => ?_) zFuel _ _ _ _
  exact j_X9_order_94 hr h_o0 h_rec23
def bd_X9_order_23 (o0 : Nat) (p1 : Int32) (rec23 : Int32 → Int32 → zSt → Option (Int32 × zSt)) (l2 : Int32) (l3 : Int32) (s : zSt) : Option (Int32 × zSt) :=
  (if l3 < (1 : Int32) <<< (p1 &&& 31) then
  zcl (m_X9_ones l3 s) (fun r2 s1 => (if r2 * 2 = p1 then
    zcv (m_X9_weigh o0 l3 p1 s1) (fun s3 => (if l2 < 0 then
      m_X9_order_63 o0 p1 rec23 l3 s3
      else
      zcl (m_X9_isLess o0 s3) (fun r7 s6 => (if r7 = 0 then
        m_X9_order_94 o0 p1 rec23 l2 l3 s6
        else
        m_X9_order_63 o0 p1 rec23 l3 s6))))
    else
    m_X9_order_94 o0 p1 rec23 l2 l3 s1))
  else
  some (l2, s))
def lp_X9_order_23 (o0 : Nat) (p1 : Int32) : Nat → Int32 → Int32 → zSt → Option (Int32 × zSt)
  | 0, _, _, _ => none
  | n + 1, l2, l3, s => bd_X9_order_23 o0 p1 (fun l2 l3 s => lp_X9_order_23 o0 p1 n l2 l3 s) l2 l3 s
set_option maxRecDepth 100000 in
theorem jb_X9_order_23 {o0 : Nat} {p1 : Int32} {rec23 : Int32 → Int32 → zSt → Option (Int32 × zSt)} {l2 : Int32} {l3 : Int32} {s : zSt} {w : zWC} {x : zCX} (hr : zrt x = (some .int))  (h_o0 : zC o0 = 9) (h_rec23 : ∀ (l2 : Int32) (l3 : Int32) (s : zSt), zJ (zQf w x zeI) w x RX9 cX9_order 5 2 (rec23 l2 l3 s) 23 [some (.ref (zb w + o0)), some (.int p1), some (.int l2), some (.int l3), none] [] s) : zJ (zQf w x zeI) w x RX9 cX9_order 5 2 (bd_X9_order_23 o0 p1 rec23 l2 l3 s) 23 [some (.ref (zb w + o0)), some (.int p1), some (.int l2), some (.int l3), none] [] s := by
  unfold bd_X9_order_23
  refine zj_iload_n dX9_order_23 rfl ?_
  refine zj_iconst dX9_order_24 zic_1 ?_
  refine zj_iload_n dX9_order_25 rfl ?_
  refine zj_ishl dX9_order_26 ?_
  refine zj_icmp_ge (tgt := 100) dX9_order_27 (by decide) ?_ ?_
  · refine zj_iload_n dX9_order_30 rfl ?_
    refine zj_cSI1 ml_X9_390 (fun a h => c_X9_ones  h) (Nat.le_of_ble_eq_true rfl) (Nat.le_of_ble_eq_true rfl) dX9_order_31 (fun r2 s1 => ?_)
    refine zj_iconst dX9_order_34 zic_2 ?_
    refine zj_imul dX9_order_35 ?_
    refine zj_iload_n dX9_order_36 rfl ?_
    refine zj_icmp_eq (tgt := 43) dX9_order_37 (by decide) ?_ ?_
    · refine zj_aload_n dX9_order_43 rfl ?_
      refine zj_iload_n dX9_order_44 rfl ?_
      refine zj_iload_n dX9_order_45 rfl ?_
      refine zj_cVV2 ml_X9_393 (fun a h => c_X9_weigh h_o0 h) h_o0 rfl (Nat.le_of_ble_eq_true rfl) (Nat.le_of_ble_eq_true rfl) dX9_order_46 (fun s3 => ?_)
      refine zj_iload_n dX9_order_49 rfl ?_
      refine zj_if_lt (tgt := 63) dX9_order_50 (by decide) ?_ ?_
      · refine zj_weak [true, true, false, true, false] rfl ?_
        exact j_X9_order_63 hr h_o0 h_rec23
      · refine zj_aload_n dX9_order_53 rfl ?_
        refine zj_cVI0 ml_X9_396 (fun a h => c_X9_isLess h_o0 h) h_o0 rfl (Nat.le_of_ble_eq_true rfl) (Nat.le_of_ble_eq_true rfl) dX9_order_54 (fun r7 s6 => ?_)
        refine zj_if_ne (tgt := 63) dX9_order_57 (by decide) ?_ ?_
        · refine zj_goto (tgt := 94) dX9_order_60 (by decide) ?_
          exact j_X9_order_94 hr h_o0 h_rec23
        · refine zj_weak [true, true, false, true, false] rfl ?_
          exact j_X9_order_63 hr h_o0 h_rec23
    · refine zj_goto (tgt := 94) dX9_order_40 (by decide) ?_
      exact j_X9_order_94 hr h_o0 h_rec23
  · refine zj_iload_n dX9_order_100 rfl ?_
    exact zj_iret hr dX9_order_101
set_option maxRecDepth 100000 in
theorem jl_X9_order_23 {o0 : Nat} {p1 : Int32} {w : zWC} {x : zCX} (hr : zrt x = (some .int))  (h_o0 : zC o0 = 9) : ∀ (n : Nat) (l2 : Int32) (l3 : Int32) (s : zSt), zJ (zQf w x zeI) w x RX9 cX9_order 5 2 (lp_X9_order_23 o0 p1 n l2 l3 s) 23 [some (.ref (zb w + o0)), some (.int p1), some (.int l2), some (.int l3), none] [] s := by
  intro n
  induction n with
  | zero => intro l2 l3 s; exact zj_none
  | succ n ih => intro l2 l3 s; exact jb_X9_order_23 hr h_o0 (fun l2 l3 s => ih l2 l3 s)
def m_X9_order (o0 : Nat) (p1 : Int32) (s : zSt) : Option (Int32 × zSt) :=
  (if p1 < 2 then
  some ((-1), s)
  else
  (if 12 < p1 then
    some ((-1), s)
    else
    (if p1 - p1 / 2 * 2 = 0 then
      lp_X9_order_23 o0 p1 zFuel (-1) 1 s
      else
      some ((-1), s))))
set_option maxRecDepth 100000 in
theorem c_X9_order {w : zWC} {o0 : Nat} {p1 : Int32} {s : zSt} (h_o0 : zC o0 = 9) {a : Int32 × zSt} (hm : m_X9_order o0 p1 s = some a) : zCn w 2 yX9_order cX9_order 5 (some .int) [.ref (zb w + o0), .int p1] s (zeI a).1 (zeI a).2 :=
  zCn_of (own := RX9) (lv := [some (.ref (zb w + o0)), some (.int p1), none, none, none]) (by decide +kernel) rfl (Nat.le_of_ble_eq_true rfl) rfl (fun x hr => by
    unfold m_X9_order
    refine zj_iload_n dX9_order_0 rfl ?_
    refine zj_iconst dX9_order_1 zic_2 ?_
    refine zj_icmp_lt (tgt := 17) dX9_order_2 (by decide) ?_ ?_
    · refine zj_iconst dX9_order_17 zic_m1 ?_
      exact zj_iret hr dX9_order_18
    · refine zj_iload_n dX9_order_5 rfl ?_
      refine zj_bipush dX9_order_6 zbi_12 ?_
      refine zj_icmp_gt (tgt := 17) dX9_order_8 (by decide) ?_ ?_
      · refine zj_iconst dX9_order_17 zic_m1 ?_
        exact zj_iret hr dX9_order_18
      · refine zj_iload_n dX9_order_11 rfl ?_
        refine zj_iconst dX9_order_12 zic_2 ?_
        refine zj_iremK dX9_order_13 (by decide) ?_
        refine zj_if_eq (tgt := 19) dX9_order_14 (by decide) ?_ ?_
        · refine zj_iconst dX9_order_19 zic_m1 ?_
          refine zj_istore_n (lv' := [some (.ref (zb w + o0)), some (.int p1), some (.int (-1)), none, none]) dX9_order_20 rfl (by decide) rfl rfl ?_
          refine zj_iconst dX9_order_21 zic_1 ?_
          refine zj_istore_n (lv' := [some (.ref (zb w + o0)), some (.int p1), some (.int (-1)), some (.int 1), none]) dX9_order_22 rfl (by decide) rfl rfl ?_
          exact jl_X9_order_23 hr h_o0 zFuel _ _ _
        · refine zj_iconst dX9_order_17 zic_m1 ?_
          exact zj_iret hr dX9_order_18) hm
