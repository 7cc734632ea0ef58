def bd_X9_shed_17 (o0 : Nat) (rec17 : Int32 → zSt → Option (Int32 × zSt)) (k46 : zSt → Option (Int32 × zSt)) (l1 : Int32) (s : zSt) : Option (Int32 × zSt) :=
  (if l1 < 11 then
  zcl (m_X9_plainOf l1 s) (fun r5 s4 => (if l1 < 0 ∨ zN (zT o0 11) ≤ Int32.toNatClampNeg l1 then none else zlt (zsI s4 (zT o0 11) (Int32.toNatClampNeg l1) r5) (fun s6 => (if l1 < 0 ∨ zN (zT o0 15) ≤ Int32.toNatClampNeg l1 then none else zlt (zsI s6 (zT o0 15) (Int32.toNatClampNeg l1) (vp_nar .boolean 0)) (fun s7 => rec17 (l1 + 1) s7)))))
  else
  k46  s)
def lp_X9_shed_17 (o0 : Nat) (k46 : zSt → Option (Int32 × zSt)) : Nat → Int32 → zSt → Option (Int32 × zSt)
  | 0, _, _ => none
  | n + 1, l1, s => bd_X9_shed_17 o0 (fun l1 s => lp_X9_shed_17 o0 k46 n l1 s) k46 l1 s
set_option maxRecDepth 100000 in
theorem jb_X9_shed_17 {o0 : Nat} {rec17 : Int32 → zSt → Option (Int32 × zSt)} {k46 : zSt → Option (Int32 × zSt)} {l1 : Int32} {s : zSt} {w : zWC} {x : zCX} (hr : zrt x = (some .int))  (h_o0 : zC o0 = 9) (h_rec17 : ∀ (l1 : Int32) (s : zSt), zJ (zQf w x zeI) w x RX9 cX9_shed 2 4 (rec17 l1 s) 17 [some (.ref (zb w + o0)), some (.int l1)] [] s) (h_k46 : ∀  (s : zSt), zJ (zQf w x zeI) w x RX9 cX9_shed 2 4 (k46  s) 46 [some (.ref (zb w + o0)), none] [] s) : zJ (zQf w x zeI) w x RX9 cX9_shed 2 4 (bd_X9_shed_17 o0 rec17 k46 l1 s) 17 [some (.ref (zb w + o0)), some (.int l1)] [] s := by
  unfold bd_X9_shed_17
  refine zj_iload_n dX9_shed_17 rfl ?_
  refine zj_bipush dX9_shed_18 zbi_11 ?_
  refine zj_icmp_ge (tgt := 46) dX9_shed_20 (by decide) ?_ ?_
  · refine zj_aload_n dX9_shed_23 rfl ?_
    refine zj_getT dX9_shed_24 fl_X9_17 rfl h_o0 ?_
    refine zj_iload_n dX9_shed_27 rfl ?_
    refine zj_iload_n dX9_shed_28 rfl ?_
    refine zj_cSI1 ml_X9_249 (fun a h => c_X9_plainOf  h) (Nat.le_of_ble_eq_true rfl) (Nat.le_of_ble_eq_true rfl) dX9_shed_29 (fun r5 s4 => ?_)
    refine zj_iast dX9_shed_32 (zt_9_11 _ h_o0) (fun s6 => ?_)
    refine zj_aload_n dX9_shed_33 rfl ?_
    refine zj_getT dX9_shed_34 fl_X9_29 rfl h_o0 ?_
    refine zj_iload_n dX9_shed_37 rfl ?_
    refine zj_iconst dX9_shed_38 zic_0 ?_
    refine zj_zast dX9_shed_39 (zt_9_15 _ h_o0) (fun s7 => ?_)
    refine zj_iinc (v2 := l1 + 1) (lv' := [some (.ref (zb w + o0)), some (.int (l1 + 1))]) dX9_shed_40 rfl (by rw [zic_1]) (by decide) rfl rfl ?_
    refine zj_goto (tgt := 17) dX9_shed_43 (by decide) ?_
    exact h_rec17 _ _
  · refine zj_weak [true, false] rfl ?_
    exact h_k46 _
set_option maxRecDepth 100000 in
theorem jl_X9_shed_17 {o0 : Nat} {k46 : zSt → Option (Int32 × zSt)} {w : zWC} {x : zCX} (hr : zrt x = (some .int))  (h_o0 : zC o0 = 9) (h_k46 : ∀  (s : zSt), zJ (zQf w x zeI) w x RX9 cX9_shed 2 4 (k46  s) 46 [some (.ref (zb w + o0)), none] [] s) : ∀ (n : Nat) (l1 : Int32) (s : zSt), zJ (zQf w x zeI) w x RX9 cX9_shed 2 4 (lp_X9_shed_17 o0 k46 n l1 s) 17 [some (.ref (zb w + o0)), some (.int l1)] [] s := by
  intro n
  induction n with
  | zero => intro l1 s; exact zj_none
  | succ n ih => intro l1 s; exact jb_X9_shed_17 hr h_o0 (fun l1 s => ih l1 s) h_k46
def m_X9_shed_180 (o0 : Nat) (rec51 : zSt → Option (Int32 × zSt)) (k193 : zSt → Option (Int32 × zSt)) (s : zSt) : Option (Int32 × zSt) :=
  zlt (zsI s o0 20 ((zI s o0 20) + 1)) (fun s18 => rec51  s18)
set_option maxRecDepth 100000 in
theorem j_X9_shed_180 {o0 : Nat} {rec51 : zSt → Option (Int32 × zSt)} {k193 : zSt → Option (Int32 × zSt)} {s : zSt} {w : zWC} {x : zCX} (hr : zrt x = (some .int))  (h_o0 : zC o0 = 9) (h_rec51 : ∀  (s : zSt), zJ (zQf w x zeI) w x RX9 cX9_shed 2 4 (rec51  s) 51 [some (.ref (zb w + o0)), none] [] s) (h_k193 : ∀  (s : zSt), zJ (zQf w x zeI) w x RX9 cX9_shed 2 4 (k193  s) 193 [some (.ref (zb w + o0)), none] [] s) : zJ (zQf w x zeI) w x RX9 cX9_shed 2 4 (m_X9_shed_180 o0 rec51 k193 s) 180 [some (.ref (zb w + o0)), none] [] s := by
  unfold m_X9_shed_180
  refine zj_aload_n dX9_shed_180 rfl ?_
  refine zj_dup dX9_shed_181 rfl ?_
  refine zj_getI dX9_shed_182 fl_X9_277 rfl h_o0 ?_
  refine zj_iconst dX9_shed_185 zic_1 ?_
  refine zj_iadd dX9_shed_186 ?_
  refine zj_putI dX9_shed_187 fl_X9_277 rfl h_o0 pd_9_20 rfl rfl (fun s18 => ?_)
  refine zj_goto (tgt := 51) dX9_shed_190 (by decide) ?_
  exact h_rec51 _
def m_X9_shed_169 (o0 : Nat) (rec51 : zSt → Option (Int32 × zSt)) (k193 : zSt → Option (Int32 × zSt)) (s : zSt) : Option (Int32 × zSt) :=
  (if zI s o0 2 = 0 then
  zcv (m_X9_token o0 s) (fun s17 => m_X9_shed_180 o0 rec51 k193 s17)
  else
  m_X9_shed_180 o0 rec51 k193 s)
set_option maxRecDepth 100000 in
theorem j_X9_shed_169 {o0 : Nat} {rec51 : zSt → Option (Int32 × zSt)} {k193 : zSt → Option (Int32 × zSt)} {s : zSt} {w : zWC} {x : zCX} (hr : zrt x = (some .int))  (h_o0 : zC o0 = 9) (h_rec51 : ∀  (s : zSt), zJ (zQf w x zeI) w x RX9 cX9_shed 2 4 (rec51  s) 51 [some (.ref (zb w + o0)), none] [] s) (h_k193 : ∀  (s : zSt), zJ (zQf w x zeI) w x RX9 cX9_shed 2 4 (k193  s) 193 [some (.ref (zb w + o0)), none] [] s) : zJ (zQf w x zeI) w x RX9 cX9_shed 2 4 (m_X9_shed_169 o0 rec51 k193 s) 169 [some (.ref (zb w + o0)), none] [] s := by
  unfold m_X9_shed_169
  refine zj_aload_n dX9_shed_169 rfl ?_
  refine zj_getI dX9_shed_170 fl_X9_192 rfl h_o0 ?_
  refine zj_if_ne (tgt := 180) dX9_shed_173 (by decide) ?_ ?_
  · refine zj_aload_n dX9_shed_176 rfl ?_
    refine zj_cVV0 ml_X9_195 (fun a h => c_X9_token h_o0 h) h_o0 rfl (Nat.le_of_ble_eq_true rfl) (Nat.le_of_ble_eq_true rfl) dX9_shed_177 (fun s17 => ?_)
    exact j_X9_shed_180 hr h_o0 h_rec51 h_k193
  · exact j_X9_shed_180 hr h_o0 h_rec51 h_k193
def m_X9_shed_148 (o0 : Nat) (rec51 : zSt → Option (Int32 × zSt)) (k193 : zSt → Option (Int32 × zSt)) (s : zSt) : Option (Int32 × zSt) :=
  (if zI s o0 2 = 0 then
  (if zI s o0 6 = 59 then
    m_X9_shed_169 o0 rec51 k193 s
    else
    zcv (m_X9_wrong o0 2 s) (fun s19 => m_X9_shed_169 o0 rec51 k193 s19))
  else
  m_X9_shed_169 o0 rec51 k193 s)
set_option maxRecDepth 100000 in
theorem j_X9_shed_148 {o0 : Nat} {rec51 : zSt → Option (Int32 × zSt)} {k193 : zSt → Option (Int32 × zSt)} {s : zSt} {w : zWC} {x : zCX} (hr : zrt x = (some .int))  (h_o0 : zC o0 = 9) (h_rec51 : ∀  (s : zSt), zJ (zQf w x zeI) w x RX9 cX9_shed 2 4 (rec51  s) 51 [some (.ref (zb w + o0)), none] [] s) (h_k193 : ∀  (s : zSt), zJ (zQf w x zeI) w x RX9 cX9_shed 2 4 (k193  s) 193 [some (.ref (zb w + o0)), none] [] s) : zJ (zQf w x zeI) w x RX9 cX9_shed 2 4 (m_X9_shed_148 o0 rec51 k193 s) 148 [some (.ref (zb w + o0)), none] [] s := by
  unfold m_X9_shed_148
  refine zj_aload_n dX9_shed_148 rfl ?_
  refine zj_getI dX9_shed_149 fl_X9_192 rfl h_o0 ?_
  refine zj_if_ne (tgt := 169) dX9_shed_152 (by decide) ?_ ?_
  · refine zj_aload_n dX9_shed_155 rfl ?_
    refine zj_getI dX9_shed_156 fl_X9_179 rfl h_o0 ?_
    refine zj_bipush dX9_shed_159 zbi_59 ?_
    refine zj_icmp_eq (tgt := 169) dX9_shed_161 (by decide) ?_ ?_
    · exact j_X9_shed_169 hr h_o0 h_rec51 h_k193
    · refine zj_aload_n dX9_shed_164 rfl ?_
      refine zj_iconst dX9_shed_165 zic_2 ?_
      refine zj_cVV1 ml_X9_242 (fun a h => c_X9_wrong h_o0 h) h_o0 rfl (Nat.le_of_ble_eq_true rfl) (Nat.le_of_ble_eq_true rfl) dX9_shed_166 (fun s19 => ?_)
      exact j_X9_shed_169 hr h_o0 h_rec51 h_k193
  · exact j_X9_shed_169 hr h_o0 h_rec51 h_k193
def m_X9_shed_143 (o0 : Nat) (rec51 : zSt → Option (Int32 × zSt)) (k193 : zSt → Option (Int32 × zSt)) (s : zSt) : Option (Int32 × zSt) :=
  zcv (m_X9_wrong o0 2 s) (fun s16 => m_X9_shed_148 o0 rec51 k193 s16)
set_option maxRecDepth 100000 in
theorem j_X9_shed_143 {o0 : Nat} {rec51 : zSt → Option (Int32 × zSt)} {k193 : zSt → Option (Int32 × zSt)} {s : zSt} {w : zWC} {x : zCX} (hr : zrt x = (some .int))  (h_o0 : zC o0 = 9) (h_rec51 : ∀  (s : zSt), zJ (zQf w x zeI) w x RX9 cX9_shed 2 4 (rec51  s) 51 [some (.ref (zb w + o0)), none] [] s) (h_k193 : ∀  (s : zSt), zJ (zQf w x zeI) w x RX9 cX9_shed 2 4 (k193  s) 193 [some (.ref (zb w + o0)), none] [] s) : zJ (zQf w x zeI) w x RX9 cX9_shed 2 4 (m_X9_shed_143 o0 rec51 k193 s) 143 [some (.ref (zb w + o0)), none] [] s := by
  unfold m_X9_shed_143
  refine zj_aload_n dX9_shed_143 rfl ?_
  refine zj_iconst dX9_shed_144 zic_2 ?_
  refine zj_cVV1 ml_X9_242 (fun a h => c_X9_wrong h_o0 h) h_o0 rfl (Nat.le_of_ble_eq_true rfl) (Nat.le_of_ble_eq_true rfl) dX9_shed_145 (fun s16 => ?_)
  exact j_X9_shed_148 hr h_o0 h_rec51 h_k193
def m_X9_shed_117 (o0 : Nat) (rec51 : zSt → Option (Int32 × zSt)) (k193 : zSt → Option (Int32 × zSt)) (s : zSt) : Option (Int32 × zSt) :=
  zcl (m_X9_isWord o0 500135715180 s) (fun r15 s14 => (if r15 = 0 then
  m_X9_shed_143 o0 rec51 k193 s14
  else
  (if zI s14 o0 19 < 8 then
    zcv (m_X9_readTrial o0 s14) (fun s20 => m_X9_shed_148 o0 rec51 k193 s20)
    else
    m_X9_shed_143 o0 rec51 k193 s14)))
set_option maxRecDepth 100000 in
theorem j_X9_shed_117 {o0 : Nat} {rec51 : zSt → Option (Int32 × zSt)} {k193 : zSt → Option (Int32 × zSt)} {s : zSt} {w : zWC} {x : zCX} (hr : zrt x = (some .int))  (h_o0 : zC o0 = 9) (h_rec51 : ∀  (s : zSt), zJ (zQf w x zeI) w x RX9 cX9_shed 2 4 (rec51  s) 51 [some (.ref (zb w + o0)), none] [] s) (h_k193 : ∀  (s : zSt), zJ (zQf w x zeI) w x RX9 cX9_shed 2 4 (k193  s) 193 [some (.ref (zb w + o0)), none] [] s) : zJ (zQf w x zeI) w x RX9 cX9_shed 2 4 (m_X9_shed_117 o0 rec51 k193 s) 117 [some (.ref (zb w + o0)), none] [] s := by
  unfold m_X9_shed_117
  refine zj_aload_n dX9_shed_117 rfl ?_
  refine zj_ldc2 dX9_shed_118 kcL_X9_222 ?_
  refine zj_cVI1 ml_X9_238 (fun a h => c_X9_isWord h_o0 h) h_o0 rfl (Nat.le_of_ble_eq_true rfl) (Nat.le_of_ble_eq_true rfl) dX9_shed_121 (fun r15 s14 => ?_)
  refine zj_if_eq (tgt := 143) dX9_shed_124 (by decide) ?_ ?_
  · exact j_X9_shed_143 hr h_o0 h_rec51 h_k193
  · refine zj_aload_n dX9_shed_127 rfl ?_
    refine zj_getI dX9_shed_128 fl_X9_274 rfl h_o0 ?_
    refine zj_bipush dX9_shed_131 zbi_8 ?_
    refine zj_icmp_ge (tgt := 143) dX9_shed_133 (by decide) ?_ ?_
    · refine zj_aload_n dX9_shed_136 rfl ?_
      refine zj_cVV0 ml_X9_294 (fun a h => c_X9_readTrial h_o0 h) h_o0 rfl (Nat.le_of_ble_eq_true rfl) (Nat.le_of_ble_eq_true rfl) dX9_shed_137 (fun s20 => ?_)
      refine zj_goto (tgt := 148) dX9_shed_140 (by decide) ?_
      exact j_X9_shed_148 hr h_o0 h_rec51 h_k193
    · exact j_X9_shed_143 hr h_o0 h_rec51 h_k193
def m_X9_shed_91 (o0 : Nat) (rec51 : zSt → Option (Int32 × zSt)) (k193 : zSt → Option (Int32 × zSt)) (s : zSt) : Option (Int32 × zSt) :=
  zcl (m_X9_isWord o0 426836849509 s) (fun r13 s12 => (if r13 = 0 then
  m_X9_shed_117 o0 rec51 k193 s12
  else
  (if zI s12 o0 18 < 8 then
    zcv (m_X9_readCause o0 s12) (fun s21 => m_X9_shed_148 o0 rec51 k193 s21)
    else
    m_X9_shed_117 o0 rec51 k193 s12)))
set_option maxRecDepth 100000 in
theorem j_X9_shed_91 {o0 : Nat} {rec51 : zSt → Option (Int32 × zSt)} {k193 : zSt → Option (Int32 × zSt)} {s : zSt} {w : zWC} {x : zCX} (hr : zrt x = (some .int))  (h_o0 : zC o0 = 9) (h_rec51 : ∀  (s : zSt), zJ (zQf w x zeI) w x RX9 cX9_shed 2 4 (rec51  s) 51 [some (.ref (zb w + o0)), none] [] s) (h_k193 : ∀  (s : zSt), zJ (zQf w x zeI) w x RX9 cX9_shed 2 4 (k193  s) 193 [some (.ref (zb w + o0)), none] [] s) : zJ (zQf w x zeI) w x RX9 cX9_shed 2 4 (m_X9_shed_91 o0 rec51 k193 s) 91 [some (.ref (zb w + o0)), none] [] s := by
  unfold m_X9_shed_91
  refine zj_aload_n dX9_shed_91 rfl ?_
  refine zj_ldc2 dX9_shed_92 kcL_X9_220 ?_
  refine zj_cVI1 ml_X9_238 (fun a h => c_X9_isWord h_o0 h) h_o0 rfl (Nat.le_of_ble_eq_true rfl) (Nat.le_of_ble_eq_true rfl) dX9_shed_95 (fun r13 s12 => ?_)
  refine zj_if_eq (tgt := 117) dX9_shed_98 (by decide) ?_ ?_
  · exact j_X9_shed_117 hr h_o0 h_rec51 h_k193
  · refine zj_aload_n dX9_shed_101 rfl ?_
    refine zj_getI dX9_shed_102 fl_X9_252 rfl h_o0 ?_
    refine zj_bipush dX9_shed_105 zbi_8 ?_
    refine zj_icmp_ge (tgt := 117) dX9_shed_107 (by decide) ?_ ?_
    · refine zj_aload_n dX9_shed_110 rfl ?_
      refine zj_cVV0 ml_X9_291 (fun a h => c_X9_readCause h_o0 h) h_o0 rfl (Nat.le_of_ble_eq_true rfl) (Nat.le_of_ble_eq_true rfl) dX9_shed_111 (fun s21 => ?_)
      refine zj_goto (tgt := 148) dX9_shed_114 (by decide) ?_
      exact j_X9_shed_148 hr h_o0 h_rec51 h_k193
    · exact j_X9_shed_117 hr h_o0 h_rec51 h_k193
def bd_X9_shed_51 (o0 : Nat) (rec51 : zSt → Option (Int32 × zSt)) (k193 : zSt → Option (Int32 × zSt)) (s : zSt) : Option (Int32 × zSt) :=
  (if zI s o0 2 = 0 then
  (if zI s o0 6 = 0 then
    k193  s
    else
    zcl (m_X9_which o0 s) (fun r11 s10 => (if r11 < 0 then
      m_X9_shed_91 o0 rec51 k193 s10
      else
      (if r11 < 0 ∨ zN (zT o0 15) ≤ Int32.toNatClampNeg r11 then none else (if zI s10 (zT o0 15) (Int32.toNatClampNeg r11) = 0 then
        zcv (m_X9_readTold o0 r11 s10) (fun s22 => m_X9_shed_148 o0 rec51 k193 s22)
        else
        m_X9_shed_91 o0 rec51 k193 s10)))))
  else
  k193  s)
def lp_X9_shed_51 (o0 : Nat) (k193 : zSt → Option (Int32 × zSt)) : Nat → zSt → Option (Int32 × zSt)
  | 0, _ => none
  | n + 1, s => bd_X9_shed_51 o0 (fun s => lp_X9_shed_51 o0 k193 n s) k193 s
set_option maxRecDepth 100000 in
theorem jb_X9_shed_51 {o0 : Nat} {rec51 : zSt → Option (Int32 × zSt)} {k193 : zSt → Option (Int32 × zSt)} {s : zSt} {w : zWC} {x : zCX} (hr : zrt x = (some .int))  (h_o0 : zC o0 = 9) (h_rec51 : ∀  (s : zSt), zJ (zQf w x zeI) w x RX9 cX9_shed 2 4 (rec51  s) 51 [some (.ref (zb w + o0)), none] [] s) (h_k193 : ∀  (s : zSt), zJ (zQf w x zeI) w x RX9 cX9_shed 2 4 (k193  s) 193 [some (.ref (zb w + o0)), none] [] s) : zJ (zQf w x zeI) w x RX9 cX9_shed 2 4 (bd_X9_shed_51 o0 rec51 k193 s) 51 [some (.ref (zb w + o0)), none] [] s := by
  unfold bd_X9_shed_51
  refine zj_aload_n dX9_shed_51 rfl ?_
  refine zj_getI dX9_shed_52 fl_X9_192 rfl h_o0 ?_
  refine zj_if_ne (tgt := 193) dX9_shed_55 (by decide) ?_ ?_
  · refine zj_aload_n dX9_shed_58 rfl ?_
    refine zj_getI dX9_shed_59 fl_X9_179 rfl h_o0 ?_
    refine zj_if_eq (tgt := 193) dX9_shed_62 (by decide) ?_ ?_
    · exact h_k193 _
    · refine zj_aload_n dX9_shed_65 rfl ?_
      refine zj_cVI0 ml_X9_284 (fun a h => c_X9_which h_o0 h) h_o0 rfl (Nat.le_of_ble_eq_true rfl) (Nat.le_of_ble_eq_true rfl) dX9_shed_66 (fun r11 s10 => ?_)
      refine zj_istore_n (lv' := [some (.ref (zb w + o0)), some (.int r11)]) dX9_shed_69 rfl (by decide) rfl rfl ?_
      refine zj_iload_n dX9_shed_70 rfl ?_
      refine zj_if_lt (tgt := 91) dX9_shed_71 (by decide) ?_ ?_
      · refine zj_weak [true, false] rfl ?_
        exact j_X9_shed_91 hr h_o0 h_rec51 h_k193
      · refine zj_aload_n dX9_shed_74 rfl ?_
        refine zj_getT dX9_shed_75 fl_X9_29 rfl h_o0 ?_
        refine zj_iload_n dX9_shed_78 rfl ?_
        refine zj_zald dX9_shed_79 (zt_9_15 _ h_o0) ?_
        refine zj_if_ne (tgt := 91) dX9_shed_80 (by decide) ?_ ?_
        · refine zj_aload_n dX9_shed_83 rfl ?_
          refine zj_iload_n dX9_shed_84 rfl ?_
          refine zj_cVV1 ml_X9_288 (fun a h => c_X9_readTold h_o0 h) h_o0 rfl (Nat.le_of_ble_eq_true rfl) (Nat.le_of_ble_eq_true rfl) dX9_shed_85 (fun s22 => ?_)
          refine zj_goto (tgt := 148) dX9_shed_88 (by decide) ?_
          refine zj_weak [true, false] rfl ?_
          exact j_X9_shed_148 hr h_o0 h_rec51 h_k193
        · refine zj_weak [true, false] rfl ?_
          exact j_X9_shed_91 hr h_o0 h_rec51 h_k193
  · exact h_k193 _
set_option maxRecDepth 100000 in
theorem jl_X9_shed_51 {o0 : Nat} {k193 : zSt → Option (Int32 × zSt)} {w : zWC} {x : zCX} (hr : zrt x = (some .int))  (h_o0 : zC o0 = 9) (h_k193 : ∀  (s : zSt), zJ (zQf w x zeI) w x RX9 cX9_shed 2 4 (k193  s) 193 [some (.ref (zb w + o0)), none] [] s) : ∀ (n : Nat)  (s : zSt), zJ (zQf w x zeI) w x RX9 cX9_shed 2 4 (lp_X9_shed_51 o0 k193 n s) 51 [some (.ref (zb w + o0)), none] [] s := by
  intro n
  induction n with
  | zero => intro s; exact zj_none
  | succ n ih => intro s; exact jb_X9_shed_51 hr h_o0 (fun s => ih s) h_k193
def bd_X9_shed_204 (o0 : Nat) (rec204 : Int32 → zSt → Option (Int32 × zSt)) (k228 : zSt → Option (Int32 × zSt)) (l1 : Int32) (s : zSt) : Option (Int32 × zSt) :=
  (if l1 < 11 then
  (if l1 < 0 ∨ zN (zT o0 11) ≤ Int32.toNatClampNeg l1 then none else (if l1 < 0 ∨ zN (zT o0 12) ≤ Int32.toNatClampNeg l1 then none else zlt (zsI s (zT o0 12) (Int32.toNatClampNeg l1) (zI s (zT o0 11) (Int32.toNatClampNeg l1))) (fun s24 => rec204 (l1 + 1) s24)))
  else
  k228  s)
def lp_X9_shed_204 (o0 : Nat) (k228 : zSt → Option (Int32 × zSt)) : Nat → Int32 → zSt → Option (Int32 × zSt)
  | 0, _, _ => none
  | n + 1, l1, s => bd_X9_shed_204 o0 (fun l1 s => lp_X9_shed_204 o0 k228 n l1 s) k228 l1 s
set_option maxRecDepth 100000 in
theorem jb_X9_shed_204 {o0 : Nat} {rec204 : Int32 → zSt → Option (Int32 × zSt)} {k228 : zSt → Option (Int32 × zSt)} {l1 : Int32} {s : zSt} {w : zWC} {x : zCX} (hr : zrt x = (some .int))  (h_o0 : zC o0 = 9) (h_rec204 : ∀ (l1 : Int32) (s : zSt), zJ (zQf w x zeI) w x RX9 cX9_shed 2 4 (rec204 l1 s) 204 [some (.ref (zb w + o0)), some (.int l1)] [] s) (h_k228 : ∀  (s : zSt), zJ (zQf w x zeI) w x RX9 cX9_shed 2 4 (k228  s) 228 [some (.ref (zb w + o0)), none] [] s) : zJ (zQf w x zeI) w x RX9 cX9_shed 2 4 (bd_X9_shed_204 o0 rec204 k228 l1 s) 204 [some (.ref (zb w + o0)), some (.int l1)] [] s := by
  unfold bd_X9_shed_204
  refine zj_iload_n dX9_shed_204 rfl ?_
  refine zj_bipush dX9_shed_205 zbi_11 ?_
  refine zj_icmp_ge (tgt := 228) dX9_shed_207 (by decide) ?_ ?_
  · refine zj_aload_n dX9_shed_210 rfl ?_
    refine zj_getT dX9_shed_211 fl_X9_20 rfl h_o0 ?_
    refine zj_iload_n dX9_shed_214 rfl ?_
    refine zj_aload_n dX9_shed_215 rfl ?_
    refine zj_getT dX9_shed_216 fl_X9_17 rfl h_o0 ?_
    refine zj_iload_n dX9_shed_219 rfl ?_
    refine zj_iald dX9_shed_220 (zt_9_11 _ h_o0) ?_
    refine zj_iast dX9_shed_221 (zt_9_12 _ h_o0) (fun s24 => ?_)
    refine zj_iinc (v2 := l1 + 1) (lv' := [some (.ref (zb w + o0)), some (.int (l1 + 1))]) dX9_shed_222 rfl (by rw [zic_1]) (by decide) rfl rfl ?_
    refine zj_goto (tgt := 204) dX9_shed_225 (by decide) ?_
    exact h_rec204 _ _
  · refine zj_weak [true, false] rfl ?_
    exact h_k228 _
set_option maxRecDepth 100000 in
theorem jl_X9_shed_204 {o0 : Nat} {k228 : zSt → Option (Int32 × zSt)} {w : zWC} {x : zCX} (hr : zrt x = (some .int))  (h_o0 : zC o0 = 9) (h_k228 : ∀  (s : zSt), zJ (zQf w x zeI) w x RX9 cX9_shed 2 4 (k228  s) 228 [some (.ref (zb w + o0)), none] [] s) : ∀ (n : Nat) (l1 : Int32) (s : zSt), zJ (zQf w x zeI) w x RX9 cX9_shed 2 4 (lp_X9_shed_204 o0 k228 n l1 s) 204 [some (.ref (zb w + o0)), some (.int l1)] [] s := by
  intro n
  induction n with
  | zero => intro l1 s; exact zj_none
  | succ n ih => intro l1 s; exact jb_X9_shed_204 hr h_o0 (fun l1 s => ih l1 s) h_k228
def bd_X9_shed_230 (o0 : Nat) (rec230 : Int32 → zSt → Option (Int32 × zSt)) (k261 : zSt → Option (Int32 × zSt)) (l1 : Int32) (s : zSt) : Option (Int32 × zSt) :=
  (if l1 < 8 then
  (if l1 < 0 ∨ zN (zT o0 13) ≤ Int32.toNatClampNeg l1 then none else (if l1 < 0 ∨ zN (zT o0 14) ≤ Int32.toNatClampNeg l1 then none else zlt (zsI s (zT o0 14) (Int32.toNatClampNeg l1) (zI s (zT o0 13) (Int32.toNatClampNeg l1))) (fun s26 => (if l1 < 0 ∨ zN (zT o0 69) ≤ Int32.toNatClampNeg l1 then none else zlt (zsI s26 (zT o0 69) (Int32.toNatClampNeg l1) (vp_nar .boolean 0)) (fun s27 => rec230 (l1 + 1) s27)))))
  else
  k261  s)
def lp_X9_shed_230 (o0 : Nat) (k261 : zSt → Option (Int32 × zSt)) : Nat → Int32 → zSt → Option (Int32 × zSt)
  | 0, _, _ => none
  | n + 1, l1, s => bd_X9_shed_230 o0 (fun l1 s => lp_X9_shed_230 o0 k261 n l1 s) k261 l1 s
set_option maxRecDepth 100000 in
theorem jb_X9_shed_230 {o0 : Nat} {rec230 : Int32 → zSt → Option (Int32 × zSt)} {k261 : zSt → Option (Int32 × zSt)} {l1 : Int32} {s : zSt} {w : zWC} {x : zCX} (hr : zrt x = (some .int))  (h_o0 : zC o0 = 9) (h_rec230 : ∀ (l1 : Int32) (s : zSt), zJ (zQf w x zeI) w x RX9 cX9_shed 2 4 (rec230 l1 s) 230 [some (.ref (zb w + o0)), some (.int l1)] [] s) (h_k261 : ∀  (s : zSt), zJ (zQf w x zeI) w x RX9 cX9_shed 2 4 (k261  s) 261 [some (.ref (zb w + o0)), none] [] s) : zJ (zQf w x zeI) w x RX9 cX9_shed 2 4 (bd_X9_shed_230 o0 rec230 k261 l1 s) 230 [some (.ref (zb w + o0)), some (.int l1)] [] s := by
  unfold bd_X9_shed_230
  refine zj_iload_n dX9_shed_230 rfl ?_
  refine zj_bipush dX9_shed_231 zbi_8 ?_
  refine zj_icmp_ge (tgt := 261) dX9_shed_233 (by decide) ?_ ?_
  · refine zj_aload_n dX9_shed_236 rfl ?_
    refine zj_getT dX9_shed_237 fl_X9_26 rfl h_o0 ?_
    refine zj_iload_n dX9_shed_240 rfl ?_
    refine zj_aload_n dX9_shed_241 rfl ?_
    refine zj_getT dX9_shed_242 fl_X9_23 rfl h_o0 ?_
    refine zj_iload_n dX9_shed_245 rfl ?_
    refine zj_iald dX9_shed_246 (zt_9_13 _ h_o0) ?_
    refine zj_iast dX9_shed_247 (zt_9_14 _ h_o0) (fun s26 => ?_)
    refine zj_aload_n dX9_shed_248 rfl ?_
    refine zj_getT dX9_shed_249 fl_X9_136 rfl h_o0 ?_
    refine zj_iload_n dX9_shed_252 rfl ?_
    refine zj_iconst dX9_shed_253 zic_0 ?_
    refine zj_zast dX9_shed_254 (zt_9_69 _ h_o0) (fun s27 => ?_)
    refine zj_iinc (v2 := l1 + 1) (lv' := [some (.ref (zb w + o0)), some (.int (l1 + 1))]) dX9_shed_255 rfl (by rw [zic_1]) (by decide) rfl rfl ?_
    refine zj_goto (tgt := 230) dX9_shed_258 (by decide) ?_
    exact h_rec230 _ _
  · refine zj_weak [true, false] rfl ?_
    exact h_k261 _
set_option maxRecDepth 100000 in
theorem jl_X9_shed_230 {o0 : Nat} {k261 : zSt → Option (Int32 × zSt)} {w : zWC} {x : zCX} (hr : zrt x = (some .int))  (h_o0 : zC o0 = 9) (h_k261 : ∀  (s : zSt), zJ (zQf w x zeI) w x RX9 cX9_shed 2 4 (k261  s) 261 [some (.ref (zb w + o0)), none] [] s) : ∀ (n : Nat) (l1 : Int32) (s : zSt), zJ (zQf w x zeI) w x RX9 cX9_shed 2 4 (lp_X9_shed_230 o0 k261 n l1 s) 230 [some (.ref (zb w + o0)), some (.int l1)] [] s := by
  intro n
  induction n with
  | zero => intro l1 s; exact zj_none
  | succ n ih => intro l1 s; exact jb_X9_shed_230 hr h_o0 (fun l1 s => ih l1 s) h_k261
def m_X9_shed_193 (o0 : Nat) (s : zSt) : Option (Int32 × zSt) :=
  (if 0 < zI s o0 2 then
  some ((-1), s)
  else
  lp_X9_shed_204 o0 (fun s_25 => lp_X9_shed_230 o0 (fun s_28 => zlt (zsI s_28 o0 21 (zI s_28 o0 18)) (fun s29 => zlt (zsI s29 o0 22 (zI s29 o0 19)) (fun s30 => some (zI s30 o0 20, s30)))) zFuel 0 s_25) zFuel 0 s)
set_option maxRecDepth 100000 in
theorem j_X9_shed_193 {o0 : Nat} {s : zSt} {w : zWC} {x : zCX} (hr : zrt x = (some .int))  (h_o0 : zC o0 = 9) : zJ (zQf w x zeI) w x RX9 cX9_shed 2 4 (m_X9_shed_193 o0 s) 193 [some (.ref (zb w + o0)), none] [] s := by
  unfold m_X9_shed_193
  refine zj_aload_n dX9_shed_193 rfl ?_
  refine zj_getI dX9_shed_194 fl_X9_192 rfl h_o0 ?_
  refine zj_if_le (tgt := 202) dX9_shed_197 (by decide) ?_ ?_
  · refine zj_iconst dX9_shed_200 zic_m1 ?_
    exact zj_iret hr dX9_shed_201
  · refine zj_iconst dX9_shed_202 zic_0 ?_
    refine zj_istore_n (lv' := [some (.ref (zb w + o0)), some (.int 0)]) dX9_shed_203 rfl (by decide) rfl rfl ?_
    refine jl_X9_shed_204 hr h_o0 (fun s_25 => ?_) zFuel _ _
    refine zj_iconst dX9_shed_228 zic_0 ?_
    refine zj_istore_n (lv' := [some (.ref (zb w + o0)), some (.int 0)]) dX9_shed_229 rfl (by decide) rfl rfl ?_
    refine jl_X9_shed_230 hr h_o0 (fun s_28 => ?_) zFuel _ _
    refine zj_aload_n dX9_shed_261 rfl ?_
    refine zj_aload_n dX9_shed_262 rfl ?_
    refine zj_getI dX9_shed_263 fl_X9_252 rfl h_o0 ?_
    refine zj_putI dX9_shed_266 fl_X9_297 rfl h_o0 pd_9_21 rfl rfl (fun s29 => ?_)
    refine zj_aload_n dX9_shed_269 rfl ?_
    refine zj_aload_n dX9_shed_270 rfl ?_
    refine zj_getI dX9_shed_271 fl_X9_274 rfl h_o0 ?_
    refine zj_putI dX9_shed_274 fl_X9_300 rfl h_o0 pd_9_22 rfl rfl (fun s30 => ?_)
    refine zj_aload_n dX9_shed_277 rfl ?_
    refine zj_getI dX9_shed_278 fl_X9_277 rfl h_o0 ?_
    exact zj_iret hr dX9_shed_281
def m_X9_shed (o0 : Nat) (s : zSt) : Option (Int32 × zSt) :=
  zlt (zsI s o0 18 0) (fun s1 => zlt (zsI s1 o0 19 0) (fun s2 => zlt (zsI s2 o0 20 0) (fun s3 => lp_X9_shed_17 o0 (fun s_8 => zcv (m_X9_start o0 0 s_8) (fun s9 => lp_X9_shed_51 o0 (fun s_23 => m_X9_shed_193 o0 s_23) zFuel s9)) zFuel 0 s3)))
set_option maxRecDepth 100000 in
theorem c_X9_shed {w : zWC} {o0 : Nat} {s : zSt} (h_o0 : zC o0 = 9) {a : Int32 × zSt} (hm : m_X9_shed o0 s = some a) : zCn w 4 yX9_shed cX9_shed 2 (some .int) [.ref (zb w + o0)] s (zeI a).1 (zeI a).2 :=
  zCn_of (own := RX9) (lv := [some (.ref (zb w + o0)), none]) (by decide +kernel) rfl (Nat.le_of_ble_eq_true rfl) rfl (fun x hr => by
    unfold m_X9_shed
    refine zj_aload_n dX9_shed_0 rfl ?_
    refine zj_iconst dX9_shed_1 zic_0 ?_
    refine zj_putI dX9_shed_2 fl_X9_252 rfl h_o0 pd_9_18 rfl rfl (fun s1 => ?_)
    refine zj_aload_n dX9_shed_5 rfl ?_
    refine zj_iconst dX9_shed_6 zic_0 ?_
    refine zj_putI dX9_shed_7 fl_X9_274 rfl h_o0 pd_9_19 rfl rfl (fun s2 => ?_)
    refine zj_aload_n dX9_shed_10 rfl ?_
    refine zj_iconst dX9_shed_11 zic_0 ?_
    refine zj_putI dX9_shed_12 fl_X9_277 rfl h_o0 pd_9_20 rfl rfl (fun s3 => ?_)
    refine zj_iconst dX9_shed_15 zic_0 ?_
    refine zj_istore_n (lv' := [some (.ref (zb w + o0)), some (.int 0)]) dX9_shed_16 rfl (by decide) rfl rfl ?_
    refine jl_X9_shed_17 hr h_o0 (fun s_8 => ?_) zFuel _ _
    refine zj_aload_n dX9_shed_46 rfl ?_
    refine zj_iconst dX9_shed_47 zic_0 ?_
    refine zj_cVV1 ml_X9_280 (fun a h => c_X9_start h_o0 h) h_o0 rfl (Nat.le_of_ble_eq_true rfl) (Nat.le_of_ble_eq_true rfl) dX9_shed_48 (fun s9 => ?_)
    refine jl_X9_shed_51 hr h_o0 (fun s_23 => ?_) zFuel _
    exact j_X9_shed_193 hr h_o0) hm
def m_X9_fault (o0 : Nat) (p1 : Int32) (s : zSt) : Option (Int32 × zSt) :=
  (if p1 = 0 then
  some (zI s o0 2, s)
  else
  (if p1 = 1 then
    some (zI s o0 3, s)
    else
    some ((-1), s)))
set_option maxRecDepth 100000 in
theorem c_X9_fault {w : zWC} {o0 : Nat} {p1 : Int32} {s : zSt} (h_o0 : zC o0 = 9) {a : Int32 × zSt} (hm : m_X9_fault o0 p1 s = some a) : zCn w 0 yX9_fault cX9_fault 2 (some .int) [.ref (zb w + o0), .int p1] s (zeI a).1 (zeI a).2 :=
  zCn_of (own := RX9) (lv := [some (.ref (zb w + o0)), some (.int p1)]) (by decide +kernel) rfl (Nat.le_of_ble_eq_true rfl) rfl (fun x hr => by
    unfold m_X9_fault
    refine zj_iload_n dX9_fault_0 rfl ?_
    refine zj_if_ne (tgt := 11) dX9_fault_1 (by decide) ?_ ?_
    · refine zj_aload_n dX9_fault_4 rfl ?_
      refine zj_getI dX9_fault_5 fl_X9_192 rfl h_o0 ?_
      refine zj_goto (tgt := 24) dX9_fault_8 (by decide) ?_
      exact zj_iret hr dX9_fault_24
    · refine zj_iload_n dX9_fault_11 rfl ?_
      refine zj_iconst dX9_fault_12 zic_1 ?_
      refine zj_icmp_ne (tgt := 23) dX9_fault_13 (by decide) ?_ ?_
      · refine zj_aload_n dX9_fault_16 rfl ?_
        refine zj_getI dX9_fault_17 fl_X9_13 rfl h_o0 ?_
        refine zj_goto (tgt := 24) dX9_fault_20 (by decide) ?_
        exact zj_iret hr dX9_fault_24
      · refine zj_iconst dX9_fault_23 zic_m1 ?_
        exact zj_iret hr dX9_fault_24) hm
def bd_X9_common_28 (q0 : Int64) (q2 : Int64) (rec28 : Int64 → Int64 → zSt → Option (Int64 × zSt)) (l4 : Int64) (l6 : Int64) (s : zSt) : Option (Int64 × zSt) :=
  (if 0 < l6 then
  (if l6 = 0 then none else rec28 l6 (l4 - l4 / l6 * l6) s)
  else
  some (l4, s))
def lp_X9_common_28 (q0 : Int64) (q2 : Int64) : Nat → Int64 → Int64 → zSt → Option (Int64 × zSt)
  | 0, _, _, _ => none
  | n + 1, l4, l6, s => bd_X9_common_28 q0 q2 (fun l4 l6 s => lp_X9_common_28 q0 q2 n l4 l6 s) l4 l6 s
set_option maxRecDepth 100000 in
theorem jb_X9_common_28 {q0 : Int64} {q2 : Int64} {rec28 : Int64 → Int64 → zSt → Option (Int64 × zSt)} {l4 : Int64} {l6 : Int64} {s : zSt} {w : zWC} {x : zCX} (hr : zrt x = (some .long))  (h_rec28 : ∀ (l4 : Int64) (l6 : Int64) (s : zSt), zJ (zQf w x zeL) w x RX9 cX9_common 10 0 (rec28 l4 l6 s) 28 [none, none, none, none, some (.long l4), none, some (.long l6), none, none, none] [] s) : zJ (zQf w x zeL) w x RX9 cX9_common 10 0 (bd_X9_common_28 q0 q2 rec28 l4 l6 s) 28 [none, none, none, none, some (.long l4), none, some (.long l6), none, none, none] [] s := by
  unfold bd_X9_common_28
  refine zj_lload dX9_common_28 rfl ?_
  refine zj_lconst (v := 0) dX9_common_30 rfl ?_
  refine zj_lcmp_le (tgt := 53) dX9_common_31 dX9_common_32 (by decide) ?_ ?_
  · refine zj_lload dX9_common_35 rfl ?_
    refine zj_lload dX9_common_37 rfl ?_
    refine zj_lrem dX9_common_39 ?_
    refine zj_lstore (lv' := [none, none, none, none, some (.long l4), none, some (.long l6), none, some (.long (l4 - l4 / l6 * l6)), none]) dX9_common_40 (by decide) rfl rfl ?_
    refine zj_lload dX9_common_42 rfl ?_
    refine zj_lstore (lv' := [none, none, none, none, some (.long l6), none, some (.long l6), none, some (.long (l4 - l4 / l6 * l6)), none]) dX9_common_44 (by decide) rfl rfl ?_
    refine zj_lload dX9_common_46 rfl ?_
    refine zj_lstore (lv' := [none, none, none, none, some (.long l6), none, some (.long (l4 - l4 / l6 * l6)), none, some (.long (l4 - l4 / l6 * l6)), none]) dX9_common_48 (by decide) rfl rfl ?_
    refine zj_goto (tgt := 28) dX9_common_50 (by decide) ?_
    refine zj_weak [false, false, false, false, true, false, true, false, false, false] rfl ?_
    exact h_rec28 _ _ _
  · refine zj_lload dX9_common_53 rfl ?_
    exact zj_lret hr dX9_common_55
set_option maxRecDepth 100000 in
theorem jl_X9_common_28 {q0 : Int64} {q2 : Int64} {w : zWC} {x : zCX} (hr : zrt x = (some .long))  : ∀ (n : Nat) (l4 : Int64) (l6 : Int64) (s : zSt), zJ (zQf w x zeL) w x RX9 cX9_common 10 0 (lp_X9_common_28 q0 q2 n l4 l6 s) 28 [none, none, none, none, some (.long l4), none, some (.long l6), none, none, none] [] s := by
  intro n
  induction n with
  | zero => intro l4 l6 s; exact zj_none
  | succ n ih => intro l4 l6 s; exact jb_X9_common_28 hr (fun l4 l6 s => ih l4 l6 s)
def m_X9_common_26 (q0 : Int64) (q2 : Int64) (l4 : Int64) (t0 : Int64) (s : zSt) : Option (Int64 × zSt) :=
  lp_X9_common_28 q0 q2 zFuel l4 t0 s
set_option maxRecDepth 100000 in
theorem j_X9_common_26 {q0 : Int64} {q2 : Int64} {l4 : Int64} {t0 : Int64} {s : zSt} {w : zWC} {x : zCX} (hr : zrt x = (some .long))  : zJ (zQf w x zeL) w x RX9 cX9_common 10 0 (m_X9_common_26 q0 q2 l4 t0 s) 26 [none, none, none, none, some (.long l4), none, none, none, none, none] [.long t0] s := by
  unfold m_X9_common_26
  refine zj_lstore (lv' := [none, none, none, none, some (.long l4), none, some (.long t0), none, none, none]) dX9_common_26 (by decide) rfl rfl ?_
  exact jl_X9_common_28 hr zFuel _ _ _
def m_X9_common_12 (q0 : Int64) (q2 : Int64) (t0 : Int64) (s : zSt) : Option (Int64 × zSt) :=
  (if q2 < 0 then
  m_X9_common_26 q0 q2 t0 (-q2) s
  else
  m_X9_common_26 q0 q2 t0 q2 s)
set_option maxRecDepth 100000 in
theorem j_X9_common_12 {q0 : Int64} {q2 : Int64} {t0 : Int64} {s : zSt} {w : zWC} {x : zCX} (hr : zrt x = (some .long))  : zJ (zQf w x zeL) w x RX9 cX9_common 10 0 (m_X9_common_12 q0 q2 t0 s) 12 [none, none, some (.long q2), none, none, none, none, none, none, none] [.long t0] s := by
  unfold m_X9_common_12
  refine zj_lstore (lv' := [none, none, some (.long q2), none, some (.long t0), none, none, none, none, none]) dX9_common_12 (by decide) rfl rfl ?_
  refine zj_lload_n dX9_common_14 rfl ?_
  refine zj_lconst (v := 0) dX9_common_15 rfl ?_
  refine zj_lcmp_ge (tgt := 25) dX9_common_16 dX9_common_17 (by decide) ?_ ?_
  · refine zj_lload_n dX9_common_20 rfl ?_
    refine zj_lneg dX9_common_21 ?_
    refine zj_goto (tgt := 26) dX9_common_22 (by decide) ?_
    refine zj_weak [false, false, false, false, true, false, false, false, false, false] rfl ?_
    exact j_X9_common_26 hr
  · refine zj_lload_n dX9_common_25 rfl ?_
    refine zj_weak [false, false, false, false, true, false, false, false, false, false] rfl ?_
    exact j_X9_common_26 hr
def m_X9_common (q0 : Int64) (q2 : Int64) (s : zSt) : Option (Int64 × zSt) :=
  (if q0 < 0 then
  m_X9_common_12 q0 q2 (-q0) s
  else
  m_X9_common_12 q0 q2 q0 s)
set_option maxRecDepth 100000 in
theorem c_X9_common {w : zWC} {q0 : Int64} {q2 : Int64} {s : zSt}  {a : Int64 × zSt} (hm : m_X9_common q0 q2 s = some a) : zCn w 0 yX9_common cX9_common 10 (some .long) [.long q0, .long q2] s (zeL a).1 (zeL a).2 :=
  zCn_of (own := RX9) (lv := [some (.long q0), none, some (.long q2), none, none, none, none, none, none, none]) (by decide +kernel) rfl (Nat.le_of_ble_eq_true rfl) rfl (fun x hr => by
    unfold m_X9_common
    refine zj_lload_n dX9_common_0 rfl ?_
    refine zj_lconst (v := 0) dX9_common_1 rfl ?_
    refine zj_lcmp_ge (tgt := 11) dX9_common_2 dX9_common_3 (by decide) ?_ ?_
    · refine zj_lload_n dX9_common_6 rfl ?_
      refine zj_lneg dX9_common_7 ?_
      refine zj_goto (tgt := 12) dX9_common_8 (by decide) ?_
      refine zj_weak [false, false, true, false, false, false, false, false, false, false] rfl ?_
      exact j_X9_common_12 hr
    · refine zj_lload_n dX9_common_11 rfl ?_
      refine zj_weak [false, false, true, false, false, false, false, false, false, false] rfl ?_
      exact j_X9_common_12 hr) hm
def m_X9_down (q0 : Int64) (q2 : Int64) (s : zSt) : Option (Int64 × zSt) :=
  (if q2 = 0 then none else (if q2 = 0 then none else (if q0 - q0 / q2 * q2 < 0 then
  some ((q0 / q2) - 1, s)
  else
  some (q0 / q2, s))))
set_option maxRecDepth 100000 in
theorem c_X9_down {w : zWC} {q0 : Int64} {q2 : Int64} {s : zSt}  {a : Int64 × zSt} (hm : m_X9_down q0 q2 s = some a) : zCn w 0 yX9_down cX9_down 6 (some .long) [.long q0, .long q2] s (zeL a).1 (zeL a).2 :=
  zCn_of (own := RX9) (lv := [some (.long q0), none, some (.long q2), none, none, none]) (by decide +kernel) rfl (Nat.le_of_ble_eq_true rfl) rfl (fun x hr => by
    unfold m_X9_down
    refine zj_lload_n dX9_down_0 rfl ?_
    refine zj_lload_n dX9_down_1 rfl ?_
    refine zj_ldiv dX9_down_2 ?_
    refine zj_lstore (lv' := [some (.long q0), none, some (.long q2), none, some (.long (q0 / q2)), none]) dX9_down_3 (by decide) rfl rfl ?_
    refine zj_lload_n dX9_down_5 rfl ?_
    refine zj_lload_n dX9_down_6 rfl ?_
    refine zj_lrem dX9_down_7 ?_
    refine zj_lconst (v := 0) dX9_down_8 rfl ?_
    refine zj_lcmp_ge (tgt := 20) dX9_down_9 dX9_down_10 (by decide) ?_ ?_
    · refine zj_lload dX9_down_13 rfl ?_
      refine zj_lconst (v := 1) dX9_down_15 rfl ?_
      refine zj_lsub dX9_down_16 ?_
      refine zj_goto (tgt := 22) dX9_down_17 (by decide) ?_
      exact zj_lret hr dX9_down_22
    · refine zj_lload dX9_down_20 rfl ?_
      exact zj_lret hr dX9_down_22) hm
def m_X9_found_26 (o0 : Nat) (q1 : Int64) (q3 : Int64) (l5 : Int64) (t0 : Nat) (t1 : Int64) (s : zSt) : Option (zSt) :=
  zlt (zsL s t0 23 t1) (fun s3 => (if q3 < 0 then
  (if l5 = 0 then none else zlt (zsL s3 o0 24 ((-q3) / l5)) (fun s4 => some s4))
  else
  (if l5 = 0 then none else zlt (zsL s3 o0 24 (q3 / l5)) (fun s5 => some s5))))
set_option maxRecDepth 100000 in
theorem j_X9_found_26 {o0 : Nat} {q1 : Int64} {q3 : Int64} {l5 : Int64} {t0 : Nat} {t1 : Int64} {s : zSt} {w : zWC} {x : zCX} (hr : zrt x = none)  (h_o0 : zC o0 = 9) (ht0 : zC t0 = 9) : zJ (zQf w x zeV) w x RX9 cX9_found 7 1 (m_X9_found_26 o0 q1 q3 l5 t0 t1 s) 26 [some (.ref (zb w + o0)), none, none, some (.long q3), none, some (.long l5), none] [.long t1, .ref (zb w + t0)] s := by
  unfold m_X9_found_26
  refine zj_putL dX9_found_26 fl_X9_307 rfl ht0 pd_9_23 rfl rfl (fun s3 => ?_)
  refine zj_aload_n dX9_found_29 rfl ?_
  refine zj_lload_n dX9_found_30 rfl ?_
  refine zj_lconst (v := 0) dX9_found_31 rfl ?_
  refine zj_lcmp_ge (tgt := 44) dX9_found_32 dX9_found_33 (by decide) ?_ ?_
  · refine zj_lload_n dX9_found_36 rfl ?_
    refine zj_lneg dX9_found_37 ?_
    refine zj_lload dX9_found_38 rfl ?_
    refine zj_ldiv dX9_found_40 ?_
    refine zj_goto (tgt := 48) dX9_found_41 (by decide) ?_
    refine zj_putL dX9_found_48 fl_X9_310 rfl h_o0 pd_9_24 rfl rfl (fun s4 => ?_)
    exact zj_vret hr dX9_found_51
  · refine zj_lload_n dX9_found_44 rfl ?_
    refine zj_lload dX9_found_45 rfl ?_
    refine zj_ldiv dX9_found_47 ?_
    refine zj_putL dX9_found_48 fl_X9_310 rfl h_o0 pd_9_24 rfl rfl (fun s5 => ?_)
    exact zj_vret hr dX9_found_51
def m_X9_found (o0 : Nat) (q1 : Int64) (q3 : Int64) (s : zSt) : Option (zSt) :=
  zcl (m_X9_common q1 q3 s) (fun r2 s1 => (if q3 < 0 then
  (if r2 = 0 then none else m_X9_found_26 o0 q1 q3 r2 o0 ((-q1) / r2) s1)
  else
  (if r2 = 0 then none else m_X9_found_26 o0 q1 q3 r2 o0 (q1 / r2) s1)))
set_option maxRecDepth 100000 in
theorem c_X9_found {w : zWC} {o0 : Nat} {q1 : Int64} {q3 : Int64} {s : zSt} (h_o0 : zC o0 = 9) {a : zSt} (hm : m_X9_found o0 q1 q3 s = some a) : zCn w 1 yX9_found cX9_found 7 none [.ref (zb w + o0), .long q1, .long q3] s (zeV a).1 (zeV a).2 :=
  zCn_of (own := RX9) (lv := [some (.ref (zb w + o0)), some (.long q1), none, some (.long q3), none, none, none]) (by decide +kernel) rfl (Nat.le_of_ble_eq_true rfl) rfl (fun x hr => by
    unfold m_X9_found
    refine zj_lload_n dX9_found_0 rfl ?_
    refine zj_lload_n dX9_found_1 rfl ?_
    refine zj_cSL2 ml_X9_303 (fun a h => c_X9_common  h) (Nat.le_of_ble_eq_true rfl) (Nat.le_of_ble_eq_true rfl) dX9_found_2 (fun r2 s1 => ?_)
    refine zj_lstore (lv' := [some (.ref (zb w + o0)), some (.long q1), none, some (.long q3), none, some (.long r2), none]) dX9_found_5 (by decide) rfl rfl ?_
    refine zj_aload_n dX9_found_7 rfl ?_
    refine zj_lload_n dX9_found_8 rfl ?_
    refine zj_lconst (v := 0) dX9_found_9 rfl ?_
    refine zj_lcmp_ge (tgt := 22) dX9_found_10 dX9_found_11 (by decide) ?_ ?_
    · refine zj_lload_n dX9_found_14 rfl ?_
      refine zj_lneg dX9_found_15 ?_
      refine zj_lload dX9_found_16 rfl ?_
      refine zj_ldiv dX9_found_18 ?_
      refine zj_goto (tgt := 26) dX9_found_19 (by decide) ?_
      refine zj_weak [true, false, false, true, false, true, false] rfl ?_
      exact j_X9_found_26 hr h_o0 h_o0
    · refine zj_lload_n dX9_found_22 rfl ?_
      refine zj_lload dX9_found_23 rfl ?_
      refine zj_ldiv dX9_found_25 ?_
      refine zj_weak [true, false, false, true, false, true, false] rfl ?_
      exact j_X9_found_26 hr h_o0 h_o0) hm
def m_X9_part (o0 : Nat) (p1 : Int32) (s : zSt) : Option (Int64 × zSt) :=
  (if p1 = 0 then
  some (zL s o0 23, s)
  else
  some (zL s o0 24, s))
set_option maxRecDepth 100000 in
theorem c_X9_part {w : zWC} {o0 : Nat} {p1 : Int32} {s : zSt} (h_o0 : zC o0 = 9) {a : Int64 × zSt} (hm : m_X9_part o0 p1 s = some a) : zCn w 0 yX9_part cX9_part 2 (some .long) [.ref (zb w + o0), .int p1] s (zeL a).1 (zeL a).2 :=
  zCn_of (own := RX9) (lv := [some (.ref (zb w + o0)), some (.int p1)]) (by decide +kernel) rfl (Nat.le_of_ble_eq_true rfl) rfl (fun x hr => by
    unfold m_X9_part
    refine zj_iload_n dX9_part_0 rfl ?_
    refine zj_if_ne (tgt := 11) dX9_part_1 (by decide) ?_ ?_
    · refine zj_aload_n dX9_part_4 rfl ?_
      refine zj_getL dX9_part_5 fl_X9_307 rfl h_o0 ?_
      refine zj_goto (tgt := 15) dX9_part_8 (by decide) ?_
      exact zj_lret hr dX9_part_15
    · refine zj_aload_n dX9_part_11 rfl ?_
      refine zj_getL dX9_part_12 fl_X9_310 rfl h_o0 ?_
      exact zj_lret hr dX9_part_15) hm
def m_X9_isPart (p0 : Int32) (s : zSt) : Option (Int32 × zSt) :=
  (if p0 = 0 then
  some (1, s)
  else
  (if p0 = 1 then
    some (1, s)
    else
    some (0, s)))
set_option maxRecDepth 100000 in
theorem c_X9_isPart {w : zWC} {p0 : Int32} {s : zSt}  {a : Int32 × zSt} (hm : m_X9_isPart p0 s = some a) : zCn w 0 yX9_isPart cX9_isPart 1 (some .boolean) [.int p0] s (zeI a).1 (zeI a).2 :=
  zCn_of (own := RX9) (lv := [some (.int p0)]) (by decide +kernel) rfl (Nat.le_of_ble_eq_true rfl) rfl (fun x hr => by
    unfold m_X9_isPart
    refine zj_iload_n dX9_isPart_0 rfl ?_
    refine zj_if_eq (tgt := 9) dX9_isPart_1 (by decide) ?_ ?_
    · refine zj_iconst dX9_isPart_9 zic_1 ?_
      refine zj_goto (tgt := 14) dX9_isPart_10 (by decide) ?_
      exact zj_zret hr rfl dX9_isPart_14
    · refine zj_iload_n dX9_isPart_4 rfl ?_
      refine zj_iconst dX9_isPart_5 zic_1 ?_
      refine zj_icmp_ne (tgt := 13) dX9_isPart_6 (by decide) ?_ ?_
      · refine zj_iconst dX9_isPart_9 zic_1 ?_
        refine zj_goto (tgt := 14) dX9_isPart_10 (by decide) ?_
        exact zj_zret hr rfl dX9_isPart_14
      · refine zj_iconst dX9_isPart_13 zic_0 ?_
        exact zj_zret hr rfl dX9_isPart_14) hm
def m_X9_isSide (p0 : Int32) (s : zSt) : Option (Int32 × zSt) :=
  (if p0 < (-1) then
  some (0, s)
  else
  (if 1 < p0 then
    some (0, s)
    else
    some (1, s)))
set_option maxRecDepth 100000 in
theorem c_X9_isSide {w : zWC} {p0 : Int32} {s : zSt}  {a : Int32 × zSt} (hm : m_X9_isSide p0 s = some a) : zCn w 0 yX9_isSide cX9_isSide 1 (some .boolean) [.int p0] s (zeI a).1 (zeI a).2 :=
  zCn_of (own := RX9) (lv := [some (.int p0)]) (by decide +kernel) rfl (Nat.le_of_ble_eq_true rfl) rfl (fun x hr => by
    unfold m_X9_isSide
    refine zj_iload_n dX9_isSide_0 rfl ?_
    refine zj_iconst dX9_isSide_1 zic_m1 ?_
    refine zj_icmp_lt (tgt := 14) dX9_isSide_2 (by decide) ?_ ?_
    · refine zj_iconst dX9_isSide_14 zic_0 ?_
      exact zj_zret hr rfl dX9_isSide_15
    · refine zj_iload_n dX9_isSide_5 rfl ?_
      refine zj_iconst dX9_isSide_6 zic_1 ?_
      refine zj_icmp_gt (tgt := 14) dX9_isSide_7 (by decide) ?_ ?_
      · refine zj_iconst dX9_isSide_14 zic_0 ?_
        exact zj_zret hr rfl dX9_isSide_15
      · refine zj_iconst dX9_isSide_10 zic_1 ?_
        refine zj_goto (tgt := 15) dX9_isSide_11 (by decide) ?_
        exact zj_zret hr rfl dX9_isSide_15) hm
def m_X9_seekPull (o0 : Nat) (s : zSt) : Option (zSt) :=
  (if (1 : Int32) < 0 ∨ zN (zT o0 12) ≤ Int32.toNatClampNeg 1 then none else (if (1 : Int32) < 0 ∨ zN (zT o0 12) ≤ Int32.toNatClampNeg 1 then none else (if (2 : Int32) < 0 ∨ zN (zT o0 12) ≤ Int32.toNatClampNeg 2 then none else (if (2 : Int32) < 0 ∨ zN (zT o0 12) ≤ Int32.toNatClampNeg 2 then none else (if (4 : Int32) < 0 ∨ zN (zT o0 12) ≤ Int32.toNatClampNeg 4 then none else (if (0 : Int32) < 0 ∨ zN (zT o0 12) ≤ Int32.toNatClampNeg 0 then none else (if (3 : Int32) < 0 ∨ zN (zT o0 12) ≤ Int32.toNatClampNeg 3 then none else zcv (m_X9_found o0 (((((zI s (zT o0 12) (Int32.toNatClampNeg 4)).toInt64) * ((zI s (zT o0 12) (Int32.toNatClampNeg 0)).toInt64)) * (((1000 : Int32) + (zI s (zT o0 12) (Int32.toNatClampNeg 3))).toInt64)) * ((((zI s (zT o0 12) (Int32.toNatClampNeg 2)).toInt64) * ((zI s (zT o0 12) (Int32.toNatClampNeg 2)).toInt64)) - (((zI s (zT o0 12) (Int32.toNatClampNeg 1)).toInt64) * ((zI s (zT o0 12) (Int32.toNatClampNeg 1)).toInt64)))) (((1000 : Int64) * (((zI s (zT o0 12) (Int32.toNatClampNeg 1)).toInt64) * ((zI s (zT o0 12) (Int32.toNatClampNeg 1)).toInt64))) * (((zI s (zT o0 12) (Int32.toNatClampNeg 2)).toInt64) * ((zI s (zT o0 12) (Int32.toNatClampNeg 2)).toInt64))) s) (fun s1 => some s1))))))))
set_option maxRecDepth 100000 in
theorem c_X9_seekPull {w : zWC} {o0 : Nat} {s : zSt} (h_o0 : zC o0 = 9) {a : zSt} (hm : m_X9_seekPull o0 s = some a) : zCn w 2 yX9_seekPull cX9_seekPull 5 none [.ref (zb w + o0)] s (zeV a).1 (zeV a).2 :=
  zCn_of (own := RX9) (lv := [some (.ref (zb w + o0)), none, none, none, none]) (by decide +kernel) rfl (Nat.le_of_ble_eq_true rfl) rfl (fun x hr => by
    unfold m_X9_seekPull
    refine zj_aload_n dX9_seekPull_0 rfl ?_
    refine zj_getT dX9_seekPull_1 fl_X9_20 rfl h_o0 ?_
    refine zj_iconst dX9_seekPull_4 zic_1 ?_
    refine zj_iald dX9_seekPull_5 (zt_9_12 _ h_o0) ?_
    refine zj_i2l dX9_seekPull_6 ?_
    refine zj_aload_n dX9_seekPull_7 rfl ?_
    refine zj_getT dX9_seekPull_8 fl_X9_20 rfl h_o0 ?_
    refine zj_iconst dX9_seekPull_11 zic_1 ?_
    refine zj_iald dX9_seekPull_12 (zt_9_12 _ h_o0) ?_
    refine zj_i2l dX9_seekPull_13 ?_
    refine zj_lmul dX9_seekPull_14 ?_
    refine zj_lstore_n (lv' := [some (.ref (zb w + o0)), some (.long (((zI s (zT o0 12) (Int32.toNatClampNeg 1)).toInt64) * ((zI s (zT o0 12) (Int32.toNatClampNeg 1)).toInt64))), none, none, none]) dX9_seekPull_15 rfl (by decide) rfl rfl ?_
    refine zj_aload_n dX9_seekPull_16 rfl ?_
    refine zj_getT dX9_seekPull_17 fl_X9_20 rfl h_o0 ?_
    refine zj_iconst dX9_seekPull_20 zic_2 ?_
    refine zj_iald dX9_seekPull_21 (zt_9_12 _ h_o0) ?_
    refine zj_i2l dX9_seekPull_22 ?_
    refine zj_aload_n dX9_seekPull_23 rfl ?_
    refine zj_getT dX9_seekPull_24 fl_X9_20 rfl h_o0 ?_
    refine zj_iconst dX9_seekPull_27 zic_2 ?_
    refine zj_iald dX9_seekPull_28 (zt_9_12 _ h_o0) ?_
    refine zj_i2l dX9_seekPull_29 ?_
    refine zj_lmul dX9_seekPull_30 ?_
    refine zj_lstore_n (lv' := [some (.ref (zb w + o0)), some (.long (((zI s (zT o0 12) (Int32.toNatClampNeg 1)).toInt64) * ((zI s (zT o0 12) (Int32.toNatClampNeg 1)).toInt64))), none, some (.long (((zI s (zT o0 12) (Int32.toNatClampNeg 2)).toInt64) * ((zI s (zT o0 12) (Int32.toNatClampNeg 2)).toInt64))), none]) dX9_seekPull_31 rfl (by decide) rfl rfl ?_
    refine zj_aload_n dX9_seekPull_32 rfl ?_
    refine zj_aload_n dX9_seekPull_33 rfl ?_
    refine zj_getT dX9_seekPull_34 fl_X9_20 rfl h_o0 ?_
    refine zj_iconst dX9_seekPull_37 zic_4 ?_
    refine zj_iald dX9_seekPull_38 (zt_9_12 _ h_o0) ?_
    refine zj_i2l dX9_seekPull_39 ?_
    refine zj_aload_n dX9_seekPull_40 rfl ?_
    refine zj_getT dX9_seekPull_41 fl_X9_20 rfl h_o0 ?_
    refine zj_iconst dX9_seekPull_44 zic_0 ?_
    refine zj_iald dX9_seekPull_45 (zt_9_12 _ h_o0) ?_
    refine zj_i2l dX9_seekPull_46 ?_
    refine zj_lmul dX9_seekPull_47 ?_
    refine zj_sipush dX9_seekPull_48 zsi_1000 ?_
    refine zj_aload_n dX9_seekPull_51 rfl ?_
    refine zj_getT dX9_seekPull_52 fl_X9_20 rfl h_o0 ?_
    refine zj_iconst dX9_seekPull_55 zic_3 ?_
    refine zj_iald dX9_seekPull_56 (zt_9_12 _ h_o0) ?_
    refine zj_iadd dX9_seekPull_57 ?_
    refine zj_i2l dX9_seekPull_58 ?_
    refine zj_lmul dX9_seekPull_59 ?_
    refine zj_lload_n dX9_seekPull_60 rfl ?_
    refine zj_lload_n dX9_seekPull_61 rfl ?_
    refine zj_lsub dX9_seekPull_62 ?_
    refine zj_lmul dX9_seekPull_63 ?_
    refine zj_ldc2 dX9_seekPull_64 kcL_X9_313 ?_
    refine zj_lload_n dX9_seekPull_67 rfl ?_
    refine zj_lmul dX9_seekPull_68 ?_
    refine zj_lload_n dX9_seekPull_69 rfl ?_
    refine zj_lmul dX9_seekPull_70 ?_
    refine zj_cVV2 ml_X9_315 (fun a h => c_X9_found h_o0 h) h_o0 rfl (Nat.le_of_ble_eq_true rfl) (Nat.le_of_ble_eq_true rfl) dX9_seekPull_71 (fun s1 => ?_)
    exact zj_vret hr dX9_seekPull_74) hm
def m_X9_seekRest (o0 : Nat) (p1 : Int32) (p2 : Int32) (s : zSt) : Option (zSt) :=
  zcv (m_X9_seekPull o0 s) (fun s1 => (if (7 : Int32) < 0 ∨ zN (zT o0 12) ≤ Int32.toNatClampNeg 7 then none else (if (10 : Int32) < 0 ∨ zN (zT o0 12) ≤ Int32.toNatClampNeg 10 then none else (if (9 : Int32) < 0 ∨ zN (zT o0 12) ≤ Int32.toNatClampNeg 9 then none else (if (8 : Int32) < 0 ∨ zN (zT o0 12) ≤ Int32.toNatClampNeg 8 then none else zcv (m_X9_found o0 ((((((((zI s1 (zT o0 12) (Int32.toNatClampNeg 7)).toInt64) + ((((zI s1 (zT o0 12) (Int32.toNatClampNeg 10)).toInt64) * p1.toInt64) * p1.toInt64)) + (((zI s1 (zT o0 12) (Int32.toNatClampNeg 9)).toInt64) * p1.toInt64)) * 10) + (((zI s1 (zT o0 12) (Int32.toNatClampNeg 8)).toInt64) * p2.toInt64)) * (zL s1 o0 24)) + (((10 : Int64) * p1.toInt64) * (zL s1 o0 23))) ((10 : Int64) * (zL s1 o0 24)) s1) (fun s2 => some s2))))))
set_option maxRecDepth 100000 in
theorem c_X9_seekRest {w : zWC} {o0 : Nat} {p1 : Int32} {p2 : Int32} {s : zSt} (h_o0 : zC o0 = 9) {a : zSt} (hm : m_X9_seekRest o0 p1 p2 s = some a) : zCn w 3 yX9_seekRest cX9_seekRest 7 none [.ref (zb w + o0), .int p1, .int p2] s (zeV a).1 (zeV a).2 :=
  zCn_of (own := RX9) (lv := [some (.ref (zb w + o0)), some (.int p1), some (.int p2), none, none, none, none]) (by decide +kernel) rfl (Nat.le_of_ble_eq_true rfl) rfl (fun x hr => by
    unfold m_X9_seekRest
    refine zj_aload_n dX9_seekRest_0 rfl ?_
    refine zj_cVV0 ml_X9_319 (fun a h => c_X9_seekPull h_o0 h) h_o0 rfl (Nat.le_of_ble_eq_true rfl) (Nat.le_of_ble_eq_true rfl) dX9_seekRest_1 (fun s1 => ?_)
    refine zj_aload_n dX9_seekRest_4 rfl ?_
    refine zj_getT dX9_seekRest_5 fl_X9_20 rfl h_o0 ?_
    refine zj_bipush dX9_seekRest_8 zbi_7 ?_
    refine zj_iald dX9_seekRest_10 (zt_9_12 _ h_o0) ?_
    refine zj_i2l dX9_seekRest_11 ?_
    refine zj_aload_n dX9_seekRest_12 rfl ?_
    refine zj_getT dX9_seekRest_13 fl_X9_20 rfl h_o0 ?_
    refine zj_bipush dX9_seekRest_16 zbi_10 ?_
    refine zj_iald dX9_seekRest_18 (zt_9_12 _ h_o0) ?_
    refine zj_i2l dX9_seekRest_19 ?_
    refine zj_iload_n dX9_seekRest_20 rfl ?_
    refine zj_i2l dX9_seekRest_21 ?_
    refine zj_lmul dX9_seekRest_22 ?_
    refine zj_iload_n dX9_seekRest_23 rfl ?_
    refine zj_i2l dX9_seekRest_24 ?_
    refine zj_lmul dX9_seekRest_25 ?_
    refine zj_ladd dX9_seekRest_26 ?_
    refine zj_aload_n dX9_seekRest_27 rfl ?_
    refine zj_getT dX9_seekRest_28 fl_X9_20 rfl h_o0 ?_
    refine zj_bipush dX9_seekRest_31 zbi_9 ?_
    refine zj_iald dX9_seekRest_33 (zt_9_12 _ h_o0) ?_
    refine zj_i2l dX9_seekRest_34 ?_
    refine zj_iload_n dX9_seekRest_35 rfl ?_
    refine zj_i2l dX9_seekRest_36 ?_
    refine zj_lmul dX9_seekRest_37 ?_
    refine zj_ladd dX9_seekRest_38 ?_
    refine zj_lstore_n (lv' := [some (.ref (zb w + o0)), some (.int p1), some (.int p2), some (.long ((((zI s1 (zT o0 12) (Int32.toNatClampNeg 7)).toInt64) + ((((zI s1 (zT o0 12) (Int32.toNatClampNeg 10)).toInt64) * p1.toInt64) * p1.toInt64)) + (((zI s1 (zT o0 12) (Int32.toNatClampNeg 9)).toInt64) * p1.toInt64))), none, none, none]) dX9_seekRest_39 rfl (by decide) rfl rfl ?_
    refine zj_aload_n dX9_seekRest_40 rfl ?_
    refine zj_getT dX9_seekRest_41 fl_X9_20 rfl h_o0 ?_
    refine zj_bipush dX9_seekRest_44 zbi_8 ?_
    refine zj_iald dX9_seekRest_46 (zt_9_12 _ h_o0) ?_
    refine zj_i2l dX9_seekRest_47 ?_
    refine zj_iload_n dX9_seekRest_48 rfl ?_
    refine zj_i2l dX9_seekRest_49 ?_
    refine zj_lmul dX9_seekRest_50 ?_
    refine zj_lstore (lv' := [some (.ref (zb w + o0)), some (.int p1), some (.int p2), some (.long ((((zI s1 (zT o0 12) (Int32.toNatClampNeg 7)).toInt64) + ((((zI s1 (zT o0 12) (Int32.toNatClampNeg 10)).toInt64) * p1.toInt64) * p1.toInt64)) + (((zI s1 (zT o0 12) (Int32.toNatClampNeg 9)).toInt64) * p1.toInt64))), none, some (.long (((zI s1 (zT o0 12) (Int32.toNatClampNeg 8)).toInt64) * p2.toInt64)), none]) dX9_seekRest_51 (by decide) rfl rfl ?_
    refine zj_aload_n dX9_seekRest_53 rfl ?_
    refine zj_lload_n dX9_seekRest_54 rfl ?_
    refine zj_ldc2 dX9_seekRest_55 kcL_X9_322 ?_
    refine zj_lmul dX9_seekRest_58 ?_
    refine zj_lload dX9_seekRest_59 rfl ?_
    refine zj_ladd dX9_seekRest_61 ?_
    refine zj_aload_n dX9_seekRest_62 rfl ?_
    refine zj_getL dX9_seekRest_63 fl_X9_310 rfl h_o0 ?_
    refine zj_lmul dX9_seekRest_66 ?_
    refine zj_ldc2 dX9_seekRest_67 kcL_X9_322 ?_
    refine zj_iload_n dX9_seekRest_70 rfl ?_
    refine zj_i2l dX9_seekRest_71 ?_
    refine zj_lmul dX9_seekRest_72 ?_
    refine zj_aload_n dX9_seekRest_73 rfl ?_
    refine zj_getL dX9_seekRest_74 fl_X9_307 rfl h_o0 ?_
    refine zj_lmul dX9_seekRest_77 ?_
    refine zj_ladd dX9_seekRest_78 ?_
    refine zj_ldc2 dX9_seekRest_79 kcL_X9_322 ?_
    refine zj_aload_n dX9_seekRest_82 rfl ?_
    refine zj_getL dX9_seekRest_83 fl_X9_310 rfl h_o0 ?_
    refine zj_lmul dX9_seekRest_86 ?_
    refine zj_cVV2 ml_X9_315 (fun a h => c_X9_found h_o0 h) h_o0 rfl (Nat.le_of_ble_eq_true rfl) (Nat.le_of_ble_eq_true rfl) dX9_seekRest_87 (fun s2 => ?_)
    exact zj_vret hr dX9_seekRest_90) hm
def m_X9_rest (o0 : Nat) (p1 : Int32) (p2 : Int32) (p3 : Int32) (s : zSt) : Option (Int64 × zSt) :=
  zcl (m_X9_isSide p1 s) (fun r2 s1 => (if r2 = 0 then
  some ((-1000000000000), s1)
  else
  (if p2 < 0 then
    some ((-1000000000000), s1)
    else
    (if 999 < p2 then
      some ((-1000000000000), s1)
      else
      zcl (m_X9_isPart p3 s1) (fun r4 s3 => (if r4 = 0 then
        some ((-1000000000000), s3)
        else
        zcv (m_X9_seekRest o0 p1 p2 s3) (fun s5 => zcl (m_X9_part o0 p3 s5) (fun r7 s6 => some (r7, s6)))))))))
set_option maxRecDepth 100000 in
theorem c_X9_rest {w : zWC} {o0 : Nat} {p1 : Int32} {p2 : Int32} {p3 : Int32} {s : zSt} (h_o0 : zC o0 = 9) {a : Int64 × zSt} (hm : m_X9_rest o0 p1 p2 p3 s = some a) : zCn w 4 yX9_rest cX9_rest 4 (some .long) [.ref (zb w + o0), .int p1, .int p2, .int p3] s (zeL a).1 (zeL a).2 :=
  zCn_of (own := RX9) (lv := [some (.ref (zb w + o0)), some (.int p1), some (.int p2), some (.int p3)]) (by decide +kernel) rfl (Nat.le_of_ble_eq_true rfl) rfl (fun x hr => by
    unfold m_X9_rest
    refine zj_iload_n dX9_rest_0 rfl ?_
    refine zj_cSI1 ml_X9_324 (fun a h => c_X9_isSide  h) (Nat.le_of_ble_eq_true rfl) (Nat.le_of_ble_eq_true rfl) dX9_rest_1 (fun r2 s1 => ?_)
    refine zj_if_eq (tgt := 25) dX9_rest_4 (by decide) ?_ ?_
    · refine zj_ldc2 dX9_rest_25 kcL_X9_330 ?_
      exact zj_lret hr dX9_rest_28
    · refine zj_iload_n dX9_rest_7 rfl ?_
      refine zj_if_lt (tgt := 25) dX9_rest_8 (by decide) ?_ ?_
      · refine zj_ldc2 dX9_rest_25 kcL_X9_330 ?_
        exact zj_lret hr dX9_rest_28
      · refine zj_iload_n dX9_rest_11 rfl ?_
        refine zj_sipush dX9_rest_12 zsi_999 ?_
        refine zj_icmp_gt (tgt := 25) dX9_rest_15 (by decide) ?_ ?_
        · refine zj_ldc2 dX9_rest_25 kcL_X9_330 ?_
          exact zj_lret hr dX9_rest_28
        · refine zj_iload_n dX9_rest_18 rfl ?_
          refine zj_cSI1 ml_X9_327 (fun a h => c_X9_isPart  h) (Nat.le_of_ble_eq_true rfl) (Nat.le_of_ble_eq_true rfl) dX9_rest_19 (fun r4 s3 => ?_)
          refine zj_if_ne (tgt := 29) dX9_rest_22 (by decide) ?_ ?_
          · refine zj_ldc2 dX9_rest_25 kcL_X9_330 ?_
            exact zj_lret hr dX9_rest_28
          · refine zj_aload_n dX9_rest_29 rfl ?_
            refine zj_iload_n dX9_rest_30 rfl ?_
            refine zj_iload_n dX9_rest_31 rfl ?_
            refine zj_cVV2 ml_X9_332 (fun a h => c_X9_seekRest h_o0 h) h_o0 rfl (Nat.le_of_ble_eq_true rfl) (Nat.le_of_ble_eq_true rfl) dX9_rest_32 (fun s5 => ?_)
            refine zj_aload_n dX9_rest_35 rfl ?_
            refine zj_iload_n dX9_rest_36 rfl ?_
            refine zj_cVL1 ml_X9_336 (fun a h => c_X9_part h_o0 h) h_o0 rfl (Nat.le_of_ble_eq_true rfl) (Nat.le_of_ble_eq_true rfl) dX9_rest_37 (fun r7 s6 => ?_)
            exact zj_lret hr dX9_rest_40) hm
def bd_X9_turning_82 (o0 : Nat) (p1 : Int32) (p2 : Int32) (p3 : Int32) (p4 : Int32) (rec82 : Int64 → Int64 → Int32 → zSt → Option (Int64 × zSt)) (k123 : Int64 → zSt → Option (Int64 × zSt)) (l5 : Int64) (l7 : Int64) (l9 : Int32) (s : zSt) : Option (Int64 × zSt) :=
  (if l9 < p4 then
  (if (5 : Int32) < 0 ∨ zN (zT o0 12) ≤ Int32.toNatClampNeg 5 then none else zcl (m_X9_down (((100 : Int64) * l5) - ((l7 - l5) * ((zI s (zT o0 12) (Int32.toNatClampNeg 5)).toInt64))) 100 s) (fun r7 s6 => rec82 l5 r7 (l9 + 1) s6))
  else
  k123 l7 s)
def lp_X9_turning_82 (o0 : Nat) (p1 : Int32) (p2 : Int32) (p3 : Int32) (p4 : Int32) (k123 : Int64 → zSt → Option (Int64 × zSt)) : Nat → Int64 → Int64 → Int32 → zSt → Option (Int64 × zSt)
  | 0, _, _, _, _ => none
  | n + 1, l5, l7, l9, s => bd_X9_turning_82 o0 p1 p2 p3 p4 (fun l5 l7 l9 s => lp_X9_turning_82 o0 p1 p2 p3 p4 k123 n l5 l7 l9 s) k123 l5 l7 l9 s
set_option maxRecDepth 100000 in
theorem jb_X9_turning_82 {o0 : Nat} {p1 : Int32} {p2 : Int32} {p3 : Int32} {p4 : Int32} {rec82 : Int64 → Int64 → Int32 → zSt → Option (Int64 × zSt)} {k123 : Int64 → zSt → Option (Int64 × zSt)} {l5 : Int64} {l7 : Int64} {l9 : Int32} {s : zSt} {w : zWC} {x : zCX} (hr : zrt x = (some .long))  (h_o0 : zC o0 = 9) (h_rec82 : ∀ (l5 : Int64) (l7 : Int64) (l9 : Int32) (s : zSt), zJ (zQf w x zeL) w x RX9 cX9_turning 10 4 (rec82 l5 l7 l9 s) 82 [some (.ref (zb w + o0)), none, none, none, some (.int p4), some (.long l5), none, some (.long l7), none, some (.int l9)] [] s) (h_k123 : ∀ (l7 : Int64) (s : zSt), zJ (zQf w x zeL) w x RX9 cX9_turning 10 4 (k123 l7 s) 123 [some (.ref (zb w + o0)), none, none, none, none, none, none, some (.long l7), none, none] [] s) : zJ (zQf w x zeL) w x RX9 cX9_turning 10 4 (bd_X9_turning_82 o0 p1 p2 p3 p4 rec82 k123 l5 l7 l9 s) 82 [some (.ref (zb w + o0)), none, none, none, some (.int p4), some (.long l5), none, some (.long l7), none, some (.int l9)] [] s := by
  unfold bd_X9_turning_82
  refine zj_iload dX9_turning_82 rfl ?_
  refine zj_iload dX9_turning_84 rfl ?_
  refine zj_icmp_ge (tgt := 123) dX9_turning_86 (by decide) ?_ ?_
  · refine zj_ldc2 dX9_turning_89 kcL_X9_343 ?_
    refine zj_lload dX9_turning_92 rfl ?_
    refine zj_lmul dX9_turning_94 ?_
    refine zj_lload dX9_turning_95 rfl ?_
    refine zj_lload dX9_turning_97 rfl ?_
    refine zj_lsub dX9_turning_99 ?_
    refine zj_aload_n dX9_turning_100 rfl ?_
    refine zj_getT dX9_turning_101 fl_X9_20 rfl h_o0 ?_
    refine zj_iconst dX9_turning_104 zic_5 ?_
    refine zj_iald dX9_turning_105 (zt_9_12 _ h_o0) ?_
    refine zj_i2l dX9_turning_106 ?_
    refine zj_lmul dX9_turning_107 ?_
    refine zj_lsub dX9_turning_108 ?_
    refine zj_ldc2 dX9_turning_109 kcL_X9_343 ?_
    refine zj_cSL2 ml_X9_340 (fun a h => c_X9_down  h) (Nat.le_of_ble_eq_true rfl) (Nat.le_of_ble_eq_true rfl) dX9_turning_112 (fun r7 s6 => ?_)
    refine zj_lstore (lv' := [some (.ref (zb w + o0)), none, none, none, some (.int p4), some (.long l5), none, some (.long r7), none, some (.int l9)]) dX9_turning_115 (by decide) rfl rfl ?_
    refine zj_iinc (v2 := l9 + 1) (lv' := [some (.ref (zb w + o0)), none, none, none, some (.int p4), some (.long l5), none, some (.long r7), none, some (.int (l9 + 1))]) dX9_turning_117 rfl (by rw [zic_1]) (by decide) rfl rfl ?_
    refine zj_goto (tgt := 82) dX9_turning_120 (by decide) ?_
    exact h_rec82 _ _ _ _
  · refine zj_weak [true, false, false, false, false, false, false, true, false, false] rfl ?_
    exact h_k123 _ _
set_option maxRecDepth 100000 in
theorem jl_X9_turning_82 {o0 : Nat} {p1 : Int32} {p2 : Int32} {p3 : Int32} {p4 : Int32} {k123 : Int64 → zSt → Option (Int64 × zSt)} {w : zWC} {x : zCX} (hr : zrt x = (some .long))  (h_o0 : zC o0 = 9) (h_k123 : ∀ (l7 : Int64) (s : zSt), zJ (zQf w x zeL) w x RX9 cX9_turning 10 4 (k123 l7 s) 123 [some (.ref (zb w + o0)), none, none, none, none, none, none, some (.long l7), none, none] [] s) : ∀ (n : Nat) (l5 : Int64) (l7 : Int64) (l9 : Int32) (s : zSt), zJ (zQf w x zeL) w x RX9 cX9_turning 10 4 (lp_X9_turning_82 o0 p1 p2 p3 p4 k123 n l5 l7 l9 s) 82 [some (.ref (zb w + o0)), none, none, none, some (.int p4), some (.long l5), none, some (.long l7), none, some (.int l9)] [] s := by
  intro n
  induction n with
  | zero => intro l5 l7 l9 s; exact zj_none
  | succ n ih => intro l5 l7 l9 s; exact jb_X9_turning_82 hr h_o0 (fun l5 l7 l9 s => ih l5 l7 l9 s) h_k123
def m_X9_turning (o0 : Nat) (p1 : Int32) (p2 : Int32) (p3 : Int32) (p4 : Int32) (s : zSt) : Option (Int64 × zSt) :=
  zcl (m_X9_isSide p1 s) (fun r2 s1 => (if r2 = 0 then
  some ((-1000000000000), s1)
  else
  (if p2 < 0 then
    some ((-1000000000000), s1)
    else
    (if 999 < p2 then
      some ((-1000000000000), s1)
      else
      (if p3 < (-9999) then
        some ((-1000000000000), s1)
        else
        (if 9999 < p3 then
          some ((-1000000000000), s1)
          else
          (if p4 < 0 then
            some ((-1000000000000), s1)
            else
            (if 19 < p4 then
              some ((-1000000000000), s1)
              else
              zcv (m_X9_seekRest o0 p1 p2 s1) (fun s3 => zcl (m_X9_down ((zL s3 o0 23) * 1000) (zL s3 o0 24) s3) (fun r5 s4 => lp_X9_turning_82 o0 p1 p2 p3 p4 (fun l7_8 s_8 => (if (6 : Int32) < 0 ∨ zN (zT o0 12) ≤ Int32.toNatClampNeg 6 then none else zcl (m_X9_down l7_8 ((1000 : Int64) * ((zI s_8 (zT o0 12) (Int32.toNatClampNeg 6)).toInt64)) s_8) (fun r10 s9 => (if (6 : Int32) < 0 ∨ zN (zT o0 12) ≤ Int32.toNatClampNeg 6 then none else some (r10 * ((zI s9 (zT o0 12) (Int32.toNatClampNeg 6)).toInt64), s9))))) zFuel r5 (p3.toInt64 * 1000) 0 s4))))))))))
set_option maxRecDepth 100000 in
theorem c_X9_turning {w : zWC} {o0 : Nat} {p1 : Int32} {p2 : Int32} {p3 : Int32} {p4 : Int32} {s : zSt} (h_o0 : zC o0 = 9) {a : Int64 × zSt} (hm : m_X9_turning o0 p1 p2 p3 p4 s = some a) : zCn w 4 yX9_turning cX9_turning 10 (some .long) [.ref (zb w + o0), .int p1, .int p2, .int p3, .int p4] s (zeL a).1 (zeL a).2 :=
  zCn_of (own := RX9) (lv := [some (.ref (zb w + o0)), some (.int p1), some (.int p2), some (.int p3), some (.int p4), none, none, none, none, none]) (by decide +kernel) rfl (Nat.le_of_ble_eq_true rfl) rfl (fun x hr => by
    unfold m_X9_turning
    refine zj_iload_n dX9_turning_0 rfl ?_
    refine zj_cSI1 ml_X9_324 (fun a h => c_X9_isSide  h) (Nat.le_of_ble_eq_true rfl) (Nat.le_of_ble_eq_true rfl) dX9_turning_1 (fun r2 s1 => ?_)
    refine zj_if_eq (tgt := 44) dX9_turning_4 (by decide) ?_ ?_
    · refine zj_ldc2 dX9_turning_44 kcL_X9_330 ?_
      exact zj_lret hr dX9_turning_47
    · refine zj_iload_n dX9_turning_7 rfl ?_
      refine zj_if_lt (tgt := 44) dX9_turning_8 (by decide) ?_ ?_
      · refine zj_ldc2 dX9_turning_44 kcL_X9_330 ?_
        exact zj_lret hr dX9_turning_47
      · refine zj_iload_n dX9_turning_11 rfl ?_
        refine zj_sipush dX9_turning_12 zsi_999 ?_
        refine zj_icmp_gt (tgt := 44) dX9_turning_15 (by decide) ?_ ?_
        · refine zj_ldc2 dX9_turning_44 kcL_X9_330 ?_
          exact zj_lret hr dX9_turning_47
        · refine zj_iload_n dX9_turning_18 rfl ?_
          refine zj_sipush dX9_turning_19 zsi_m9999 ?_
          refine zj_icmp_lt (tgt := 44) dX9_turning_22 (by decide) ?_ ?_
          · refine zj_ldc2 dX9_turning_44 kcL_X9_330 ?_
            exact zj_lret hr dX9_turning_47
          · refine zj_iload_n dX9_turning_25 rfl ?_
            refine zj_sipush dX9_turning_26 zsi_9999 ?_
            refine zj_icmp_gt (tgt := 44) dX9_turning_29 (by decide) ?_ ?_
            · refine zj_ldc2 dX9_turning_44 kcL_X9_330 ?_
              exact zj_lret hr dX9_turning_47
            · refine zj_iload dX9_turning_32 rfl ?_
              refine zj_if_lt (tgt := 44) dX9_turning_34 (by decide) ?_ ?_
              · refine zj_ldc2 dX9_turning_44 kcL_X9_330 ?_
                exact zj_lret hr dX9_turning_47
              · refine zj_iload dX9_turning_37 rfl ?_
                refine zj_bipush dX9_turning_39 zbi_19 ?_
                refine zj_icmp_le (tgt := 48) dX9_turning_41 (by decide) ?_ ?_
                · refine zj_ldc2 dX9_turning_44 kcL_X9_330 ?_
                  exact zj_lret hr dX9_turning_47
                · refine zj_aload_n dX9_turning_48 rfl ?_
                  refine zj_iload_n dX9_turning_49 rfl ?_
                  refine zj_iload_n dX9_turning_50 rfl ?_
                  refine zj_cVV2 ml_X9_332 (fun a h => c_X9_seekRest h_o0 h) h_o0 rfl (Nat.le_of_ble_eq_true rfl) (Nat.le_of_ble_eq_true rfl) dX9_turning_51 (fun s3 => ?_)
                  refine zj_aload_n dX9_turning_54 rfl ?_
                  refine zj_getL dX9_turning_55 fl_X9_307 rfl h_o0 ?_
                  refine zj_ldc2 dX9_turning_58 kcL_X9_313 ?_
                  refine zj_lmul dX9_turning_61 ?_
                  refine zj_aload_n dX9_turning_62 rfl ?_
                  refine zj_getL dX9_turning_63 fl_X9_310 rfl h_o0 ?_
                  refine zj_cSL2 ml_X9_340 (fun a h => c_X9_down  h) (Nat.le_of_ble_eq_true rfl) (Nat.le_of_ble_eq_true rfl) dX9_turning_66 (fun r5 s4 => ?_)
                  refine zj_lstore (lv' := [some (.ref (zb w + o0)), some (.int p1), some (.int p2), some (.int p3), some (.int p4), some (.long r5), none, none, none, none]) dX9_turning_69 (by decide) rfl rfl ?_
                  refine zj_iload_n dX9_turning_71 rfl ?_
                  refine zj_i2l dX9_turning_72 ?_
                  refine zj_ldc2 dX9_turning_73 kcL_X9_313 ?_
                  refine zj_lmul dX9_turning_76 ?_
                  refine zj_lstore (lv' := [some (.ref (zb w + o0)), some (.int p1), some (.int p2), some (.int p3), some (.int p4), some (.long r5), none, some (.long (p3.toInt64 * 1000)), none, none]) dX9_turning_77 (by decide) rfl rfl ?_
                  refine zj_iconst dX9_turning_79 zic_0 ?_
                  refine zj_istore (lv' := [some (.ref (zb w + o0)), some (.int p1), some (.int p2), some (.int p3), some (.int p4), some (.long r5), none, some (.long (p3.toInt64 * 1000)), none, some (.int 0)]) dX9_turning_80 (by decide) rfl rfl ?_
                  refine zj_weak [true, false, false, false, true, true, false, true, false, true] rfl ?_
                  refine jl_X9_turning_82 hr h_o0 (fun l7_8 s_8 => ?_) zFuel _ _ _ _
                  refine zj_lload dX9_turning_123 rfl ?_
                  refine zj_ldc2 dX9_turning_125 kcL_X9_313 ?_
                  refine zj_aload_n dX9_turning_128 rfl ?_
                  refine zj_getT dX9_turning_129 fl_X9_20 rfl h_o0 ?_
                  refine zj_bipush dX9_turning_132 zbi_6 ?_
                  refine zj_iald dX9_turning_134 (zt_9_12 _ h_o0) ?_
                  refine zj_i2l dX9_turning_135 ?_
                  refine zj_lmul dX9_turning_136 ?_
                  refine zj_cSL2 ml_X9_340 (fun a h => c_X9_down  h) (Nat.le_of_ble_eq_true rfl) (Nat.le_of_ble_eq_true rfl) dX9_turning_137 (fun r10 s9 => ?_)
                  refine zj_aload_n dX9_turning_140 rfl ?_
                  refine zj_getT dX9_turning_141 fl_X9_20 rfl h_o0 ?_
                  refine zj_bipush dX9_turning_144 zbi_6 ?_
                  refine zj_iald dX9_turning_146 (zt_9_12 _ h_o0) ?_
                  refine zj_i2l dX9_turning_147 ?_
                  refine zj_lmul dX9_turning_148 ?_
                  exact zj_lret hr dX9_turning_149) hm
