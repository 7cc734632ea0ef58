def m_X9_readHouse_66 (o0 : Nat) (rec30 : Int32 → Int32 → Int32 → zSt → Option (zSt)) (k73 : Int32 → Int32 → zSt → Option (zSt)) (l1 : Int32) (l3 : Int32) (t0 : Int32) (s : zSt) : Option (zSt) :=
  rec30 l1 t0 (l3 + 1) s
set_option maxRecDepth 100000 in
theorem j_X9_readHouse_66 {o0 : Nat} {rec30 : Int32 → Int32 → Int32 → zSt → Option (zSt)} {k73 : Int32 → Int32 → zSt → Option (zSt)} {l1 : Int32} {l3 : Int32} {t0 : Int32} {s : zSt} {w : zWC} {x : zCX} (hr : zrt x = none)  (h_o0 : zC o0 = 9) (h_rec30 : ∀ (l1 : Int32) (l2 : Int32) (l3 : Int32) (s : zSt), zJ (zQf w x zeV) w x RX9 cX9_readHouse 11 3 (rec30 l1 l2 l3 s) 30 [some (.ref (zb w + o0)), some (.int l1), some (.int l2), some (.int l3), none, none, none, none, none, none, none] [] s) (h_k73 : ∀ (l1 : Int32) (l2 : Int32) (s : zSt), zJ (zQf w x zeV) w x RX9 cX9_readHouse 11 3 (k73 l1 l2 s) 73 [some (.ref (zb w + o0)), some (.int l1), some (.int l2), none, none, none, none, none, none, none, none] [] s) : zJ (zQf w x zeV) w x RX9 cX9_readHouse 11 3 (m_X9_readHouse_66 o0 rec30 k73 l1 l3 t0 s) 66 [some (.ref (zb w + o0)), some (.int l1), none, some (.int l3), none, none, none, none, none, none, none] [.int t0] s := by
  unfold m_X9_readHouse_66
  refine zj_istore_n (lv' := [some (.ref (zb w + o0)), some (.int l1), some (.int t0), some (.int l3), none, none, none, none, none, none, none]) dX9_readHouse_66 rfl (by decide) rfl rfl ?_
  refine zj_iinc (v2 := l3 + 1) (lv' := [some (.ref (zb w + o0)), some (.int l1), some (.int t0), some (.int (l3 + 1)), none, none, none, none, none, none, none]) dX9_readHouse_67 rfl (by rw [zic_1]) (by decide) rfl rfl ?_
  refine zj_goto (tgt := 30) dX9_readHouse_70 (by decide) ?_
  exact h_rec30 _ _ _ _
def m_X9_readHouse_61 (o0 : Nat) (rec30 : Int32 → Int32 → Int32 → zSt → Option (zSt)) (k73 : Int32 → Int32 → zSt → Option (zSt)) (l1 : Int32) (l3 : Int32) (s : zSt) : Option (zSt) :=
  m_X9_readHouse_66 o0 rec30 k73 l1 l3 1 s
set_option maxRecDepth 100000 in
theorem j_X9_readHouse_61 {o0 : Nat} {rec30 : Int32 → Int32 → Int32 → zSt → Option (zSt)} {k73 : Int32 → Int32 → zSt → Option (zSt)} {l1 : Int32} {l3 : Int32} {s : zSt} {w : zWC} {x : zCX} (hr : zrt x = none)  (h_o0 : zC o0 = 9) (h_rec30 : ∀ (l1 : Int32) (l2 : Int32) (l3 : Int32) (s : zSt), zJ (zQf w x zeV) w x RX9 cX9_readHouse 11 3 (rec30 l1 l2 l3 s) 30 [some (.ref (zb w + o0)), some (.int l1), some (.int l2), some (.int l3), none, none, none, none, none, none, none] [] s) (h_k73 : ∀ (l1 : Int32) (l2 : Int32) (s : zSt), zJ (zQf w x zeV) w x RX9 cX9_readHouse 11 3 (k73 l1 l2 s) 73 [some (.ref (zb w + o0)), some (.int l1), some (.int l2), none, none, none, none, none, none, none, none] [] s) : zJ (zQf w x zeV) w x RX9 cX9_readHouse 11 3 (m_X9_readHouse_61 o0 rec30 k73 l1 l3 s) 61 [some (.ref (zb w + o0)), some (.int l1), none, some (.int l3), none, none, none, none, none, none, none] [] s := by
  unfold m_X9_readHouse_61
  refine zj_iconst dX9_readHouse_61 zic_1 ?_
  refine zj_goto (tgt := 66) dX9_readHouse_62 (by decide) ?_
  exact j_X9_readHouse_66 hr h_o0 h_rec30 h_k73
def m_X9_readHouse_65 (o0 : Nat) (rec30 : Int32 → Int32 → Int32 → zSt → Option (zSt)) (k73 : Int32 → Int32 → zSt → Option (zSt)) (l1 : Int32) (l3 : Int32) (s : zSt) : Option (zSt) :=
  m_X9_readHouse_66 o0 rec30 k73 l1 l3 0 s
set_option maxRecDepth 100000 in
theorem j_X9_readHouse_65 {o0 : Nat} {rec30 : Int32 → Int32 → Int32 → zSt → Option (zSt)} {k73 : Int32 → Int32 → zSt → Option (zSt)} {l1 : Int32} {l3 : Int32} {s : zSt} {w : zWC} {x : zCX} (hr : zrt x = none)  (h_o0 : zC o0 = 9) (h_rec30 : ∀ (l1 : Int32) (l2 : Int32) (l3 : Int32) (s : zSt), zJ (zQf w x zeV) w x RX9 cX9_readHouse 11 3 (rec30 l1 l2 l3 s) 30 [some (.ref (zb w + o0)), some (.int l1), some (.int l2), some (.int l3), none, none, none, none, none, none, none] [] s) (h_k73 : ∀ (l1 : Int32) (l2 : Int32) (s : zSt), zJ (zQf w x zeV) w x RX9 cX9_readHouse 11 3 (k73 l1 l2 s) 73 [some (.ref (zb w + o0)), some (.int l1), some (.int l2), none, none, none, none, none, none, none, none] [] s) : zJ (zQf w x zeV) w x RX9 cX9_readHouse 11 3 (m_X9_readHouse_65 o0 rec30 k73 l1 l3 s) 65 [some (.ref (zb w + o0)), some (.int l1), none, some (.int l3), none, none, none, none, none, none, none] [] s := by
  unfold m_X9_readHouse_65
  refine zj_iconst dX9_readHouse_65 zic_0 ?_
  exact j_X9_readHouse_66 hr h_o0 h_rec30 h_k73
def bd_X9_readHouse_30 (o0 : Nat) (rec30 : Int32 → Int32 → Int32 → zSt → Option (zSt)) (k73 : Int32 → Int32 → zSt → Option (zSt)) (l1 : Int32) (l2 : Int32) (l3 : Int32) (s : zSt) : Option (zSt) :=
  (if l3 < l1 then
  (if l2 = 0 then
    (if zI s o0 6 = 1 then
      (if l3 < 0 ∨ zN (zT o0 39) ≤ Int32.toNatClampNeg l3 then none else (if zL s (zT o0 39) (Int32.toNatClampNeg l3) = zL s o0 9 then
        m_X9_readHouse_61 o0 rec30 k73 l1 l3 s
        else
        m_X9_readHouse_65 o0 rec30 k73 l1 l3 s))
      else
      m_X9_readHouse_65 o0 rec30 k73 l1 l3 s)
    else
    m_X9_readHouse_61 o0 rec30 k73 l1 l3 s)
  else
  k73 l1 l2 s)
def lp_X9_readHouse_30 (o0 : Nat) (k73 : Int32 → Int32 → zSt → Option (zSt)) : Nat → Int32 → Int32 → Int32 → zSt → Option (zSt)
  | 0, _, _, _, _ => none
  | n + 1, l1, l2, l3, s => bd_X9_readHouse_30 o0 (fun l1 l2 l3 s => lp_X9_readHouse_30 o0 k73 n l1 l2 l3 s) k73 l1 l2 l3 s
set_option maxRecDepth 100000 in
theorem jb_X9_readHouse_30 {o0 : Nat} {rec30 : Int32 → Int32 → Int32 → zSt → Option (zSt)} {k73 : Int32 → Int32 → zSt → Option (zSt)} {l1 : Int32} {l2 : Int32} {l3 : Int32} {s : zSt} {w : zWC} {x : zCX} (hr : zrt x = none)  (h_o0 : zC o0 = 9) (h_rec30 : ∀ (l1 : Int32) (l2 : Int32) (l3 : Int32) (s : zSt), zJ (zQf w x zeV) w x RX9 cX9_readHouse 11 3 (rec30 l1 l2 l3 s) 30 [some (.ref (zb w + o0)), some (.int l1), some (.int l2), some (.int l3), none, none, none, none, none, none, none] [] s) (h_k73 : ∀ (l1 : Int32) (l2 : Int32) (s : zSt), zJ (zQf w x zeV) w x RX9 cX9_readHouse 11 3 (k73 l1 l2 s) 73 [some (.ref (zb w + o0)), some (.int l1), some (.int l2), none, none, none, none, none, none, none, none] [] s) : zJ (zQf w x zeV) w x RX9 cX9_readHouse 11 3 (bd_X9_readHouse_30 o0 rec30 k73 l1 l2 l3 s) 30 [some (.ref (zb w + o0)), some (.int l1), some (.int l2), some (.int l3), none, none, none, none, none, none, none] [] s := by
  unfold bd_X9_readHouse_30
  refine zj_iload_n dX9_readHouse_30 rfl ?_
  refine zj_iload_n dX9_readHouse_31 rfl ?_
  refine zj_icmp_ge (tgt := 73) dX9_readHouse_32 (by decide) ?_ ?_
  · refine zj_iload_n dX9_readHouse_35 rfl ?_
    refine zj_if_ne (tgt := 61) dX9_readHouse_36 (by decide) ?_ ?_
    · refine zj_aload_n dX9_readHouse_39 rfl ?_
      refine zj_getI dX9_readHouse_40 fl_X9_179 rfl h_o0 ?_
      refine zj_iconst dX9_readHouse_43 zic_1 ?_
      refine zj_icmp_ne (tgt := 65) dX9_readHouse_44 (by decide) ?_ ?_
      · refine zj_aload_n dX9_readHouse_47 rfl ?_
        refine zj_getT dX9_readHouse_48 fl_X9_73 rfl h_o0 ?_
        refine zj_iload_n dX9_readHouse_51 rfl ?_
        refine zj_lald dX9_readHouse_52 (zt_9_39 _ h_o0) ?_
        refine zj_aload_n dX9_readHouse_53 rfl ?_
        refine zj_getL dX9_readHouse_54 fl_X9_172 rfl h_o0 ?_
        refine zj_lcmp_ne (tgt := 65) dX9_readHouse_57 dX9_readHouse_58 (by decide) ?_ ?_
        · refine zj_weak [true, true, false, true, false, false, false, false, false, false, false] rfl ?_
          exact j_X9_readHouse_61 hr h_o0 h_rec30 h_k73
        · refine zj_weak [true, true, false, true, false, false, false, false, false, false, false] rfl ?_
          exact j_X9_readHouse_65 hr h_o0 h_rec30 h_k73
      · refine zj_weak [true, true, false, true, false, false, false, false, false, false, false] rfl ?_
        exact j_X9_readHouse_65 hr h_o0 h_rec30 h_k73
    · refine zj_weak [true, true, false, true, false, false, false, false, false, false, false] rfl ?_
      exact j_X9_readHouse_61 hr h_o0 h_rec30 h_k73
  · refine zj_weak [true, true, true, false, false, false, false, false, false, false, false] rfl ?_
    exact h_k73 _ _ _
set_option maxRecDepth 100000 in
theorem jl_X9_readHouse_30 {o0 : Nat} {k73 : Int32 → Int32 → zSt → Option (zSt)} {w : zWC} {x : zCX} (hr : zrt x = none)  (h_o0 : zC o0 = 9) (h_k73 : ∀ (l1 : Int32) (l2 : Int32) (s : zSt), zJ (zQf w x zeV) w x RX9 cX9_readHouse 11 3 (k73 l1 l2 s) 73 [some (.ref (zb w + o0)), some (.int l1), some (.int l2), none, none, none, none, none, none, none, none] [] s) : ∀ (n : Nat) (l1 : Int32) (l2 : Int32) (l3 : Int32) (s : zSt), zJ (zQf w x zeV) w x RX9 cX9_readHouse 11 3 (lp_X9_readHouse_30 o0 k73 n l1 l2 l3 s) 30 [some (.ref (zb w + o0)), some (.int l1), some (.int l2), some (.int l3), none, none, none, none, none, none, none] [] s := by
  intro n
  induction n with
  | zero => intro l1 l2 l3 s; exact zj_none
  | succ n ih => intro l1 l2 l3 s; exact jb_X9_readHouse_30 hr h_o0 (fun l1 l2 l3 s => ih l1 l2 l3 s) h_k73
def m_X9_readHouse_162 (o0 : Nat) (l1 : Int32) (l3 : Int64) (l5 : Int32) (l6 : Int32) (l7 : Int64) (l9 : Int64) (s : zSt) : Option (zSt) :=
  (if 0 < zI s o0 2 then
  some s
  else
  zcv (m_X9_token o0 s) (fun s18 => (if l1 < 0 ∨ zN (zT o0 39) ≤ Int32.toNatClampNeg l1 then none else zlt (zsL s18 (zT o0 39) (Int32.toNatClampNeg l1) l3) (fun s19 => (if l1 < 0 ∨ zN (zT o0 44) ≤ Int32.toNatClampNeg l1 then none else zlt (zsI s19 (zT o0 44) (Int32.toNatClampNeg l1) l5) (fun s20 => (if l1 < 0 ∨ zN (zT o0 45) ≤ Int32.toNatClampNeg l1 then none else zlt (zsI s20 (zT o0 45) (Int32.toNatClampNeg l1) l6) (fun s21 => (if l1 < 0 ∨ zN (zT o0 40) ≤ Int32.toNatClampNeg l1 then none else zlt (zsL s21 (zT o0 40) (Int32.toNatClampNeg l1) l7) (fun s22 => (if l1 < 0 ∨ zN (zT o0 41) ≤ Int32.toNatClampNeg l1 then none else zlt (zsL s22 (zT o0 41) (Int32.toNatClampNeg l1) l9) (fun s23 => zlt (zsI s23 o0 48 ((zI s23 o0 48) + 1)) (fun s24 => some s24)))))))))))))
set_option maxRecDepth 100000 in
theorem j_X9_readHouse_162 {o0 : Nat} {l1 : Int32} {l3 : Int64} {l5 : Int32} {l6 : Int32} {l7 : Int64} {l9 : Int64} {s : zSt} {w : zWC} {x : zCX} (hr : zrt x = none)  (h_o0 : zC o0 = 9) : zJ (zQf w x zeV) w x RX9 cX9_readHouse 11 3 (m_X9_readHouse_162 o0 l1 l3 l5 l6 l7 l9 s) 162 [some (.ref (zb w + o0)), some (.int l1), none, some (.long l3), none, some (.int l5), some (.int l6), some (.long l7), none, some (.long l9), none] [] s := by
  unfold m_X9_readHouse_162
  refine zj_aload_n dX9_readHouse_162 rfl ?_
  refine zj_getI dX9_readHouse_163 fl_X9_192 rfl h_o0 ?_
  refine zj_if_le (tgt := 170) dX9_readHouse_166 (by decide) ?_ ?_
  · exact zj_vret hr dX9_readHouse_169
  · refine zj_aload_n dX9_readHouse_170 rfl ?_
    refine zj_cVV0 ml_X9_195 (fun a h => c_X9_token h_o0 h) h_o0 rfl (Nat.le_of_ble_eq_true rfl) (Nat.le_of_ble_eq_true rfl) dX9_readHouse_171 (fun s18 => ?_)
    refine zj_aload_n dX9_readHouse_174 rfl ?_
    refine zj_getT dX9_readHouse_175 fl_X9_73 rfl h_o0 ?_
    refine zj_iload_n dX9_readHouse_178 rfl ?_
    refine zj_lload_n dX9_readHouse_179 rfl ?_
    refine zj_last dX9_readHouse_180 (zt_9_39 _ h_o0) (fun s19 => ?_)
    refine zj_aload_n dX9_readHouse_181 rfl ?_
    refine zj_getT dX9_readHouse_182 fl_X9_88 rfl h_o0 ?_
    refine zj_iload_n dX9_readHouse_185 rfl ?_
    refine zj_iload dX9_readHouse_186 rfl ?_
    refine zj_iast dX9_readHouse_188 (zt_9_44 _ h_o0) (fun s20 => ?_)
    refine zj_aload_n dX9_readHouse_189 rfl ?_
    refine zj_getT dX9_readHouse_190 fl_X9_91 rfl h_o0 ?_
    refine zj_iload_n dX9_readHouse_193 rfl ?_
    refine zj_iload dX9_readHouse_194 rfl ?_
    refine zj_iast dX9_readHouse_196 (zt_9_45 _ h_o0) (fun s21 => ?_)
    refine zj_aload_n dX9_readHouse_197 rfl ?_
    refine zj_getT dX9_readHouse_198 fl_X9_76 rfl h_o0 ?_
    refine zj_iload_n dX9_readHouse_201 rfl ?_
    refine zj_lload dX9_readHouse_202 rfl ?_
    refine zj_last dX9_readHouse_204 (zt_9_40 _ h_o0) (fun s22 => ?_)
    refine zj_aload_n dX9_readHouse_205 rfl ?_
    refine zj_getT dX9_readHouse_206 fl_X9_79 rfl h_o0 ?_
    refine zj_iload_n dX9_readHouse_209 rfl ?_
    refine zj_lload dX9_readHouse_210 rfl ?_
    refine zj_last dX9_readHouse_212 (zt_9_41 _ h_o0) (fun s23 => ?_)
    refine zj_aload_n dX9_readHouse_213 rfl ?_
    refine zj_dup dX9_readHouse_214 rfl ?_
    refine zj_getI dX9_readHouse_215 fl_X9_399 rfl h_o0 ?_
    refine zj_iconst dX9_readHouse_218 zic_1 ?_
    refine zj_iadd dX9_readHouse_219 ?_
    refine zj_putI dX9_readHouse_220 fl_X9_399 rfl h_o0 pd_9_48 rfl rfl (fun s24 => ?_)
    exact zj_vret hr dX9_readHouse_223
def m_X9_readHouse_14 (o0 : Nat) (s : zSt) : Option (zSt) :=
  zcv (m_X9_want o0 448546567013 s) (fun s2 => lp_X9_readHouse_30 o0 (fun l1_3 l2_3 s_3 => zcl (m_X9_named o0 l2_3 s_3) (fun r5 s4 => zcv (m_X9_want o0 1935767923 s4) (fun s6 => zcl (m_X9_toldNumber o0 0 9999 s6) (fun r8 s7 => zcv (m_X9_want o0 1936744814 s7) (fun s9 => zcl (m_X9_toldNumber o0 0 999 s9) (fun r11 s10 => zcv (m_X9_want o0 2003399269 s10) (fun s12 => zcl (m_X9_named o0 0 s12) (fun r14 s13 => zcv (m_X9_want o0 109287261888882 s13) (fun s15 => zcl (m_X9_named o0 0 s15) (fun r17 s16 => (if zI s16 o0 2 = 0 then
  (if zI s16 o0 6 = 59 then
    m_X9_readHouse_162 o0 l1_3 r5 r8 r11 r14 r17 s16
    else
    zcv (m_X9_wrong o0 2 s16) (fun s25 => m_X9_readHouse_162 o0 l1_3 r5 r8 r11 r14 r17 s25))
  else
  m_X9_readHouse_162 o0 l1_3 r5 r8 r11 r14 r17 s16))))))))))) zFuel (zI s2 o0 48) 0 0 s2)
set_option maxRecDepth 100000 in
theorem j_X9_readHouse_14 {o0 : Nat} {s : zSt} {w : zWC} {x : zCX} (hr : zrt x = none)  (h_o0 : zC o0 = 9) : zJ (zQf w x zeV) w x RX9 cX9_readHouse 11 3 (m_X9_readHouse_14 o0 s) 14 [some (.ref (zb w + o0)), none, none, none, none, none, none, none, none, none, none] [] s := by
  unfold m_X9_readHouse_14
  refine zj_aload_n dX9_readHouse_14 rfl ?_
  refine zj_ldc2 dX9_readHouse_15 kcL_X9_226 ?_
  refine zj_cVV1 ml_X9_262 (fun a h => c_X9_want h_o0 h) h_o0 rfl (Nat.le_of_ble_eq_true rfl) (Nat.le_of_ble_eq_true rfl) dX9_readHouse_18 (fun s2 => ?_)
  refine zj_aload_n dX9_readHouse_21 rfl ?_
  refine zj_getI dX9_readHouse_22 fl_X9_399 rfl h_o0 ?_
  refine zj_istore_n (lv' := [some (.ref (zb w + o0)), some (.int (zI s2 o0 48)), none, none, none, none, none, none, none, none, none]) dX9_readHouse_25 rfl (by decide) rfl rfl ?_
  refine zj_iconst dX9_readHouse_26 zic_0 ?_
  refine zj_istore_n (lv' := [some (.ref (zb w + o0)), some (.int (zI s2 o0 48)), some (.int 0), none, none, none, none, none, none, none, none]) dX9_readHouse_27 rfl (by decide) rfl rfl ?_
  refine zj_iconst dX9_readHouse_28 zic_0 ?_
  refine zj_istore_n (lv' := [some (.ref (zb w + o0)), some (.int (zI s2 o0 48)), some (.int 0), some (.int 0), none, none, none, none, none, none, none]) dX9_readHouse_29 rfl (by decide) rfl rfl ?_
  refine jl_X9_readHouse_30 hr h_o0 (fun l1_3 l2_3 s_3 => ?_) zFuel _ _ _ _
  refine zj_aload_n dX9_readHouse_73 rfl ?_
  refine zj_iload_n dX9_readHouse_74 rfl ?_
  refine zj_cVL1 ml_X9_270 (fun a h => c_X9_named h_o0 h) h_o0 rfl (Nat.le_of_ble_eq_true rfl) (Nat.le_of_ble_eq_true rfl) dX9_readHouse_75 (fun r5 s4 => ?_)
  refine zj_lstore_n (lv' := [some (.ref (zb w + o0)), some (.int l1_3), some (.int l2_3), some (.long r5), none, none, none, none, none, none, none]) dX9_readHouse_78 rfl (by decide) rfl rfl ?_
  refine zj_aload_n dX9_readHouse_79 rfl ?_
  refine zj_ldc2 dX9_readHouse_80 kcL_X9_228 ?_
  refine zj_cVV1 ml_X9_262 (fun a h => c_X9_want h_o0 h) h_o0 rfl (Nat.le_of_ble_eq_true rfl) (Nat.le_of_ble_eq_true rfl) dX9_readHouse_83 (fun s6 => ?_)
  refine zj_aload_n dX9_readHouse_86 rfl ?_
  refine zj_iconst dX9_readHouse_87 zic_0 ?_
  refine zj_sipush dX9_readHouse_88 zsi_9999 ?_
  refine zj_cVI2 ml_X9_259 (fun a h => c_X9_toldNumber h_o0 h) h_o0 rfl (Nat.le_of_ble_eq_true rfl) (Nat.le_of_ble_eq_true rfl) dX9_readHouse_91 (fun r8 s7 => ?_)
  refine zj_istore (lv' := [some (.ref (zb w + o0)), some (.int l1_3), some (.int l2_3), some (.long r5), none, some (.int r8), none, none, none, none, none]) dX9_readHouse_94 (by decide) rfl rfl ?_
  refine zj_aload_n dX9_readHouse_96 rfl ?_
  refine zj_ldc2 dX9_readHouse_97 kcL_X9_230 ?_
  refine zj_cVV1 ml_X9_262 (fun a h => c_X9_want h_o0 h) h_o0 rfl (Nat.le_of_ble_eq_true rfl) (Nat.le_of_ble_eq_true rfl) dX9_readHouse_100 (fun s9 => ?_)
  refine zj_aload_n dX9_readHouse_103 rfl ?_
  refine zj_iconst dX9_readHouse_104 zic_0 ?_
  refine zj_sipush dX9_readHouse_105 zsi_999 ?_
  refine zj_cVI2 ml_X9_259 (fun a h => c_X9_toldNumber h_o0 h) h_o0 rfl (Nat.le_of_ble_eq_true rfl) (Nat.le_of_ble_eq_true rfl) dX9_readHouse_108 (fun r11 s10 => ?_)
  refine zj_istore (lv' := [some (.ref (zb w + o0)), some (.int l1_3), some (.int l2_3), some (.long r5), none, some (.int r8), some (.int r11), none, none, none, none]) dX9_readHouse_111 (by decide) rfl rfl ?_
  refine zj_aload_n dX9_readHouse_113 rfl ?_
  refine zj_ldc2 dX9_readHouse_114 kcL_X9_206 ?_
  refine zj_cVV1 ml_X9_262 (fun a h => c_X9_want h_o0 h) h_o0 rfl (Nat.le_of_ble_eq_true rfl) (Nat.le_of_ble_eq_true rfl) dX9_readHouse_117 (fun s12 => ?_)
  refine zj_aload_n dX9_readHouse_120 rfl ?_
  refine zj_iconst dX9_readHouse_121 zic_0 ?_
  refine zj_cVL1 ml_X9_270 (fun a h => c_X9_named h_o0 h) h_o0 rfl (Nat.le_of_ble_eq_true rfl) (Nat.le_of_ble_eq_true rfl) dX9_readHouse_122 (fun r14 s13 => ?_)
  refine zj_lstore (lv' := [some (.ref (zb w + o0)), some (.int l1_3), some (.int l2_3), some (.long r5), none, some (.int r8), some (.int r11), some (.long r14), none, none, none]) dX9_readHouse_125 (by decide) rfl rfl ?_
  refine zj_aload_n dX9_readHouse_127 rfl ?_
  refine zj_ldc2 dX9_readHouse_128 kcL_X9_232 ?_
  refine zj_cVV1 ml_X9_262 (fun a h => c_X9_want h_o0 h) h_o0 rfl (Nat.le_of_ble_eq_true rfl) (Nat.le_of_ble_eq_true rfl) dX9_readHouse_131 (fun s15 => ?_)
  refine zj_aload_n dX9_readHouse_134 rfl ?_
  refine zj_iconst dX9_readHouse_135 zic_0 ?_
  refine zj_cVL1 ml_X9_270 (fun a h => c_X9_named h_o0 h) h_o0 rfl (Nat.le_of_ble_eq_true rfl) (Nat.le_of_ble_eq_true rfl) dX9_readHouse_136 (fun r17 s16 => ?_)
  refine zj_lstore (lv' := [some (.ref (zb w + o0)), some (.int l1_3), some (.int l2_3), some (.long r5), none, some (.int r8), some (.int r11), some (.long r14), none, some (.long r17), none]) dX9_readHouse_139 (by decide) rfl rfl ?_
  refine zj_aload_n dX9_readHouse_141 rfl ?_
  refine zj_getI dX9_readHouse_142 fl_X9_192 rfl h_o0 ?_
  refine zj_if_ne (tgt := 162) dX9_readHouse_145 (by decide) ?_ ?_
  · refine zj_aload_n dX9_readHouse_148 rfl ?_
    refine zj_getI dX9_readHouse_149 fl_X9_179 rfl h_o0 ?_
    refine zj_bipush dX9_readHouse_152 zbi_59 ?_
    refine zj_icmp_eq (tgt := 162) dX9_readHouse_154 (by decide) ?_ ?_
    · refine zj_weak [true, true, false, true, false, true, true, true, false, true, false] rfl ?_
      exact j_X9_readHouse_162 hr h_o0
    · refine zj_aload_n dX9_readHouse_157 rfl ?_
      refine zj_iconst dX9_readHouse_158 zic_2 ?_
      refine zj_cVV1 ml_X9_242 (fun a h => c_X9_wrong h_o0 h) h_o0 rfl (Nat.le_of_ble_eq_true rfl) (Nat.le_of_ble_eq_true rfl) dX9_readHouse_159 (fun s25 => ?_)
      refine zj_weak [true, true, false, true, false, true, true, true, false, true, false] rfl ?_
      exact j_X9_readHouse_162 hr h_o0
  · refine zj_weak [true, true, false, true, false, true, true, true, false, true, false] rfl ?_
    exact j_X9_readHouse_162 hr h_o0
def m_X9_readHouse (o0 : Nat) (s : zSt) : Option (zSt) :=
  (if zI s o0 48 = 12 then
  zcv (m_X9_wrong o0 2 s) (fun s1 => m_X9_readHouse_14 o0 s1)
  else
  m_X9_readHouse_14 o0 s)
set_option maxRecDepth 100000 in
theorem c_X9_readHouse {w : zWC} {o0 : Nat} {s : zSt} (h_o0 : zC o0 = 9) {a : zSt} (hm : m_X9_readHouse o0 s = some a) : zCn w 3 yX9_readHouse cX9_readHouse 11 none [.ref (zb w + o0)] s (zeV a).1 (zeV a).2 :=
  zCn_of (own := RX9) (lv := [some (.ref (zb w + o0)), none, none, none, none, none, none, none, none, none, none]) (by decide +kernel) rfl (Nat.le_of_ble_eq_true rfl) rfl (fun x hr => by
    unfold m_X9_readHouse
    refine zj_aload_n dX9_readHouse_0 rfl ?_
    refine zj_getI dX9_readHouse_1 fl_X9_399 rfl h_o0 ?_
    refine zj_bipush dX9_readHouse_4 zbi_12 ?_
    refine zj_icmp_ne (tgt := 14) dX9_readHouse_6 (by decide) ?_ ?_
    · refine zj_aload_n dX9_readHouse_9 rfl ?_
      refine zj_iconst dX9_readHouse_10 zic_2 ?_
      refine zj_cVV1 ml_X9_242 (fun a h => c_X9_wrong h_o0 h) h_o0 rfl (Nat.le_of_ble_eq_true rfl) (Nat.le_of_ble_eq_true rfl) dX9_readHouse_11 (fun s1 => ?_)
      exact j_X9_readHouse_14 hr h_o0
    · exact j_X9_readHouse_14 hr h_o0) hm
def bd_X9_houses_10 (o0 : Nat) (rec10 : zSt → Option (Int32 × zSt)) (k31 : zSt → Option (Int32 × zSt)) (s : zSt) : Option (Int32 × zSt) :=
  (if zI s o0 2 = 0 then
  (if zI s o0 6 = 0 then
    k31  s
    else
    zcv (m_X9_readHouse o0 s) (fun s3 => rec10  s3))
  else
  k31  s)
def lp_X9_houses_10 (o0 : Nat) (k31 : zSt → Option (Int32 × zSt)) : Nat → zSt → Option (Int32 × zSt)
  | 0, _ => none
  | n + 1, s => bd_X9_houses_10 o0 (fun s => lp_X9_houses_10 o0 k31 n s) k31 s
set_option maxRecDepth 100000 in
theorem jb_X9_houses_10 {o0 : Nat} {rec10 : zSt → Option (Int32 × zSt)} {k31 : zSt → Option (Int32 × zSt)} {s : zSt} {w : zWC} {x : zCX} (hr : zrt x = (some .int))  (h_o0 : zC o0 = 9) (h_rec10 : ∀  (s : zSt), zJ (zQf w x zeI) w x RX9 cX9_houses 2 4 (rec10  s) 10 [some (.ref (zb w + o0)), none] [] s) (h_k31 : ∀  (s : zSt), zJ (zQf w x zeI) w x RX9 cX9_houses 2 4 (k31  s) 31 [some (.ref (zb w + o0)), none] [] s) : zJ (zQf w x zeI) w x RX9 cX9_houses 2 4 (bd_X9_houses_10 o0 rec10 k31 s) 10 [some (.ref (zb w + o0)), none] [] s := by
  unfold bd_X9_houses_10
  refine zj_aload_n dX9_houses_10 rfl ?_
  refine zj_getI dX9_houses_11 fl_X9_192 rfl h_o0 ?_
  refine zj_if_ne (tgt := 31) dX9_houses_14 (by decide) ?_ ?_
  · refine zj_aload_n dX9_houses_17 rfl ?_
    refine zj_getI dX9_houses_18 fl_X9_179 rfl h_o0 ?_
    refine zj_if_eq (tgt := 31) dX9_houses_21 (by decide) ?_ ?_
    · exact h_k31 _
    · refine zj_aload_n dX9_houses_24 rfl ?_
      refine zj_cVV0 ml_X9_402 (fun a h => c_X9_readHouse h_o0 h) h_o0 rfl (Nat.le_of_ble_eq_true rfl) (Nat.le_of_ble_eq_true rfl) dX9_houses_25 (fun s3 => ?_)
      refine zj_goto (tgt := 10) dX9_houses_28 (by decide) ?_
      exact h_rec10 _
  · exact h_k31 _
set_option maxRecDepth 100000 in
theorem jl_X9_houses_10 {o0 : Nat} {k31 : zSt → Option (Int32 × zSt)} {w : zWC} {x : zCX} (hr : zrt x = (some .int))  (h_o0 : zC o0 = 9) (h_k31 : ∀  (s : zSt), zJ (zQf w x zeI) w x RX9 cX9_houses 2 4 (k31  s) 31 [some (.ref (zb w + o0)), none] [] s) : ∀ (n : Nat)  (s : zSt), zJ (zQf w x zeI) w x RX9 cX9_houses 2 4 (lp_X9_houses_10 o0 k31 n s) 10 [some (.ref (zb w + o0)), none] [] s := by
  intro n
  induction n with
  | zero => intro s; exact zj_none
  | succ n ih => intro s; exact jb_X9_houses_10 hr h_o0 (fun s => ih s) h_k31
def bd_X9_houses_50 (o0 : Nat) (rec50 : Int32 → zSt → Option (Int32 × zSt)) (l1 : Int32) (s : zSt) : Option (Int32 × zSt) :=
  (if l1 < zI s o0 49 then
  (if l1 < 0 ∨ zN (zT o0 44) ≤ Int32.toNatClampNeg l1 then none else (if l1 < 0 ∨ zN (zT o0 46) ≤ Int32.toNatClampNeg l1 then none else zlt (zsI s (zT o0 46) (Int32.toNatClampNeg l1) (zI s (zT o0 44) (Int32.toNatClampNeg l1))) (fun s6 => (if l1 < 0 ∨ zN (zT o0 45) ≤ Int32.toNatClampNeg l1 then none else (if l1 < 0 ∨ zN (zT o0 47) ≤ Int32.toNatClampNeg l1 then none else zlt (zsI s6 (zT o0 47) (Int32.toNatClampNeg l1) (zI s6 (zT o0 45) (Int32.toNatClampNeg l1))) (fun s7 => (if l1 < 0 ∨ zN (zT o0 40) ≤ Int32.toNatClampNeg l1 then none else (if l1 < 0 ∨ zN (zT o0 42) ≤ Int32.toNatClampNeg l1 then none else zlt (zsL s7 (zT o0 42) (Int32.toNatClampNeg l1) (zL s7 (zT o0 40) (Int32.toNatClampNeg l1))) (fun s8 => (if l1 < 0 ∨ zN (zT o0 41) ≤ Int32.toNatClampNeg l1 then none else (if l1 < 0 ∨ zN (zT o0 43) ≤ Int32.toNatClampNeg l1 then none else zlt (zsL s8 (zT o0 43) (Int32.toNatClampNeg l1) (zL s8 (zT o0 41) (Int32.toNatClampNeg l1))) (fun s9 => rec50 (l1 + 1) s9))))))))))))
  else
  some (zI s o0 49, s))
def lp_X9_houses_50 (o0 : Nat) : Nat → Int32 → zSt → Option (Int32 × zSt)
  | 0, _, _ => none
  | n + 1, l1, s => bd_X9_houses_50 o0 (fun l1 s => lp_X9_houses_50 o0 n l1 s) l1 s
set_option maxRecDepth 100000 in
theorem jb_X9_houses_50 {o0 : Nat} {rec50 : Int32 → zSt → Option (Int32 × zSt)} {l1 : Int32} {s : zSt} {w : zWC} {x : zCX} (hr : zrt x = (some .int))  (h_o0 : zC o0 = 9) (h_rec50 : ∀ (l1 : Int32) (s : zSt), zJ (zQf w x zeI) w x RX9 cX9_houses 2 4 (rec50 l1 s) 50 [some (.ref (zb w + o0)), some (.int l1)] [] s) : zJ (zQf w x zeI) w x RX9 cX9_houses 2 4 (bd_X9_houses_50 o0 rec50 l1 s) 50 [some (.ref (zb w + o0)), some (.int l1)] [] s := by
  unfold bd_X9_houses_50
  refine zj_iload_n dX9_houses_50 rfl ?_
  refine zj_aload_n dX9_houses_51 rfl ?_
  refine zj_getI dX9_houses_52 fl_X9_405 rfl h_o0 ?_
  refine zj_icmp_ge (tgt := 112) dX9_houses_55 (by decide) ?_ ?_
  · refine zj_aload_n dX9_houses_58 rfl ?_
    refine zj_getT dX9_houses_59 fl_X9_94 rfl h_o0 ?_
    refine zj_iload_n dX9_houses_62 rfl ?_
    refine zj_aload_n dX9_houses_63 rfl ?_
    refine zj_getT dX9_houses_64 fl_X9_88 rfl h_o0 ?_
    refine zj_iload_n dX9_houses_67 rfl ?_
    refine zj_iald dX9_houses_68 (zt_9_44 _ h_o0) ?_
    refine zj_iast dX9_houses_69 (zt_9_46 _ h_o0) (fun s6 => ?_)
    refine zj_aload_n dX9_houses_70 rfl ?_
    refine zj_getT dX9_houses_71 fl_X9_97 rfl h_o0 ?_
    refine zj_iload_n dX9_houses_74 rfl ?_
    refine zj_aload_n dX9_houses_75 rfl ?_
    refine zj_getT dX9_houses_76 fl_X9_91 rfl h_o0 ?_
    refine zj_iload_n dX9_houses_79 rfl ?_
    refine zj_iald dX9_houses_80 (zt_9_45 _ h_o0) ?_
    refine zj_iast dX9_houses_81 (zt_9_47 _ h_o0) (fun s7 => ?_)
    refine zj_aload_n dX9_houses_82 rfl ?_
    refine zj_getT dX9_houses_83 fl_X9_82 rfl h_o0 ?_
    refine zj_iload_n dX9_houses_86 rfl ?_
    refine zj_aload_n dX9_houses_87 rfl ?_
    refine zj_getT dX9_houses_88 fl_X9_76 rfl h_o0 ?_
    refine zj_iload_n dX9_houses_91 rfl ?_
    refine zj_lald dX9_houses_92 (zt_9_40 _ h_o0) ?_
    refine zj_last dX9_houses_93 (zt_9_42 _ h_o0) (fun s8 => ?_)
    refine zj_aload_n dX9_houses_94 rfl ?_
    refine zj_getT dX9_houses_95 fl_X9_85 rfl h_o0 ?_
    refine zj_iload_n dX9_houses_98 rfl ?_
    refine zj_aload_n dX9_houses_99 rfl ?_
    refine zj_getT dX9_houses_100 fl_X9_79 rfl h_o0 ?_
    refine zj_iload_n dX9_houses_103 rfl ?_
    refine zj_lald dX9_houses_104 (zt_9_41 _ h_o0) ?_
    refine zj_last dX9_houses_105 (zt_9_43 _ h_o0) (fun s9 => ?_)
    refine zj_iinc (v2 := l1 + 1) (lv' := [some (.ref (zb w + o0)), some (.int (l1 + 1))]) dX9_houses_106 rfl (by rw [zic_1]) (by decide) rfl rfl ?_
    refine zj_goto (tgt := 50) dX9_houses_109 (by decide) ?_
    exact h_rec50 _ _
  · refine zj_aload_n dX9_houses_112 rfl ?_
    refine zj_getI dX9_houses_113 fl_X9_405 rfl h_o0 ?_
    exact zj_iret hr dX9_houses_116
set_option maxRecDepth 100000 in
theorem jl_X9_houses_50 {o0 : Nat} {w : zWC} {x : zCX} (hr : zrt x = (some .int))  (h_o0 : zC o0 = 9) : ∀ (n : Nat) (l1 : Int32) (s : zSt), zJ (zQf w x zeI) w x RX9 cX9_houses 2 4 (lp_X9_houses_50 o0 n l1 s) 50 [some (.ref (zb w + o0)), some (.int l1)] [] s := by
  intro n
  induction n with
  | zero => intro l1 s; exact zj_none
  | succ n ih => intro l1 s; exact jb_X9_houses_50 hr h_o0 (fun l1 s => ih l1 s)
def m_X9_houses_31 (o0 : Nat) (s : zSt) : Option (Int32 × zSt) :=
  (if 0 < zI s o0 2 then
  some ((-1), s)
  else
  zlt (zsI s o0 49 (zI s o0 48)) (fun s5 => lp_X9_houses_50 o0 zFuel 0 s5))
set_option maxRecDepth 100000 in
theorem j_X9_houses_31 {o0 : Nat} {s : zSt} {w : zWC} {x : zCX} (hr : zrt x = (some .int))  (h_o0 : zC o0 = 9) : zJ (zQf w x zeI) w x RX9 cX9_houses 2 4 (m_X9_houses_31 o0 s) 31 [some (.ref (zb w + o0)), none] [] s := by
  unfold m_X9_houses_31
  refine zj_aload_n dX9_houses_31 rfl ?_
  refine zj_getI dX9_houses_32 fl_X9_192 rfl h_o0 ?_
  refine zj_if_le (tgt := 40) dX9_houses_35 (by decide) ?_ ?_
  · refine zj_iconst dX9_houses_38 zic_m1 ?_
    exact zj_iret hr dX9_houses_39
  · refine zj_aload_n dX9_houses_40 rfl ?_
    refine zj_aload_n dX9_houses_41 rfl ?_
    refine zj_getI dX9_houses_42 fl_X9_399 rfl h_o0 ?_
    refine zj_putI dX9_houses_45 fl_X9_405 rfl h_o0 pd_9_49 rfl rfl (fun s5 => ?_)
    refine zj_iconst dX9_houses_48 zic_0 ?_
    refine zj_istore_n (lv' := [some (.ref (zb w + o0)), some (.int 0)]) dX9_houses_49 rfl (by decide) rfl rfl ?_
    exact jl_X9_houses_50 hr h_o0 zFuel _ _
def m_X9_houses (o0 : Nat) (s : zSt) : Option (Int32 × zSt) :=
  zlt (zsI s o0 48 0) (fun s1 => zcv (m_X9_start o0 0 s1) (fun s2 => lp_X9_houses_10 o0 (fun s_4 => m_X9_houses_31 o0 s_4) zFuel s2))
set_option maxRecDepth 100000 in
theorem c_X9_houses {w : zWC} {o0 : Nat} {s : zSt} (h_o0 : zC o0 = 9) {a : Int32 × zSt} (hm : m_X9_houses o0 s = some a) : zCn w 4 yX9_houses cX9_houses 2 (some .int) [.ref (zb w + o0)] s (zeI a).1 (zeI a).2 :=
  zCn_of (own := RX9) (lv := [some (.ref (zb w + o0)), none]) (by decide +kernel) rfl (Nat.le_of_ble_eq_true rfl) rfl (fun x hr => by
    unfold m_X9_houses
    refine zj_aload_n dX9_houses_0 rfl ?_
    refine zj_iconst dX9_houses_1 zic_0 ?_
    refine zj_putI dX9_houses_2 fl_X9_399 rfl h_o0 pd_9_48 rfl rfl (fun s1 => ?_)
    refine zj_aload_n dX9_houses_5 rfl ?_
    refine zj_iconst dX9_houses_6 zic_0 ?_
    refine zj_cVV1 ml_X9_280 (fun a h => c_X9_start h_o0 h) h_o0 rfl (Nat.le_of_ble_eq_true rfl) (Nat.le_of_ble_eq_true rfl) dX9_houses_7 (fun s2 => ?_)
    refine jl_X9_houses_10 hr h_o0 (fun s_4 => ?_) zFuel _
    exact j_X9_houses_31 hr h_o0) hm
def m_X9_moreOf_110 (o0 : Nat) (p1 : Int32) (rec11 : Int32 → Int32 → Int32 → zSt → Option (Int32 × zSt)) (k116 : Int32 → Int32 → zSt → Option (Int32 × zSt)) (l2 : Int32) (l3 : Int32) (l4 : Int32) (s : zSt) : Option (Int32 × zSt) :=
  rec11 l2 l3 (l4 + 1) s
set_option maxRecDepth 100000 in
theorem j_X9_moreOf_110 {o0 : Nat} {p1 : Int32} {rec11 : Int32 → Int32 → Int32 → zSt → Option (Int32 × zSt)} {k116 : Int32 → Int32 → zSt → Option (Int32 × zSt)} {l2 : Int32} {l3 : Int32} {l4 : Int32} {s : zSt} {w : zWC} {x : zCX} (hr : zrt x = (some .int))  (h_o0 : zC o0 = 9) (h_rec11 : ∀ (l2 : Int32) (l3 : Int32) (l4 : Int32) (s : zSt), zJ (zQf w x zeI) w x RX9 cX9_moreOf 5 0 (rec11 l2 l3 l4 s) 11 [some (.ref (zb w + o0)), some (.int p1), some (.int l2), some (.int l3), some (.int l4)] [] s) (h_k116 : ∀ (l2 : Int32) (l3 : Int32) (s : zSt), zJ (zQf w x zeI) w x RX9 cX9_moreOf 5 0 (k116 l2 l3 s) 116 [none, none, some (.int l2), some (.int l3), none] [] s) : zJ (zQf w x zeI) w x RX9 cX9_moreOf 5 0 (m_X9_moreOf_110 o0 p1 rec11 k116 l2 l3 l4 s) 110 [some (.ref (zb w + o0)), some (.int p1), some (.int l2), some (.int l3), some (.int l4)] [] s := by
  unfold m_X9_moreOf_110
  refine zj_iinc (v2 := l4 + 1) (lv' := [some (.ref (zb w + o0)), some (.int p1), some (.int l2), some (.int l3), some (.int (l4 + 1))]) dX9_moreOf_110 rfl (by rw [zic_1]) (by decide) rfl rfl ?_
  refine zj_goto (tgt := 11) dX9_moreOf_113 (by decide) ?_
  exact h_rec11 _ _ _ _
def m_X9_moreOf_109 (o0 : Nat) (p1 : Int32) (rec11 : Int32 → Int32 → Int32 → zSt → Option (Int32 × zSt)) (k116 : Int32 → Int32 → zSt → Option (Int32 × zSt)) (l2 : Int32) (l4 : Int32) (t0 : Int32) (s : zSt) : Option (Int32 × zSt) :=
  m_X9_moreOf_110 o0 p1 rec11 k116 l2 t0 l4 s
set_option maxRecDepth 100000 in
theorem j_X9_moreOf_109 {o0 : Nat} {p1 : Int32} {rec11 : Int32 → Int32 → Int32 → zSt → Option (Int32 × zSt)} {k116 : Int32 → Int32 → zSt → Option (Int32 × zSt)} {l2 : Int32} {l4 : Int32} {t0 : Int32} {s : zSt} {w : zWC} {x : zCX} (hr : zrt x = (some .int))  (h_o0 : zC o0 = 9) (h_rec11 : ∀ (l2 : Int32) (l3 : Int32) (l4 : Int32) (s : zSt), zJ (zQf w x zeI) w x RX9 cX9_moreOf 5 0 (rec11 l2 l3 l4 s) 11 [some (.ref (zb w + o0)), some (.int p1), some (.int l2), some (.int l3), some (.int l4)] [] s) (h_k116 : ∀ (l2 : Int32) (l3 : Int32) (s : zSt), zJ (zQf w x zeI) w x RX9 cX9_moreOf 5 0 (k116 l2 l3 s) 116 [none, none, some (.int l2), some (.int l3), none] [] s) : zJ (zQf w x zeI) w x RX9 cX9_moreOf 5 0 (m_X9_moreOf_109 o0 p1 rec11 k116 l2 l4 t0 s) 109 [some (.ref (zb w + o0)), some (.int p1), some (.int l2), none, some (.int l4)] [.int t0] s := by
  unfold m_X9_moreOf_109
  refine zj_istore_n (lv' := [some (.ref (zb w + o0)), some (.int p1), some (.int l2), some (.int t0), some (.int l4)]) dX9_moreOf_109 rfl (by decide) rfl rfl ?_
  exact j_X9_moreOf_110 hr h_o0 h_rec11 h_k116
def m_X9_moreOf_70 (o0 : Nat) (p1 : Int32) (rec11 : Int32 → Int32 → Int32 → zSt → Option (Int32 × zSt)) (k116 : Int32 → Int32 → zSt → Option (Int32 × zSt)) (l3 : Int32) (l4 : Int32) (t0 : Int32) (s : zSt) : Option (Int32 × zSt) :=
  (if l4 < 0 ∨ zN (zT o0 46) ≤ Int32.toNatClampNeg l4 then none else (if l4 < 0 ∨ zN (zT o0 47) ≤ Int32.toNatClampNeg l4 then none else (if (zI s (zT o0 46) (Int32.toNatClampNeg l4)) + (zI s (zT o0 47) (Int32.toNatClampNeg l4)) < l3 then
  (if l4 < 0 ∨ zN (zT o0 46) ≤ Int32.toNatClampNeg l4 then none else (if l4 < 0 ∨ zN (zT o0 47) ≤ Int32.toNatClampNeg l4 then none else m_X9_moreOf_109 o0 p1 rec11 k116 t0 l4 ((zI s (zT o0 46) (Int32.toNatClampNeg l4)) + (zI s (zT o0 47) (Int32.toNatClampNeg l4))) s))
  else
  m_X9_moreOf_109 o0 p1 rec11 k116 t0 l4 l3 s)))
set_option maxRecDepth 100000 in
theorem j_X9_moreOf_70 {o0 : Nat} {p1 : Int32} {rec11 : Int32 → Int32 → Int32 → zSt → Option (Int32 × zSt)} {k116 : Int32 → Int32 → zSt → Option (Int32 × zSt)} {l3 : Int32} {l4 : Int32} {t0 : Int32} {s : zSt} {w : zWC} {x : zCX} (hr : zrt x = (some .int))  (h_o0 : zC o0 = 9) (h_rec11 : ∀ (l2 : Int32) (l3 : Int32) (l4 : Int32) (s : zSt), zJ (zQf w x zeI) w x RX9 cX9_moreOf 5 0 (rec11 l2 l3 l4 s) 11 [some (.ref (zb w + o0)), some (.int p1), some (.int l2), some (.int l3), some (.int l4)] [] s) (h_k116 : ∀ (l2 : Int32) (l3 : Int32) (s : zSt), zJ (zQf w x zeI) w x RX9 cX9_moreOf 5 0 (k116 l2 l3 s) 116 [none, none, some (.int l2), some (.int l3), none] [] s) : zJ (zQf w x zeI) w x RX9 cX9_moreOf 5 0 (m_X9_moreOf_70 o0 p1 rec11 k116 l3 l4 t0 s) 70 [some (.ref (zb w + o0)), some (.int p1), none, some (.int l3), some (.int l4)] [.int t0] s := by
  unfold m_X9_moreOf_70
  refine zj_istore_n (lv' := [some (.ref (zb w + o0)), some (.int p1), some (.int t0), some (.int l3), some (.int l4)]) dX9_moreOf_70 rfl (by decide) rfl rfl ?_
  refine zj_aload_n dX9_moreOf_71 rfl ?_
  refine zj_getT dX9_moreOf_72 fl_X9_94 rfl h_o0 ?_
  refine zj_iload dX9_moreOf_75 rfl ?_
  refine zj_iald dX9_moreOf_77 (zt_9_46 _ h_o0) ?_
  refine zj_aload_n dX9_moreOf_78 rfl ?_
  refine zj_getT dX9_moreOf_79 fl_X9_97 rfl h_o0 ?_
  refine zj_iload dX9_moreOf_82 rfl ?_
  refine zj_iald dX9_moreOf_84 (zt_9_47 _ h_o0) ?_
  refine zj_iadd dX9_moreOf_85 ?_
  refine zj_iload_n dX9_moreOf_86 rfl ?_
  refine zj_icmp_ge (tgt := 108) dX9_moreOf_87 (by decide) ?_ ?_
  · refine zj_aload_n dX9_moreOf_90 rfl ?_
    refine zj_getT dX9_moreOf_91 fl_X9_94 rfl h_o0 ?_
    refine zj_iload dX9_moreOf_94 rfl ?_
    refine zj_iald dX9_moreOf_96 (zt_9_46 _ h_o0) ?_
    refine zj_aload_n dX9_moreOf_97 rfl ?_
    refine zj_getT dX9_moreOf_98 fl_X9_97 rfl h_o0 ?_
    refine zj_iload dX9_moreOf_101 rfl ?_
    refine zj_iald dX9_moreOf_103 (zt_9_47 _ h_o0) ?_
    refine zj_iadd dX9_moreOf_104 ?_
    refine zj_goto (tgt := 109) dX9_moreOf_105 (by decide) ?_
    refine zj_weak [true, true, true, false, true] rfl ?_
    exact j_X9_moreOf_109 hr h_o0 h_rec11 h_k116
  · refine zj_iload_n dX9_moreOf_108 rfl ?_
    refine zj_weak [true, true, true, false, true] rfl ?_
    exact j_X9_moreOf_109 hr h_o0 h_rec11 h_k116
def bd_X9_moreOf_11 (o0 : Nat) (p1 : Int32) (rec11 : Int32 → Int32 → Int32 → zSt → Option (Int32 × zSt)) (k116 : Int32 → Int32 → zSt → Option (Int32 × zSt)) (l2 : Int32) (l3 : Int32) (l4 : Int32) (s : zSt) : Option (Int32 × zSt) :=
  (if l4 < zI s o0 49 then
  (if (p1 >>> (l4 &&& 31)) &&& 1 = 0 then
    m_X9_moreOf_110 o0 p1 rec11 k116 l2 l3 l4 s
    else
    (if l4 < 0 ∨ zN (zT o0 46) ≤ Int32.toNatClampNeg l4 then none else (if l4 < 0 ∨ zN (zT o0 47) ≤ Int32.toNatClampNeg l4 then none else (if l2 < (zI s (zT o0 46) (Int32.toNatClampNeg l4)) - (zI s (zT o0 47) (Int32.toNatClampNeg l4)) then
      (if l4 < 0 ∨ zN (zT o0 46) ≤ Int32.toNatClampNeg l4 then none else (if l4 < 0 ∨ zN (zT o0 47) ≤ Int32.toNatClampNeg l4 then none else m_X9_moreOf_70 o0 p1 rec11 k116 l3 l4 ((zI s (zT o0 46) (Int32.toNatClampNeg l4)) - (zI s (zT o0 47) (Int32.toNatClampNeg l4))) s))
      else
      m_X9_moreOf_70 o0 p1 rec11 k116 l3 l4 l2 s))))
  else
  k116 l2 l3 s)
def lp_X9_moreOf_11 (o0 : Nat) (p1 : Int32) (k116 : Int32 → Int32 → zSt → Option (Int32 × zSt)) : Nat → Int32 → Int32 → Int32 → zSt → Option (Int32 × zSt)
  | 0, _, _, _, _ => none
  | n + 1, l2, l3, l4, s => bd_X9_moreOf_11 o0 p1 (fun l2 l3 l4 s => lp_X9_moreOf_11 o0 p1 k116 n l2 l3 l4 s) k116 l2 l3 l4 s
set_option maxRecDepth 100000 in
theorem jb_X9_moreOf_11 {o0 : Nat} {p1 : Int32} {rec11 : Int32 → Int32 → Int32 → zSt → Option (Int32 × zSt)} {k116 : Int32 → Int32 → zSt → Option (Int32 × zSt)} {l2 : Int32} {l3 : Int32} {l4 : Int32} {s : zSt} {w : zWC} {x : zCX} (hr : zrt x = (some .int))  (h_o0 : zC o0 = 9) (h_rec11 : ∀ (l2 : Int32) (l3 : Int32) (l4 : Int32) (s : zSt), zJ (zQf w x zeI) w x RX9 cX9_moreOf 5 0 (rec11 l2 l3 l4 s) 11 [some (.ref (zb w + o0)), some (.int p1), some (.int l2), some (.int l3), some (.int l4)] [] s) (h_k116 : ∀ (l2 : Int32) (l3 : Int32) (s : zSt), zJ (zQf w x zeI) w x RX9 cX9_moreOf 5 0 (k116 l2 l3 s) 116 [none, none, some (.int l2), some (.int l3), none] [] s) : zJ (zQf w x zeI) w x RX9 cX9_moreOf 5 0 (bd_X9_moreOf_11 o0 p1 rec11 k116 l2 l3 l4 s) 11 [some (.ref (zb w + o0)), some (.int p1), some (.int l2), some (.int l3), some (.int l4)] [] s := by
  unfold bd_X9_moreOf_11
  refine zj_iload dX9_moreOf_11 rfl ?_
  refine zj_aload_n dX9_moreOf_13 rfl ?_
  refine zj_getI dX9_moreOf_14 fl_X9_405 rfl h_o0 ?_
  refine zj_icmp_ge (tgt := 116) dX9_moreOf_17 (by decide) ?_ ?_
  · refine zj_iload_n dX9_moreOf_20 rfl ?_
    refine zj_iload dX9_moreOf_21 rfl ?_
    refine zj_ishr dX9_moreOf_23 ?_
    refine zj_iconst dX9_moreOf_24 zic_1 ?_
    refine zj_iand dX9_moreOf_25 ?_
    refine zj_if_ne (tgt := 32) dX9_moreOf_26 (by decide) ?_ ?_
    · refine zj_goto (tgt := 110) dX9_moreOf_29 (by decide) ?_
      exact j_X9_moreOf_110 hr h_o0 h_rec11 h_k116
    · refine zj_aload_n dX9_moreOf_32 rfl ?_
      refine zj_getT dX9_moreOf_33 fl_X9_94 rfl h_o0 ?_
      refine zj_iload dX9_moreOf_36 rfl ?_
      refine zj_iald dX9_moreOf_38 (zt_9_46 _ h_o0) ?_
      refine zj_aload_n dX9_moreOf_39 rfl ?_
      refine zj_getT dX9_moreOf_40 fl_X9_97 rfl h_o0 ?_
      refine zj_iload dX9_moreOf_43 rfl ?_
      refine zj_iald dX9_moreOf_45 (zt_9_47 _ h_o0) ?_
      refine zj_isub dX9_moreOf_46 ?_
      refine zj_iload_n dX9_moreOf_47 rfl ?_
      refine zj_icmp_le (tgt := 69) dX9_moreOf_48 (by decide) ?_ ?_
      · refine zj_aload_n dX9_moreOf_51 rfl ?_
        refine zj_getT dX9_moreOf_52 fl_X9_94 rfl h_o0 ?_
        refine zj_iload dX9_moreOf_55 rfl ?_
        refine zj_iald dX9_moreOf_57 (zt_9_46 _ h_o0) ?_
        refine zj_aload_n dX9_moreOf_58 rfl ?_
        refine zj_getT dX9_moreOf_59 fl_X9_97 rfl h_o0 ?_
        refine zj_iload dX9_moreOf_62 rfl ?_
        refine zj_iald dX9_moreOf_64 (zt_9_47 _ h_o0) ?_
        refine zj_isub dX9_moreOf_65 ?_
        refine zj_goto (tgt := 70) dX9_moreOf_66 (by decide) ?_
        refine zj_weak [true, true, false, true, true] rfl ?_
        exact j_X9_moreOf_70 hr h_o0 h_rec11 h_k116
      · refine zj_iload_n dX9_moreOf_69 rfl ?_
        refine zj_weak [true, true, false, true, true] rfl ?_
        exact j_X9_moreOf_70 hr h_o0 h_rec11 h_k116
  · refine zj_weak [false, false, true, true, false] rfl ?_
    exact h_k116 _ _ _
set_option maxRecDepth 100000 in
theorem jl_X9_moreOf_11 {o0 : Nat} {p1 : Int32} {k116 : Int32 → Int32 → zSt → Option (Int32 × zSt)} {w : zWC} {x : zCX} (hr : zrt x = (some .int))  (h_o0 : zC o0 = 9) (h_k116 : ∀ (l2 : Int32) (l3 : Int32) (s : zSt), zJ (zQf w x zeI) w x RX9 cX9_moreOf 5 0 (k116 l2 l3 s) 116 [none, none, some (.int l2), some (.int l3), none] [] s) : ∀ (n : Nat) (l2 : Int32) (l3 : Int32) (l4 : Int32) (s : zSt), zJ (zQf w x zeI) w x RX9 cX9_moreOf 5 0 (lp_X9_moreOf_11 o0 p1 k116 n l2 l3 l4 s) 11 [some (.ref (zb w + o0)), some (.int p1), some (.int l2), some (.int l3), some (.int l4)] [] s := by
  intro n
  induction n with
  | zero => intro l2 l3 l4 s; exact zj_none
  | succ n ih => intro l2 l3 l4 s; exact jb_X9_moreOf_11 hr h_o0 (fun l2 l3 l4 s => ih l2 l3 l4 s) h_k116
def m_X9_moreOf (o0 : Nat) (p1 : Int32) (s : zSt) : Option (Int32 × zSt) :=
  lp_X9_moreOf_11 o0 p1 (fun l2_1 l3_1 s_1 => (if l3_1 < l2_1 then
  some (((l2_1 - l3_1) + 1) / 2, s_1)
  else
  some (0, s_1))) zFuel (-100000) 100000 0 s
set_option maxRecDepth 100000 in
theorem c_X9_moreOf {w : zWC} {o0 : Nat} {p1 : Int32} {s : zSt} (h_o0 : zC o0 = 9) {a : Int32 × zSt} (hm : m_X9_moreOf o0 p1 s = some a) : zCn w 0 yX9_moreOf cX9_moreOf 5 (some .int) [.ref (zb w + o0), .int p1] s (zeI a).1 (zeI a).2 :=
  zCn_of (own := RX9) (lv := [some (.ref (zb w + o0)), some (.int p1), none, none, none]) (by decide +kernel) rfl (Nat.le_of_ble_eq_true rfl) rfl (fun x hr => by
    unfold m_X9_moreOf
    refine zj_ldcw dX9_moreOf_0 kc_X9_408 ?_
    refine zj_istore_n (lv' := [some (.ref (zb w + o0)), some (.int p1), some (.int (-100000)), none, none]) dX9_moreOf_3 rfl (by decide) rfl rfl ?_
    refine zj_ldcw dX9_moreOf_4 kc_X9_353 ?_
    refine zj_istore_n (lv' := [some (.ref (zb w + o0)), some (.int p1), some (.int (-100000)), some (.int 100000), none]) dX9_moreOf_7 rfl (by decide) rfl rfl ?_
    refine zj_iconst dX9_moreOf_8 zic_0 ?_
    refine zj_istore (lv' := [some (.ref (zb w + o0)), some (.int p1), some (.int (-100000)), some (.int 100000), some (.int 0)]) dX9_moreOf_9 (by decide) rfl rfl ?_
    refine jl_X9_moreOf_11 hr h_o0 (fun l2_1 l3_1 s_1 => ?_) zFuel _ _ _ _
    refine zj_iload_n dX9_moreOf_116 rfl ?_
    refine zj_iload_n dX9_moreOf_117 rfl ?_
    refine zj_icmp_gt (tgt := 125) dX9_moreOf_118 (by decide) ?_ ?_
    · refine zj_iload_n dX9_moreOf_125 rfl ?_
      refine zj_iload_n dX9_moreOf_126 rfl ?_
      refine zj_isub dX9_moreOf_127 ?_
      refine zj_iconst dX9_moreOf_128 zic_1 ?_
      refine zj_iadd dX9_moreOf_129 ?_
      refine zj_iconst dX9_moreOf_130 zic_2 ?_
      refine zj_idivK dX9_moreOf_131 (by decide) ?_
      exact zj_iret hr dX9_moreOf_132
    · refine zj_iconst dX9_moreOf_121 zic_0 ?_
      refine zj_goto (tgt := 132) dX9_moreOf_122 (by decide) ?_
      exact zj_iret hr dX9_moreOf_132) hm
def m_X9_outOf_47 (o0 : Nat) (rec13 : Int32 → Int32 → Int32 → zSt → Option (Int32 × zSt)) (l1 : Int32) (l2 : Int32) (l3 : Int32) (s : zSt) : Option (Int32 × zSt) :=
  rec13 l1 l2 (l3 + 1) s
set_option maxRecDepth 100000 in
theorem j_X9_outOf_47 {o0 : Nat} {rec13 : Int32 → Int32 → Int32 → zSt → Option (Int32 × zSt)} {l1 : Int32} {l2 : Int32} {l3 : Int32} {s : zSt} {w : zWC} {x : zCX} (hr : zrt x = (some .int))  (h_o0 : zC o0 = 9) (h_rec13 : ∀ (l1 : Int32) (l2 : Int32) (l3 : Int32) (s : zSt), zJ (zQf w x zeI) w x RX9 cX9_outOf 4 1 (rec13 l1 l2 l3 s) 13 [some (.ref (zb w + o0)), some (.int l1), some (.int l2), some (.int l3)] [] s) : zJ (zQf w x zeI) w x RX9 cX9_outOf 4 1 (m_X9_outOf_47 o0 rec13 l1 l2 l3 s) 47 [some (.ref (zb w + o0)), some (.int l1), some (.int l2), some (.int l3)] [] s := by
  unfold m_X9_outOf_47
  refine zj_iinc (v2 := l3 + 1) (lv' := [some (.ref (zb w + o0)), some (.int l1), some (.int l2), some (.int (l3 + 1))]) dX9_outOf_47 rfl (by rw [zic_1]) (by decide) rfl rfl ?_
  refine zj_goto (tgt := 13) dX9_outOf_50 (by decide) ?_
  exact h_rec13 _ _ _ _
def m_X9_outOf_45 (o0 : Nat) (rec13 : Int32 → Int32 → Int32 → zSt → Option (Int32 × zSt)) (l1 : Int32) (l3 : Int32) (s : zSt) : Option (Int32 × zSt) :=
  m_X9_outOf_47 o0 rec13 l1 l3 l3 s
set_option maxRecDepth 100000 in
theorem j_X9_outOf_45 {o0 : Nat} {rec13 : Int32 → Int32 → Int32 → zSt → Option (Int32 × zSt)} {l1 : Int32} {l3 : Int32} {s : zSt} {w : zWC} {x : zCX} (hr : zrt x = (some .int))  (h_o0 : zC o0 = 9) (h_rec13 : ∀ (l1 : Int32) (l2 : Int32) (l3 : Int32) (s : zSt), zJ (zQf w x zeI) w x RX9 cX9_outOf 4 1 (rec13 l1 l2 l3 s) 13 [some (.ref (zb w + o0)), some (.int l1), some (.int l2), some (.int l3)] [] s) : zJ (zQf w x zeI) w x RX9 cX9_outOf 4 1 (m_X9_outOf_45 o0 rec13 l1 l3 s) 45 [some (.ref (zb w + o0)), some (.int l1), none, some (.int l3)] [] s := by
  unfold m_X9_outOf_45
  refine zj_iload_n dX9_outOf_45 rfl ?_
  refine zj_istore_n (lv' := [some (.ref (zb w + o0)), some (.int l1), some (.int l3), some (.int l3)]) dX9_outOf_46 rfl (by decide) rfl rfl ?_
  exact j_X9_outOf_47 hr h_o0 h_rec13
def bd_X9_outOf_13 (o0 : Nat) (rec13 : Int32 → Int32 → Int32 → zSt → Option (Int32 × zSt)) (l1 : Int32) (l2 : Int32) (l3 : Int32) (s : zSt) : Option (Int32 × zSt) :=
  (if l1 < l3 then
  some (l2, s)
  else
  zcl (m_X9_moreOf o0 (l1 &&& (l3 ^^^ (-1))) s) (fun r2 s1 => (if r2 = 0 then
    (if l2 < 0 then
      m_X9_outOf_45 o0 rec13 l1 l3 s1
      else
      zcl (m_X9_ones l3 s1) (fun r4 s3 => zcl (m_X9_ones l2 s3) (fun r6 s5 => (if r4 < r6 then
        m_X9_outOf_45 o0 rec13 l1 l3 s5
        else
        m_X9_outOf_47 o0 rec13 l1 l2 l3 s5))))
    else
    m_X9_outOf_47 o0 rec13 l1 l2 l3 s1)))
def lp_X9_outOf_13 (o0 : Nat) : Nat → Int32 → Int32 → Int32 → zSt → Option (Int32 × zSt)
  | 0, _, _, _, _ => none
  | n + 1, l1, l2, l3, s => bd_X9_outOf_13 o0 (fun l1 l2 l3 s => lp_X9_outOf_13 o0 n l1 l2 l3 s) l1 l2 l3 s
set_option maxRecDepth 100000 in
theorem jb_X9_outOf_13 {o0 : Nat} {rec13 : Int32 → Int32 → Int32 → zSt → Option (Int32 × zSt)} {l1 : Int32} {l2 : Int32} {l3 : Int32} {s : zSt} {w : zWC} {x : zCX} (hr : zrt x = (some .int))  (h_o0 : zC o0 = 9) (h_rec13 : ∀ (l1 : Int32) (l2 : Int32) (l3 : Int32) (s : zSt), zJ (zQf w x zeI) w x RX9 cX9_outOf 4 1 (rec13 l1 l2 l3 s) 13 [some (.ref (zb w + o0)), some (.int l1), some (.int l2), some (.int l3)] [] s) : zJ (zQf w x zeI) w x RX9 cX9_outOf 4 1 (bd_X9_outOf_13 o0 rec13 l1 l2 l3 s) 13 [some (.ref (zb w + o0)), some (.int l1), some (.int l2), some (.int l3)] [] s := by
  unfold bd_X9_outOf_13
  refine zj_iload_n dX9_outOf_13 rfl ?_
  refine zj_iload_n dX9_outOf_14 rfl ?_
  refine zj_icmp_gt (tgt := 53) dX9_outOf_15 (by decide) ?_ ?_
  · refine zj_iload_n dX9_outOf_53 rfl ?_
    exact zj_iret hr dX9_outOf_54
  · refine zj_aload_n dX9_outOf_18 rfl ?_
    refine zj_iload_n dX9_outOf_19 rfl ?_
    refine zj_iload_n dX9_outOf_20 rfl ?_
    refine zj_iconst dX9_outOf_21 zic_m1 ?_
    refine zj_ixor dX9_outOf_22 ?_
    refine zj_iand dX9_outOf_23 ?_
    refine zj_cVI1 ml_X9_409 (fun a h => c_X9_moreOf h_o0 h) h_o0 rfl (Nat.le_of_ble_eq_true rfl) (Nat.le_of_ble_eq_true rfl) dX9_outOf_24 (fun r2 s1 => ?_)
    refine zj_if_ne (tgt := 47) dX9_outOf_27 (by decide) ?_ ?_
    · refine zj_iload_n dX9_outOf_30 rfl ?_
      refine zj_if_lt (tgt := 45) dX9_outOf_31 (by decide) ?_ ?_
      · refine zj_weak [true, true, false, true] rfl ?_
        exact j_X9_outOf_45 hr h_o0 h_rec13
      · refine zj_iload_n dX9_outOf_34 rfl ?_
        refine zj_cSI1 ml_X9_390 (fun a h => c_X9_ones  h) (Nat.le_of_ble_eq_true rfl) (Nat.le_of_ble_eq_true rfl) dX9_outOf_35 (fun r4 s3 => ?_)
        refine zj_iload_n dX9_outOf_38 rfl ?_
        refine zj_cSI1 ml_X9_390 (fun a h => c_X9_ones  h) (Nat.le_of_ble_eq_true rfl) (Nat.le_of_ble_eq_true rfl) dX9_outOf_39 (fun r6 s5 => ?_)
        refine zj_icmp_ge (tgt := 47) dX9_outOf_42 (by decide) ?_ ?_
        · refine zj_weak [true, true, false, true] rfl ?_
          exact j_X9_outOf_45 hr h_o0 h_rec13
        · exact j_X9_outOf_47 hr h_o0 h_rec13
    · exact j_X9_outOf_47 hr h_o0 h_rec13
set_option maxRecDepth 100000 in
theorem jl_X9_outOf_13 {o0 : Nat} {w : zWC} {x : zCX} (hr : zrt x = (some .int))  (h_o0 : zC o0 = 9) : ∀ (n : Nat) (l1 : Int32) (l2 : Int32) (l3 : Int32) (s : zSt), zJ (zQf w x zeI) w x RX9 cX9_outOf 4 1 (lp_X9_outOf_13 o0 n l1 l2 l3 s) 13 [some (.ref (zb w + o0)), some (.int l1), some (.int l2), some (.int l3)] [] s := by
  intro n
  induction n with
  | zero => intro l1 l2 l3 s; exact zj_none
  | succ n ih => intro l1 l2 l3 s; exact jb_X9_outOf_13 hr h_o0 (fun l1 l2 l3 s => ih l1 l2 l3 s)
def m_X9_outOf (o0 : Nat) (s : zSt) : Option (Int32 × zSt) :=
  lp_X9_outOf_13 o0 zFuel (((1 : Int32) <<< ((zI s o0 49) &&& 31)) - 1) (-1) 0 s
set_option maxRecDepth 100000 in
theorem c_X9_outOf {w : zWC} {o0 : Nat} {s : zSt} (h_o0 : zC o0 = 9) {a : Int32 × zSt} (hm : m_X9_outOf o0 s = some a) : zCn w 1 yX9_outOf cX9_outOf 4 (some .int) [.ref (zb w + o0)] s (zeI a).1 (zeI a).2 :=
  zCn_of (own := RX9) (lv := [some (.ref (zb w + o0)), none, none, none]) (by decide +kernel) rfl (Nat.le_of_ble_eq_true rfl) rfl (fun x hr => by
    unfold m_X9_outOf
    refine zj_iconst dX9_outOf_0 zic_1 ?_
    refine zj_aload_n dX9_outOf_1 rfl ?_
    refine zj_getI dX9_outOf_2 fl_X9_405 rfl h_o0 ?_
    refine zj_ishl dX9_outOf_5 ?_
    refine zj_iconst dX9_outOf_6 zic_1 ?_
    refine zj_isub dX9_outOf_7 ?_
    refine zj_istore_n (lv' := [some (.ref (zb w + o0)), some (.int (((1 : Int32) <<< ((zI s o0 49) &&& 31)) - 1)), none, none]) dX9_outOf_8 rfl (by decide) rfl rfl ?_
    refine zj_iconst dX9_outOf_9 zic_m1 ?_
    refine zj_istore_n (lv' := [some (.ref (zb w + o0)), some (.int (((1 : Int32) <<< ((zI s o0 49) &&& 31)) - 1)), some (.int (-1)), none]) dX9_outOf_10 rfl (by decide) rfl rfl ?_
    refine zj_iconst dX9_outOf_11 zic_0 ?_
    refine zj_istore_n (lv' := [some (.ref (zb w + o0)), some (.int (((1 : Int32) <<< ((zI s o0 49) &&& 31)) - 1)), some (.int (-1)), some (.int 0)]) dX9_outOf_12 rfl (by decide) rfl rfl ?_
    exact jl_X9_outOf_13 hr h_o0 zFuel _ _ _ _) hm
def m_X9_partsOf_109 (o0 : Nat) (rec47 : Int32 → Int32 → Int32 → Int32 → Int32 → Int32 → zSt → Option (Int32 × zSt)) (k115 : Int32 → Int32 → Int32 → Int32 → Int32 → zSt → Option (Int32 × zSt)) (l1 : Int32) (l2 : Int32) (l3 : Int32) (l4 : Int32) (l5 : Int32) (l6 : Int32) (s : zSt) : Option (Int32 × zSt) :=
  rec47 l1 l2 l3 l4 l5 (l6 + 1) s
set_option maxRecDepth 100000 in
theorem j_X9_partsOf_109 {o0 : Nat} {rec47 : Int32 → Int32 → Int32 → Int32 → Int32 → Int32 → zSt → Option (Int32 × zSt)} {k115 : Int32 → Int32 → Int32 → Int32 → Int32 → zSt → Option (Int32 × zSt)} {l1 : Int32} {l2 : Int32} {l3 : Int32} {l4 : Int32} {l5 : Int32} {l6 : Int32} {s : zSt} {w : zWC} {x : zCX} (hr : zrt x = (some .int))  (h_o0 : zC o0 = 9) (h_rec47 : ∀ (l1 : Int32) (l2 : Int32) (l3 : Int32) (l4 : Int32) (l5 : Int32) (l6 : Int32) (s : zSt), zJ (zQf w x zeI) w x RX9 cX9_partsOf 7 0 (rec47 l1 l2 l3 l4 l5 l6 s) 47 [some (.ref (zb w + o0)), some (.int l1), some (.int l2), some (.int l3), some (.int l4), some (.int l5), some (.int l6)] [] s) (h_k115 : ∀ (l1 : Int32) (l2 : Int32) (l3 : Int32) (l4 : Int32) (l5 : Int32) (s : zSt), zJ (zQf w x zeI) w x RX9 cX9_partsOf 7 0 (k115 l1 l2 l3 l4 l5 s) 115 [some (.ref (zb w + o0)), some (.int l1), some (.int l2), some (.int l3), some (.int l4), some (.int l5), none] [] s) : zJ (zQf w x zeI) w x RX9 cX9_partsOf 7 0 (m_X9_partsOf_109 o0 rec47 k115 l1 l2 l3 l4 l5 l6 s) 109 [some (.ref (zb w + o0)), some (.int l1), some (.int l2), some (.int l3), some (.int l4), some (.int l5), some (.int l6)] [] s := by
  unfold m_X9_partsOf_109
  refine zj_iinc (v2 := l6 + 1) (lv' := [some (.ref (zb w + o0)), some (.int l1), some (.int l2), some (.int l3), some (.int l4), some (.int l5), some (.int (l6 + 1))]) dX9_partsOf_109 rfl (by rw [zic_1]) (by decide) rfl rfl ?_
  refine zj_goto (tgt := 47) dX9_partsOf_112 (by decide) ?_
  exact h_rec47 _ _ _ _ _ _ _
def m_X9_partsOf_102 (o0 : Nat) (rec47 : Int32 → Int32 → Int32 → Int32 → Int32 → Int32 → zSt → Option (Int32 × zSt)) (k115 : Int32 → Int32 → Int32 → Int32 → Int32 → zSt → Option (Int32 × zSt)) (l1 : Int32) (l2 : Int32) (l3 : Int32) (l4 : Int32) (l5 : Int32) (l6 : Int32) (s : zSt) : Option (Int32 × zSt) :=
  m_X9_partsOf_109 o0 rec47 k115 l1 l2 (l3 ||| ((1 : Int32) <<< (l6 &&& 31))) l4 l5 l6 s
set_option maxRecDepth 100000 in
theorem j_X9_partsOf_102 {o0 : Nat} {rec47 : Int32 → Int32 → Int32 → Int32 → Int32 → Int32 → zSt → Option (Int32 × zSt)} {k115 : Int32 → Int32 → Int32 → Int32 → Int32 → zSt → Option (Int32 × zSt)} {l1 : Int32} {l2 : Int32} {l3 : Int32} {l4 : Int32} {l5 : Int32} {l6 : Int32} {s : zSt} {w : zWC} {x : zCX} (hr : zrt x = (some .int))  (h_o0 : zC o0 = 9) (h_rec47 : ∀ (l1 : Int32) (l2 : Int32) (l3 : Int32) (l4 : Int32) (l5 : Int32) (l6 : Int32) (s : zSt), zJ (zQf w x zeI) w x RX9 cX9_partsOf 7 0 (rec47 l1 l2 l3 l4 l5 l6 s) 47 [some (.ref (zb w + o0)), some (.int l1), some (.int l2), some (.int l3), some (.int l4), some (.int l5), some (.int l6)] [] s) (h_k115 : ∀ (l1 : Int32) (l2 : Int32) (l3 : Int32) (l4 : Int32) (l5 : Int32) (s : zSt), zJ (zQf w x zeI) w x RX9 cX9_partsOf 7 0 (k115 l1 l2 l3 l4 l5 s) 115 [some (.ref (zb w + o0)), some (.int l1), some (.int l2), some (.int l3), some (.int l4), some (.int l5), none] [] s) : zJ (zQf w x zeI) w x RX9 cX9_partsOf 7 0 (m_X9_partsOf_102 o0 rec47 k115 l1 l2 l3 l4 l5 l6 s) 102 [some (.ref (zb w + o0)), some (.int l1), some (.int l2), some (.int l3), some (.int l4), some (.int l5), some (.int l6)] [] s := by
  unfold m_X9_partsOf_102
  refine zj_iload_n dX9_partsOf_102 rfl ?_
  refine zj_iconst dX9_partsOf_103 zic_1 ?_
  refine zj_iload dX9_partsOf_104 rfl ?_
  refine zj_ishl dX9_partsOf_106 ?_
  refine zj_ior dX9_partsOf_107 ?_
  refine zj_istore_n (lv' := [some (.ref (zb w + o0)), some (.int l1), some (.int l2), some (.int (l3 ||| ((1 : Int32) <<< (l6 &&& 31)))), some (.int l4), some (.int l5), some (.int l6)]) dX9_partsOf_108 rfl (by decide) rfl rfl ?_
  exact j_X9_partsOf_109 hr h_o0 h_rec47 h_k115
def bd_X9_partsOf_47 (o0 : Nat) (rec47 : Int32 → Int32 → Int32 → Int32 → Int32 → Int32 → zSt → Option (Int32 × zSt)) (k115 : Int32 → Int32 → Int32 → Int32 → Int32 → zSt → Option (Int32 × zSt)) (l1 : Int32) (l2 : Int32) (l3 : Int32) (l4 : Int32) (l5 : Int32) (l6 : Int32) (s : zSt) : Option (Int32 × zSt) :=
  (if l6 < zI s o0 49 then
  (if (l3 >>> (l5 &&& 31)) &&& 1 = 1 then
    (if l5 < 0 ∨ zN (zT o0 42) ≤ Int32.toNatClampNeg l5 then none else (if l6 < 0 ∨ zN (zT o0 42) ≤ Int32.toNatClampNeg l6 then none else (if zL s (zT o0 42) (Int32.toNatClampNeg l5) = zL s (zT o0 42) (Int32.toNatClampNeg l6) then
      m_X9_partsOf_102 o0 rec47 k115 l1 l2 l3 l4 l5 l6 s
      else
      (if l5 < 0 ∨ zN (zT o0 43) ≤ Int32.toNatClampNeg l5 then none else (if l6 < 0 ∨ zN (zT o0 43) ≤ Int32.toNatClampNeg l6 then none else (if zL s (zT o0 43) (Int32.toNatClampNeg l5) = zL s (zT o0 43) (Int32.toNatClampNeg l6) then
        m_X9_partsOf_102 o0 rec47 k115 l1 l2 l3 l4 l5 l6 s
        else
        m_X9_partsOf_109 o0 rec47 k115 l1 l2 l3 l4 l5 l6 s))))))
    else
    m_X9_partsOf_109 o0 rec47 k115 l1 l2 l3 l4 l5 l6 s)
  else
  k115 l1 l2 l3 l4 l5 s)
def lp_X9_partsOf_47 (o0 : Nat) (k115 : Int32 → Int32 → Int32 → Int32 → Int32 → zSt → Option (Int32 × zSt)) : Nat → Int32 → Int32 → Int32 → Int32 → Int32 → Int32 → zSt → Option (Int32 × zSt)
  | 0, _, _, _, _, _, _, _ => none
  | n + 1, l1, l2, l3, l4, l5, l6, s => bd_X9_partsOf_47 o0 (fun l1 l2 l3 l4 l5 l6 s => lp_X9_partsOf_47 o0 k115 n l1 l2 l3 l4 l5 l6 s) k115 l1 l2 l3 l4 l5 l6 s
set_option maxRecDepth 100000 in
theorem jb_X9_partsOf_47 {o0 : Nat} {rec47 : Int32 → Int32 → Int32 → Int32 → Int32 → Int32 → zSt → Option (Int32 × zSt)} {k115 : Int32 → Int32 → Int32 → Int32 → Int32 → zSt → Option (Int32 × zSt)} {l1 : Int32} {l2 : Int32} {l3 : Int32} {l4 : Int32} {l5 : Int32} {l6 : Int32} {s : zSt} {w : zWC} {x : zCX} (hr : zrt x = (some .int))  (h_o0 : zC o0 = 9) (h_rec47 : ∀ (l1 : Int32) (l2 : Int32) (l3 : Int32) (l4 : Int32) (l5 : Int32) (l6 : Int32) (s : zSt), zJ (zQf w x zeI) w x RX9 cX9_partsOf 7 0 (rec47 l1 l2 l3 l4 l5 l6 s) 47 [some (.ref (zb w + o0)), some (.int l1), some (.int l2), some (.int l3), some (.int l4), some (.int l5), some (.int l6)] [] s) (h_k115 : ∀ (l1 : Int32) (l2 : Int32) (l3 : Int32) (l4 : Int32) (l5 : Int32) (s : zSt), zJ (zQf w x zeI) w x RX9 cX9_partsOf 7 0 (k115 l1 l2 l3 l4 l5 s) 115 [some (.ref (zb w + o0)), some (.int l1), some (.int l2), some (.int l3), some (.int l4), some (.int l5), none] [] s) : zJ (zQf w x zeI) w x RX9 cX9_partsOf 7 0 (bd_X9_partsOf_47 o0 rec47 k115 l1 l2 l3 l4 l5 l6 s) 47 [some (.ref (zb w + o0)), some (.int l1), some (.int l2), some (.int l3), some (.int l4), some (.int l5), some (.int l6)] [] s := by
  unfold bd_X9_partsOf_47
  refine zj_iload dX9_partsOf_47 rfl ?_
  refine zj_aload_n dX9_partsOf_49 rfl ?_
  refine zj_getI dX9_partsOf_50 fl_X9_405 rfl h_o0 ?_
  refine zj_icmp_ge (tgt := 115) dX9_partsOf_53 (by decide) ?_ ?_
  · refine zj_iload_n dX9_partsOf_56 rfl ?_
    refine zj_iload dX9_partsOf_57 rfl ?_
    refine zj_ishr dX9_partsOf_59 ?_
    refine zj_iconst dX9_partsOf_60 zic_1 ?_
    refine zj_iand dX9_partsOf_61 ?_
    refine zj_iconst dX9_partsOf_62 zic_1 ?_
    refine zj_icmp_ne (tgt := 109) dX9_partsOf_63 (by decide) ?_ ?_
    · refine zj_aload_n dX9_partsOf_66 rfl ?_
      refine zj_getT dX9_partsOf_67 fl_X9_82 rfl h_o0 ?_
      refine zj_iload dX9_partsOf_70 rfl ?_
      refine zj_lald dX9_partsOf_72 (zt_9_42 _ h_o0) ?_
      refine zj_aload_n dX9_partsOf_73 rfl ?_
      refine zj_getT dX9_partsOf_74 fl_X9_82 rfl h_o0 ?_
      refine zj_iload dX9_partsOf_77 rfl ?_
      refine zj_lald dX9_partsOf_79 (zt_9_42 _ h_o0) ?_
      refine zj_lcmp_eq (tgt := 102) dX9_partsOf_80 dX9_partsOf_81 (by decide) ?_ ?_
      · exact j_X9_partsOf_102 hr h_o0 h_rec47 h_k115
      · refine zj_aload_n dX9_partsOf_84 rfl ?_
        refine zj_getT dX9_partsOf_85 fl_X9_85 rfl h_o0 ?_
        refine zj_iload dX9_partsOf_88 rfl ?_
        refine zj_lald dX9_partsOf_90 (zt_9_43 _ h_o0) ?_
        refine zj_aload_n dX9_partsOf_91 rfl ?_
        refine zj_getT dX9_partsOf_92 fl_X9_85 rfl h_o0 ?_
        refine zj_iload dX9_partsOf_95 rfl ?_
        refine zj_lald dX9_partsOf_97 (zt_9_43 _ h_o0) ?_
        refine zj_lcmp_ne (tgt := 109) dX9_partsOf_98 dX9_partsOf_99 (by decide) ?_ ?_
        · exact j_X9_partsOf_102 hr h_o0 h_rec47 h_k115
        · exact j_X9_partsOf_109 hr h_o0 h_rec47 h_k115
    · exact j_X9_partsOf_109 hr h_o0 h_rec47 h_k115
  · refine zj_weak [true, true, true, true, true, true, false] rfl ?_
    exact h_k115 _ _ _ _ _ _
set_option maxRecDepth 100000 in
theorem jl_X9_partsOf_47 {o0 : Nat} {k115 : Int32 → Int32 → Int32 → Int32 → Int32 → zSt → Option (Int32 × zSt)} {w : zWC} {x : zCX} (hr : zrt x = (some .int))  (h_o0 : zC o0 = 9) (h_k115 : ∀ (l1 : Int32) (l2 : Int32) (l3 : Int32) (l4 : Int32) (l5 : Int32) (s : zSt), zJ (zQf w x zeI) w x RX9 cX9_partsOf 7 0 (k115 l1 l2 l3 l4 l5 s) 115 [some (.ref (zb w + o0)), some (.int l1), some (.int l2), some (.int l3), some (.int l4), some (.int l5), none] [] s) : ∀ (n : Nat) (l1 : Int32) (l2 : Int32) (l3 : Int32) (l4 : Int32) (l5 : Int32) (l6 : Int32) (s : zSt), zJ (zQf w x zeI) w x RX9 cX9_partsOf 7 0 (lp_X9_partsOf_47 o0 k115 n l1 l2 l3 l4 l5 l6 s) 47 [some (.ref (zb w + o0)), some (.int l1), some (.int l2), some (.int l3), some (.int l4), some (.int l5), some (.int l6)] [] s := by
  intro n
  induction n with
  | zero => intro l1 l2 l3 l4 l5 l6 s; exact zj_none
  | succ n ih => intro l1 l2 l3 l4 l5 l6 s; exact jb_X9_partsOf_47 hr h_o0 (fun l1 l2 l3 l4 l5 l6 s => ih l1 l2 l3 l4 l5 l6 s) h_k115
def bd_X9_partsOf_35 (o0 : Nat) (rec35 : Int32 → Int32 → Int32 → Int32 → Int32 → zSt → Option (Int32 × zSt)) (k121 : Int32 → Int32 → Int32 → Int32 → zSt → Option (Int32 × zSt)) (l1 : Int32) (l2 : Int32) (l3 : Int32) (l4 : Int32) (l5 : Int32) (s : zSt) : Option (Int32 × zSt) :=
  (if l5 < zI s o0 49 then
  lp_X9_partsOf_47 o0 (fun l1_1 l2_1 l3_1 l4_1 l5_1 s_1 => rec35 l1_1 l2_1 l3_1 l4_1 (l5_1 + 1) s_1) zFuel l1 l2 l3 l4 l5 0 s
  else
  k121 l1 l2 l3 l4 s)
def lp_X9_partsOf_35 (o0 : Nat) (k121 : Int32 → Int32 → Int32 → Int32 → zSt → Option (Int32 × zSt)) : Nat → Int32 → Int32 → Int32 → Int32 → Int32 → zSt → Option (Int32 × zSt)
  | 0, _, _, _, _, _, _ => none
  | n + 1, l1, l2, l3, l4, l5, s => bd_X9_partsOf_35 o0 (fun l1 l2 l3 l4 l5 s => lp_X9_partsOf_35 o0 k121 n l1 l2 l3 l4 l5 s) k121 l1 l2 l3 l4 l5 s
set_option maxRecDepth 100000 in
theorem jb_X9_partsOf_35 {o0 : Nat} {rec35 : Int32 → Int32 → Int32 → Int32 → Int32 → zSt → Option (Int32 × zSt)} {k121 : Int32 → Int32 → Int32 → Int32 → zSt → Option (Int32 × zSt)} {l1 : Int32} {l2 : Int32} {l3 : Int32} {l4 : Int32} {l5 : Int32} {s : zSt} {w : zWC} {x : zCX} (hr : zrt x = (some .int))  (h_o0 : zC o0 = 9) (h_rec35 : ∀ (l1 : Int32) (l2 : Int32) (l3 : Int32) (l4 : Int32) (l5 : Int32) (s : zSt), zJ (zQf w x zeI) w x RX9 cX9_partsOf 7 0 (rec35 l1 l2 l3 l4 l5 s) 35 [some (.ref (zb w + o0)), some (.int l1), some (.int l2), some (.int l3), some (.int l4), some (.int l5), none] [] s) (h_k121 : ∀ (l1 : Int32) (l2 : Int32) (l3 : Int32) (l4 : Int32) (s : zSt), zJ (zQf w x zeI) w x RX9 cX9_partsOf 7 0 (k121 l1 l2 l3 l4 s) 121 [some (.ref (zb w + o0)), some (.int l1), some (.int l2), some (.int l3), some (.int l4), none, none] [] s) : zJ (zQf w x zeI) w x RX9 cX9_partsOf 7 0 (bd_X9_partsOf_35 o0 rec35 k121 l1 l2 l3 l4 l5 s) 35 [some (.ref (zb w + o0)), some (.int l1), some (.int l2), some (.int l3), some (.int l4), some (.int l5), none] [] s := by
  unfold bd_X9_partsOf_35
  refine zj_iload dX9_partsOf_35 rfl ?_
  refine zj_aload_n dX9_partsOf_37 rfl ?_
  refine zj_getI dX9_partsOf_38 fl_X9_405 rfl h_o0 ?_
  refine zj_icmp_ge (tgt := 121) dX9_partsOf_41 (by decide) ?_ ?_
  · refine zj_iconst dX9_partsOf_44 zic_0 ?_
    refine zj_istore (lv' := [some (.ref (zb w + o0)), some (.int l1), some (.int l2), some (.int l3), some (.int l4), some (.int l5), some (.int 0)]) dX9_partsOf_45 (by decide) rfl rfl ?_
    refine jl_X9_partsOf_47 hr h_o0 (fun l1_1 l2_1 l3_1 l4_1 l5_1 s_1 => ?_) zFuel _ _ _ _ _ _ _
    refine zj_iinc (v2 := l5_1 + 1) (lv' := [some (.ref (zb w + o0)), some (.int l1_1), some (.int l2_1), some (.int l3_1), some (.int l4_1), some (.int (l5_1 + 1)), none]) dX9_partsOf_115 rfl (by rw [zic_1]) (by decide) rfl rfl ?_
    refine zj_goto (tgt := 35) dX9_partsOf_118 (by decide) ?_
    exact h_rec35 _ _ _ _ _ _
  · refine zj_weak [true, true, true, true, true, false, false] rfl ?_
    exact h_k121 _ _ _ _ _
set_option maxRecDepth 100000 in
theorem jl_X9_partsOf_35 {o0 : Nat} {k121 : Int32 → Int32 → Int32 → Int32 → zSt → Option (Int32 × zSt)} {w : zWC} {x : zCX} (hr : zrt x = (some .int))  (h_o0 : zC o0 = 9) (h_k121 : ∀ (l1 : Int32) (l2 : Int32) (l3 : Int32) (l4 : Int32) (s : zSt), zJ (zQf w x zeI) w x RX9 cX9_partsOf 7 0 (k121 l1 l2 l3 l4 s) 121 [some (.ref (zb w + o0)), some (.int l1), some (.int l2), some (.int l3), some (.int l4), none, none] [] s) : ∀ (n : Nat) (l1 : Int32) (l2 : Int32) (l3 : Int32) (l4 : Int32) (l5 : Int32) (s : zSt), zJ (zQf w x zeI) w x RX9 cX9_partsOf 7 0 (lp_X9_partsOf_35 o0 k121 n l1 l2 l3 l4 l5 s) 35 [some (.ref (zb w + o0)), some (.int l1), some (.int l2), some (.int l3), some (.int l4), some (.int l5), none] [] s := by
  intro n
  induction n with
  | zero => intro l1 l2 l3 l4 l5 s; exact zj_none
  | succ n ih => intro l1 l2 l3 l4 l5 s; exact jb_X9_partsOf_35 hr h_o0 (fun l1 l2 l3 l4 l5 s => ih l1 l2 l3 l4 l5 s) h_k121
def bd_X9_partsOf_23 (o0 : Nat) (rec23 : Int32 → Int32 → Int32 → Int32 → zSt → Option (Int32 × zSt)) (k127 : Int32 → Int32 → Int32 → zSt → Option (Int32 × zSt)) (l1 : Int32) (l2 : Int32) (l3 : Int32) (l4 : Int32) (s : zSt) : Option (Int32 × zSt) :=
  (if l4 < zI s o0 49 then
  lp_X9_partsOf_35 o0 (fun l1_2 l2_2 l3_2 l4_2 s_2 => rec23 l1_2 l2_2 l3_2 (l4_2 + 1) s_2) zFuel l1 l2 l3 l4 0 s
  else
  k127 l1 l2 l3 s)
def lp_X9_partsOf_23 (o0 : Nat) (k127 : Int32 → Int32 → Int32 → zSt → Option (Int32 × zSt)) : Nat → Int32 → Int32 → Int32 → Int32 → zSt → Option (Int32 × zSt)
  | 0, _, _, _, _, _ => none
  | n + 1, l1, l2, l3, l4, s => bd_X9_partsOf_23 o0 (fun l1 l2 l3 l4 s => lp_X9_partsOf_23 o0 k127 n l1 l2 l3 l4 s) k127 l1 l2 l3 l4 s
set_option maxRecDepth 100000 in
theorem jb_X9_partsOf_23 {o0 : Nat} {rec23 : Int32 → Int32 → Int32 → Int32 → zSt → Option (Int32 × zSt)} {k127 : Int32 → Int32 → Int32 → zSt → Option (Int32 × zSt)} {l1 : Int32} {l2 : Int32} {l3 : Int32} {l4 : Int32} {s : zSt} {w : zWC} {x : zCX} (hr : zrt x = (some .int))  (h_o0 : zC o0 = 9) (h_rec23 : ∀ (l1 : Int32) (l2 : Int32) (l3 : Int32) (l4 : Int32) (s : zSt), zJ (zQf w x zeI) w x RX9 cX9_partsOf 7 0 (rec23 l1 l2 l3 l4 s) 23 [some (.ref (zb w + o0)), some (.int l1), some (.int l2), some (.int l3), some (.int l4), none, none] [] s) (h_k127 : ∀ (l1 : Int32) (l2 : Int32) (l3 : Int32) (s : zSt), zJ (zQf w x zeI) w x RX9 cX9_partsOf 7 0 (k127 l1 l2 l3 s) 127 [some (.ref (zb w + o0)), some (.int l1), some (.int l2), some (.int l3), none, none, none] [] s) : zJ (zQf w x zeI) w x RX9 cX9_partsOf 7 0 (bd_X9_partsOf_23 o0 rec23 k127 l1 l2 l3 l4 s) 23 [some (.ref (zb w + o0)), some (.int l1), some (.int l2), some (.int l3), some (.int l4), none, none] [] s := by
  unfold bd_X9_partsOf_23
  refine zj_iload dX9_partsOf_23 rfl ?_
  refine zj_aload_n dX9_partsOf_25 rfl ?_
  refine zj_getI dX9_partsOf_26 fl_X9_405 rfl h_o0 ?_
  refine zj_icmp_ge (tgt := 127) dX9_partsOf_29 (by decide) ?_ ?_
  · refine zj_iconst dX9_partsOf_32 zic_0 ?_
    refine zj_istore (lv' := [some (.ref (zb w + o0)), some (.int l1), some (.int l2), some (.int l3), some (.int l4), some (.int 0), none]) dX9_partsOf_33 (by decide) rfl rfl ?_
    refine jl_X9_partsOf_35 hr h_o0 (fun l1_2 l2_2 l3_2 l4_2 s_2 => ?_) zFuel _ _ _ _ _ _
    refine zj_iinc (v2 := l4_2 + 1) (lv' := [some (.ref (zb w + o0)), some (.int l1_2), some (.int l2_2), some (.int l3_2), some (.int (l4_2 + 1)), none, none]) dX9_partsOf_121 rfl (by rw [zic_1]) (by decide) rfl rfl ?_
    refine zj_goto (tgt := 23) dX9_partsOf_124 (by decide) ?_
    exact h_rec23 _ _ _ _ _
  · refine zj_weak [true, true, true, true, false, false, false] rfl ?_
    exact h_k127 _ _ _ _
set_option maxRecDepth 100000 in
theorem jl_X9_partsOf_23 {o0 : Nat} {k127 : Int32 → Int32 → Int32 → zSt → Option (Int32 × zSt)} {w : zWC} {x : zCX} (hr : zrt x = (some .int))  (h_o0 : zC o0 = 9) (h_k127 : ∀ (l1 : Int32) (l2 : Int32) (l3 : Int32) (s : zSt), zJ (zQf w x zeI) w x RX9 cX9_partsOf 7 0 (k127 l1 l2 l3 s) 127 [some (.ref (zb w + o0)), some (.int l1), some (.int l2), some (.int l3), none, none, none] [] s) : ∀ (n : Nat) (l1 : Int32) (l2 : Int32) (l3 : Int32) (l4 : Int32) (s : zSt), zJ (zQf w x zeI) w x RX9 cX9_partsOf 7 0 (lp_X9_partsOf_23 o0 k127 n l1 l2 l3 l4 s) 23 [some (.ref (zb w + o0)), some (.int l1), some (.int l2), some (.int l3), some (.int l4), none, none] [] s := by
  intro n
  induction n with
  | zero => intro l1 l2 l3 l4 s; exact zj_none
  | succ n ih => intro l1 l2 l3 l4 s; exact jb_X9_partsOf_23 hr h_o0 (fun l1 l2 l3 l4 s => ih l1 l2 l3 l4 s) h_k127
def bd_X9_partsOf_11 (o0 : Nat) (rec11 : Int32 → Int32 → zSt → Option (Int32 × zSt)) (l1 : Int32) (l2 : Int32) (s : zSt) : Option (Int32 × zSt) :=
  (if l1 = 0 then
  some (l2, s)
  else
  lp_X9_partsOf_23 o0 (fun l1_3 l2_3 l3_3 s_3 => rec11 (l1_3 &&& (l3_3 ^^^ (-1))) (l2_3 + 1) s_3) zFuel l1 l2 (l1 &&& (-l1)) 0 s)
def lp_X9_partsOf_11 (o0 : Nat) : Nat → Int32 → Int32 → zSt → Option (Int32 × zSt)
  | 0, _, _, _ => none
  | n + 1, l1, l2, s => bd_X9_partsOf_11 o0 (fun l1 l2 s => lp_X9_partsOf_11 o0 n l1 l2 s) l1 l2 s
set_option maxRecDepth 100000 in
theorem jb_X9_partsOf_11 {o0 : Nat} {rec11 : Int32 → Int32 → zSt → Option (Int32 × zSt)} {l1 : Int32} {l2 : Int32} {s : zSt} {w : zWC} {x : zCX} (hr : zrt x = (some .int))  (h_o0 : zC o0 = 9) (h_rec11 : ∀ (l1 : Int32) (l2 : Int32) (s : zSt), zJ (zQf w x zeI) w x RX9 cX9_partsOf 7 0 (rec11 l1 l2 s) 11 [some (.ref (zb w + o0)), some (.int l1), some (.int l2), none, none, none, none] [] s) : zJ (zQf w x zeI) w x RX9 cX9_partsOf 7 0 (bd_X9_partsOf_11 o0 rec11 l1 l2 s) 11 [some (.ref (zb w + o0)), some (.int l1), some (.int l2), none, none, none, none] [] s := by
  unfold bd_X9_partsOf_11
  refine zj_iload_n dX9_partsOf_11 rfl ?_
  refine zj_if_eq (tgt := 139) dX9_partsOf_12 (by decide) ?_ ?_
  · refine zj_iload_n dX9_partsOf_139 rfl ?_
    exact zj_iret hr dX9_partsOf_140
  · refine zj_iload_n dX9_partsOf_15 rfl ?_
    refine zj_iload_n dX9_partsOf_16 rfl ?_
    refine zj_ineg dX9_partsOf_17 ?_
    refine zj_iand dX9_partsOf_18 ?_
    refine zj_istore_n (lv' := [some (.ref (zb w + o0)), some (.int l1), some (.int l2), some (.int (l1 &&& (-l1))), none, none, none]) dX9_partsOf_19 rfl (by decide) rfl rfl ?_
    refine zj_iconst dX9_partsOf_20 zic_0 ?_
    refine zj_istore (lv' := [some (.ref (zb w + o0)), some (.int l1), some (.int l2), some (.int (l1 &&& (-l1))), some (.int 0), none, none]) dX9_partsOf_21 (by decide) rfl rfl ?_
    refine jl_X9_partsOf_23 hr h_o0 (fun l1_3 l2_3 l3_3 s_3 => ?_) zFuel _ _ _ _ _
    refine zj_iload_n dX9_partsOf_127 rfl ?_
    refine zj_iload_n dX9_partsOf_128 rfl ?_
    refine zj_iconst dX9_partsOf_129 zic_m1 ?_
    refine zj_ixor dX9_partsOf_130 ?_
    refine zj_iand dX9_partsOf_131 ?_
    refine zj_istore_n (lv' := [some (.ref (zb w + o0)), some (.int (l1_3 &&& (l3_3 ^^^ (-1)))), some (.int l2_3), some (.int l3_3), none, none, none]) dX9_partsOf_132 rfl (by decide) rfl rfl ?_
    refine zj_iinc (v2 := l2_3 + 1) (lv' := [some (.ref (zb w + o0)), some (.int (l1_3 &&& (l3_3 ^^^ (-1)))), some (.int (l2_3 + 1)), some (.int l3_3), none, none, none]) dX9_partsOf_133 rfl (by rw [zic_1]) (by decide) rfl rfl ?_
    refine zj_goto (tgt := 11) dX9_partsOf_136 (by decide) ?_
    refine zj_weak [true, true, true, false, false, false, false] rfl ?_
    exact h_rec11 _ _ _
set_option maxRecDepth 100000 in
theorem jl_X9_partsOf_11 {o0 : Nat} {w : zWC} {x : zCX} (hr : zrt x = (some .int))  (h_o0 : zC o0 = 9) : ∀ (n : Nat) (l1 : Int32) (l2 : Int32) (s : zSt), zJ (zQf w x zeI) w x RX9 cX9_partsOf 7 0 (lp_X9_partsOf_11 o0 n l1 l2 s) 11 [some (.ref (zb w + o0)), some (.int l1), some (.int l2), none, none, none, none] [] s := by
  intro n
  induction n with
  | zero => intro l1 l2 s; exact zj_none
  | succ n ih => intro l1 l2 s; exact jb_X9_partsOf_11 hr h_o0 (fun l1 l2 s => ih l1 l2 s)
def m_X9_partsOf (o0 : Nat) (s : zSt) : Option (Int32 × zSt) :=
  lp_X9_partsOf_11 o0 zFuel (((1 : Int32) <<< ((zI s o0 49) &&& 31)) - 1) 0 s
set_option maxRecDepth 100000 in
theorem c_X9_partsOf {w : zWC} {o0 : Nat} {s : zSt} (h_o0 : zC o0 = 9) {a : Int32 × zSt} (hm : m_X9_partsOf o0 s = some a) : zCn w 0 yX9_partsOf cX9_partsOf 7 (some .int) [.ref (zb w + o0)] s (zeI a).1 (zeI a).2 :=
  zCn_of (own := RX9) (lv := [some (.ref (zb w + o0)), none, none, none, none, none, none]) (by decide +kernel) rfl (Nat.le_of_ble_eq_true rfl) rfl (fun x hr => by
    unfold m_X9_partsOf
    refine zj_iconst dX9_partsOf_0 zic_1 ?_
    refine zj_aload_n dX9_partsOf_1 rfl ?_
    refine zj_getI dX9_partsOf_2 fl_X9_405 rfl h_o0 ?_
    refine zj_ishl dX9_partsOf_5 ?_
    refine zj_iconst dX9_partsOf_6 zic_1 ?_
    refine zj_isub dX9_partsOf_7 ?_
    refine zj_istore_n (lv' := [some (.ref (zb w + o0)), some (.int (((1 : Int32) <<< ((zI s o0 49) &&& 31)) - 1)), none, none, none, none, none]) dX9_partsOf_8 rfl (by decide) rfl rfl ?_
    refine zj_iconst dX9_partsOf_9 zic_0 ?_
    refine zj_istore_n (lv' := [some (.ref (zb w + o0)), some (.int (((1 : Int32) <<< ((zI s o0 49) &&& 31)) - 1)), some (.int 0), none, none, none, none]) dX9_partsOf_10 rfl (by decide) rfl rfl ?_
    exact jl_X9_partsOf_11 hr h_o0 zFuel _ _ _) hm
