def m_X0_clear (o0 : Nat) (s : zSt) : Option (zSt) :=
  zlt (zsI s o0 0 0) (fun s1 => zlt (zsI s1 o0 1 0) (fun s2 => zlt (zsI s2 o0 6 0) (fun s3 => zlt (zsI s3 o0 7 0) (fun s4 => some s4))))
set_option maxRecDepth 100000 in
theorem c_X0_clear {w : zWC} {o0 : Nat} {s : zSt} (h_o0 : zC o0 = 0) {a : zSt} (hm : m_X0_clear o0 s = some a) : zCn w 0 yX0_clear cX0_clear 1 none [.ref (zb w + o0)] s (zeV a).1 (zeV a).2 :=
  zCn_of (own := RX0) (lv := [some (.ref (zb w + o0))]) (by decide +kernel) rfl (Nat.le_of_ble_eq_true rfl) rfl (fun x hr => by
    unfold m_X0_clear
    refine zj_aload_n dX0_clear_0 rfl ?_
    refine zj_iconst dX0_clear_1 zic_0 ?_
    refine zj_putI dX0_clear_2 fl_X0_9 rfl h_o0 pd_0_0 rfl rfl (fun s1 => ?_)
    refine zj_aload_n dX0_clear_5 rfl ?_
    refine zj_iconst dX0_clear_6 zic_0 ?_
    refine zj_putI dX0_clear_7 fl_X0_15 rfl h_o0 pd_0_1 rfl rfl (fun s2 => ?_)
    refine zj_aload_n dX0_clear_10 rfl ?_
    refine zj_iconst dX0_clear_11 zic_0 ?_
    refine zj_putI dX0_clear_12 fl_X0_33 rfl h_o0 pd_0_6 rfl rfl (fun s3 => ?_)
    refine zj_aload_n dX0_clear_15 rfl ?_
    refine zj_iconst dX0_clear_16 zic_0 ?_
    refine zj_putI dX0_clear_17 fl_X0_36 rfl h_o0 pd_0_7 rfl rfl (fun s4 => ?_)
    exact zj_vret hr dX0_clear_20) hm
def m_X3_isSign (o0 : Nat) (p1 : Int32) (s : zSt) : Option (Int32 × zSt) :=
  (if p1 = 40 then
  (if zI s o0 2 = 0 ∨ zI s o0 2 = 1 then some (zI s o0 2, s) else none)
  else
  (if p1 = 41 then
    (if zI s o0 2 = 0 ∨ zI s o0 2 = 1 then some (zI s o0 2, s) else none)
    else
    (if p1 = 42 then
      (if zI s o0 2 = 0 ∨ zI s o0 2 = 1 then some (zI s o0 2, s) else none)
      else
      (if p1 = 43 then
        (if zI s o0 2 = 0 ∨ zI s o0 2 = 1 then some (zI s o0 2, s) else none)
        else
        (if p1 = 45 then
          some (1, s)
          else
          (if p1 = 47 then
            (if zI s o0 2 = 0 ∨ zI s o0 2 = 1 then some (zI s o0 2, s) else none)
            else
            (if p1 = 59 then
              some (1, s)
              else
              some (0, s))))))))
set_option maxRecDepth 100000 in
theorem c_X3_isSign {w : zWC} {o0 : Nat} {p1 : Int32} {s : zSt} (h_o0 : zC o0 = 3) {a : Int32 × zSt} (hm : m_X3_isSign o0 p1 s = some a) : zCn w 0 yX3_isSign cX3_isSign 2 (some .boolean) [.ref (zb w + o0), .int p1] s (zeI a).1 (zeI a).2 :=
  zCn_of (own := RX3) (lv := [some (.ref (zb w + o0)), some (.int p1)]) (by decide +kernel) rfl (Nat.le_of_ble_eq_true rfl) rfl (fun x hr => by
    unfold m_X3_isSign
    refine zj_iload_n dX3_isSign_0 rfl ?_
    refine zj_split (fun hs1 => ?_) (fun hs1 => ?_)
    · refine zj_tsE (u := 40) (tgt := 98) hs1 dX3_isSign_1 (by decide) (by decide) rfl (by decide) ?_
      refine zj_aload_n dX3_isSign_98 rfl ?_
      refine zj_getI dX3_isSign_99 fl_X3_40 rfl h_o0 ?_
      exact zj_zretG hr dX3_isSign_102
    · refine zj_split (fun hs2 => ?_) (fun hs2 => ?_)
      · refine zj_tsE (u := 41) (tgt := 98) hs2 dX3_isSign_1 (by decide) (by decide) rfl (by decide) ?_
        refine zj_aload_n dX3_isSign_98 rfl ?_
        refine zj_getI dX3_isSign_99 fl_X3_40 rfl h_o0 ?_
        exact zj_zretG hr dX3_isSign_102
      · refine zj_split (fun hs3 => ?_) (fun hs3 => ?_)
        · refine zj_tsE (u := 42) (tgt := 98) hs3 dX3_isSign_1 (by decide) (by decide) rfl (by decide) ?_
          refine zj_aload_n dX3_isSign_98 rfl ?_
          refine zj_getI dX3_isSign_99 fl_X3_40 rfl h_o0 ?_
          exact zj_zretG hr dX3_isSign_102
        · refine zj_split (fun hs4 => ?_) (fun hs4 => ?_)
          · refine zj_tsE (u := 43) (tgt := 98) hs4 dX3_isSign_1 (by decide) (by decide) rfl (by decide) ?_
            refine zj_aload_n dX3_isSign_98 rfl ?_
            refine zj_getI dX3_isSign_99 fl_X3_40 rfl h_o0 ?_
            exact zj_zretG hr dX3_isSign_102
          · refine zj_split (fun hs5 => ?_) (fun hs5 => ?_)
            · refine zj_tsE (u := 45) (tgt := 96) hs5 dX3_isSign_1 (by decide) (by decide) rfl (by decide) ?_
              refine zj_iconst dX3_isSign_96 zic_1 ?_
              exact zj_zret hr rfl dX3_isSign_97
            · refine zj_split (fun hs6 => ?_) (fun hs6 => ?_)
              · refine zj_tsE (u := 47) (tgt := 98) hs6 dX3_isSign_1 (by decide) (by decide) rfl (by decide) ?_
                refine zj_aload_n dX3_isSign_98 rfl ?_
                refine zj_getI dX3_isSign_99 fl_X3_40 rfl h_o0 ?_
                exact zj_zretG hr dX3_isSign_102
              · refine zj_split (fun hs7 => ?_) (fun hs7 => ?_)
                · refine zj_tsE (u := 59) (tgt := 96) hs7 dX3_isSign_1 (by decide) (by decide) rfl (by decide) ?_
                  refine zj_iconst dX3_isSign_96 zic_1 ?_
                  exact zj_zret hr rfl dX3_isSign_97
                · refine zj_tsDef (vs := [40, 41, 42, 43, 45, 47, 59]) (tgt := 103) dX3_isSign_1 (by decide) (by decide +kernel) (by decide) (by
                    intro u hu
                    simp only [List.mem_cons, List.not_mem_nil, or_false] at hu
                    rcases hu with rfl | rfl | rfl | rfl | rfl | rfl | rfl
                    · exact hs1
                    · exact hs2
                    · exact hs3
                    · exact hs4
                    · exact hs5
                    · exact hs6
                    · exact hs7
                    ) ?_
                  refine zj_iconst dX3_isSign_103 zic_0 ?_
                  exact zj_zret hr rfl dX3_isSign_104) hm
def bd_X3_readNumber_2 (o0 : Nat) (rec2 : Int32 → zSt → Option (zSt)) (k84 : Int32 → zSt → Option (zSt)) (l1 : Int32) (s : zSt) : Option (zSt) :=
  (if zI s o0 3 < zI s (zT o0 0) 1 then
  (if zI s o0 3 < 0 ∨ zN (zT (zT o0 0) 0) ≤ Int32.toNatClampNeg (zI s o0 3) then none else (if zI s (zT (zT o0 0) 0) (Int32.toNatClampNeg (zI s o0 3)) < 48 then
    k84 l1 s
    else
    (if zI s o0 3 < 0 ∨ zN (zT (zT o0 0) 0) ≤ Int32.toNatClampNeg (zI s o0 3) then none else (if 57 < zI s (zT (zT o0 0) 0) (Int32.toNatClampNeg (zI s o0 3)) then
      k84 l1 s
      else
      (if zI s o0 3 < 0 ∨ zN (zT (zT o0 0) 0) ≤ Int32.toNatClampNeg (zI s o0 3) then none else zlt (zsI s o0 3 ((zI s o0 3) + 1)) (fun s1 => rec2 ((l1 * 10) + ((zI s (zT (zT o0 0) 0) (Int32.toNatClampNeg (zI s o0 3))) - 48)) s1))))))
  else
  k84 l1 s)
def lp_X3_readNumber_2 (o0 : Nat) (k84 : Int32 → zSt → Option (zSt)) : Nat → Int32 → zSt → Option (zSt)
  | 0, _, _ => none
  | n + 1, l1, s => bd_X3_readNumber_2 o0 (fun l1 s => lp_X3_readNumber_2 o0 k84 n l1 s) k84 l1 s
set_option maxRecDepth 100000 in
theorem jb_X3_readNumber_2 {o0 : Nat} {rec2 : Int32 → zSt → Option (zSt)} {k84 : Int32 → zSt → Option (zSt)} {l1 : Int32} {s : zSt} {w : zWC} {x : zCX} (hr : zrt x = none)  (h_o0 : zC o0 = 3) (h_rec2 : ∀ (l1 : Int32) (s : zSt), zJ (zQf w x zeV) w x RX3 cX3_readNumber 3 0 (rec2 l1 s) 2 [some (.ref (zb w + o0)), some (.int l1), none] [] s) (h_k84 : ∀ (l1 : Int32) (s : zSt), zJ (zQf w x zeV) w x RX3 cX3_readNumber 3 0 (k84 l1 s) 84 [some (.ref (zb w + o0)), some (.int l1), none] [] s) : zJ (zQf w x zeV) w x RX3 cX3_readNumber 3 0 (bd_X3_readNumber_2 o0 rec2 k84 l1 s) 2 [some (.ref (zb w + o0)), some (.int l1), none] [] s := by
  unfold bd_X3_readNumber_2
  refine zj_aload_n dX3_readNumber_2 rfl ?_
  refine zj_getI dX3_readNumber_3 fl_X3_44 rfl h_o0 ?_
  refine zj_aload_n dX3_readNumber_6 rfl ?_
  refine zj_getT dX3_readNumber_7 fl_X3_9 rfl h_o0 ?_
  refine zj_getI dX3_readNumber_10 fl_X3_50 rfl (zt_3_0 _ h_o0) ?_
  refine zj_icmp_ge (tgt := 84) dX3_readNumber_13 (by decide) ?_ ?_
  · refine zj_aload_n dX3_readNumber_16 rfl ?_
    refine zj_getT dX3_readNumber_17 fl_X3_9 rfl h_o0 ?_
    refine zj_getT dX3_readNumber_20 fl_X3_54 rfl (zt_3_0 _ h_o0) ?_
    refine zj_aload_n dX3_readNumber_23 rfl ?_
    refine zj_getI dX3_readNumber_24 fl_X3_44 rfl h_o0 ?_
    refine zj_bald dX3_readNumber_27 (zt_7_0 _ (zt_3_0 _ h_o0)) ?_
    refine zj_bipush dX3_readNumber_28 zbi_48 ?_
    refine zj_icmp_lt (tgt := 84) dX3_readNumber_30 (by decide) ?_ ?_
    · exact h_k84 _ _
    · refine zj_aload_n dX3_readNumber_33 rfl ?_
      refine zj_getT dX3_readNumber_34 fl_X3_9 rfl h_o0 ?_
      refine zj_getT dX3_readNumber_37 fl_X3_54 rfl (zt_3_0 _ h_o0) ?_
      refine zj_aload_n dX3_readNumber_40 rfl ?_
      refine zj_getI dX3_readNumber_41 fl_X3_44 rfl h_o0 ?_
      refine zj_bald dX3_readNumber_44 (zt_7_0 _ (zt_3_0 _ h_o0)) ?_
      refine zj_bipush dX3_readNumber_45 zbi_57 ?_
      refine zj_icmp_gt (tgt := 84) dX3_readNumber_47 (by decide) ?_ ?_
      · exact h_k84 _ _
      · refine zj_iload_n dX3_readNumber_50 rfl ?_
        refine zj_bipush dX3_readNumber_51 zbi_10 ?_
        refine zj_imul dX3_readNumber_53 ?_
        refine zj_aload_n dX3_readNumber_54 rfl ?_
        refine zj_getT dX3_readNumber_55 fl_X3_9 rfl h_o0 ?_
        refine zj_getT dX3_readNumber_58 fl_X3_54 rfl (zt_3_0 _ h_o0) ?_
        refine zj_aload_n dX3_readNumber_61 rfl ?_
        refine zj_getI dX3_readNumber_62 fl_X3_44 rfl h_o0 ?_
        refine zj_bald dX3_readNumber_65 (zt_7_0 _ (zt_3_0 _ h_o0)) ?_
        refine zj_bipush dX3_readNumber_66 zbi_48 ?_
        refine zj_isub dX3_readNumber_68 ?_
        refine zj_iadd dX3_readNumber_69 ?_
        refine zj_istore_n (lv' := [some (.ref (zb w + o0)), some (.int ((l1 * 10) + ((zI s (zT (zT o0 0) 0) (Int32.toNatClampNeg (zI s o0 3))) - 48))), none]) dX3_readNumber_70 rfl (by decide) rfl rfl ?_
        refine zj_aload_n dX3_readNumber_71 rfl ?_
        refine zj_dup dX3_readNumber_72 rfl ?_
        refine zj_getI dX3_readNumber_73 fl_X3_44 rfl h_o0 ?_
        refine zj_iconst dX3_readNumber_76 zic_1 ?_
        refine zj_iadd dX3_readNumber_77 ?_
        refine zj_putI dX3_readNumber_78 fl_X3_44 rfl h_o0 pd_3_3 rfl rfl (fun s1 => ?_)
        refine zj_goto (tgt := 2) dX3_readNumber_81 (by decide) ?_
        exact h_rec2 _ _
  · exact h_k84 _ _
set_option maxRecDepth 100000 in
theorem jl_X3_readNumber_2 {o0 : Nat} {k84 : Int32 → zSt → Option (zSt)} {w : zWC} {x : zCX} (hr : zrt x = none)  (h_o0 : zC o0 = 3) (h_k84 : ∀ (l1 : Int32) (s : zSt), zJ (zQf w x zeV) w x RX3 cX3_readNumber 3 0 (k84 l1 s) 84 [some (.ref (zb w + o0)), some (.int l1), none] [] s) : ∀ (n : Nat) (l1 : Int32) (s : zSt), zJ (zQf w x zeV) w x RX3 cX3_readNumber 3 0 (lp_X3_readNumber_2 o0 k84 n l1 s) 2 [some (.ref (zb w + o0)), some (.int l1), none] [] s := by
  intro n
  induction n with
  | zero => intro l1 s; exact zj_none
  | succ n ih => intro l1 s; exact jb_X3_readNumber_2 hr h_o0 (fun l1 s => ih l1 s) h_k84
def m_X3_readNumber_161 (o0 : Nat) (t0 : Nat) (s : zSt) : Option (zSt) :=
  zlt (zsI s t0 4 1) (fun s4 => some s4)
set_option maxRecDepth 100000 in
theorem j_X3_readNumber_161 {o0 : Nat} {t0 : Nat} {s : zSt} {w : zWC} {x : zCX} (hr : zrt x = none)  (h_o0 : zC o0 = 3) (ht0 : zC t0 = 3) : zJ (zQf w x zeV) w x RX3 cX3_readNumber 3 0 (m_X3_readNumber_161 o0 t0 s) 161 [none, none, none] [.ref (zb w + t0)] s := by
  unfold m_X3_readNumber_161
  refine zj_iconst dX3_readNumber_161 zic_1 ?_
  refine zj_goto (tgt := 166) dX3_readNumber_162 (by decide) ?_
  refine zj_putI dX3_readNumber_166 fl_X3_61 rfl ht0 pd_3_4 rfl rfl (fun s4 => ?_)
  exact zj_vret hr dX3_readNumber_169
def m_X3_readNumber_137 (o0 : Nat) (l1 : Int32) (t0 : Int32) (s : zSt) : Option (zSt) :=
  zlt (zsI s o0 6 l1) (fun s3 => (if t0 = 0 then
  (if 4 < (zI s3 o0 3) - (zI s3 o0 5) then
    m_X3_readNumber_161 o0 o0 s3
    else
    zlt (zsI s3 o0 4 3) (fun s5 => some s5))
  else
  m_X3_readNumber_161 o0 o0 s3))
set_option maxRecDepth 100000 in
theorem j_X3_readNumber_137 {o0 : Nat} {l1 : Int32} {t0 : Int32} {s : zSt} {w : zWC} {x : zCX} (hr : zrt x = none)  (h_o0 : zC o0 = 3) : zJ (zQf w x zeV) w x RX3 cX3_readNumber 3 0 (m_X3_readNumber_137 o0 l1 t0 s) 137 [some (.ref (zb w + o0)), some (.int l1), none] [.int t0] s := by
  unfold m_X3_readNumber_137
  refine zj_istore_n (lv' := [some (.ref (zb w + o0)), some (.int l1), some (.int t0)]) dX3_readNumber_137 rfl (by decide) rfl rfl ?_
  refine zj_aload_n dX3_readNumber_138 rfl ?_
  refine zj_iload_n dX3_readNumber_139 rfl ?_
  refine zj_putI dX3_readNumber_140 fl_X3_78 rfl h_o0 pd_3_6 rfl rfl (fun s3 => ?_)
  refine zj_aload_n dX3_readNumber_143 rfl ?_
  refine zj_iload_n dX3_readNumber_144 rfl ?_
  refine zj_if_ne (tgt := 161) dX3_readNumber_145 (by decide) ?_ ?_
  · refine zj_aload_n dX3_readNumber_148 rfl ?_
    refine zj_getI dX3_readNumber_149 fl_X3_44 rfl h_o0 ?_
    refine zj_aload_n dX3_readNumber_152 rfl ?_
    refine zj_getI dX3_readNumber_153 fl_X3_58 rfl h_o0 ?_
    refine zj_isub dX3_readNumber_156 ?_
    refine zj_iconst dX3_readNumber_157 zic_4 ?_
    refine zj_icmp_le (tgt := 165) dX3_readNumber_158 (by decide) ?_ ?_
    · refine zj_weak [false, false, false] rfl ?_
      exact j_X3_readNumber_161 hr h_o0 h_o0
    · refine zj_iconst dX3_readNumber_165 zic_3 ?_
      refine zj_putI dX3_readNumber_166 fl_X3_61 rfl h_o0 pd_3_4 rfl rfl (fun s5 => ?_)
      exact zj_vret hr dX3_readNumber_169
  · refine zj_weak [false, false, false] rfl ?_
    exact j_X3_readNumber_161 hr h_o0 h_o0
def m_X3_readNumber_136 (o0 : Nat) (l1 : Int32) (s : zSt) : Option (zSt) :=
  m_X3_readNumber_137 o0 l1 0 s
set_option maxRecDepth 100000 in
theorem j_X3_readNumber_136 {o0 : Nat} {l1 : Int32} {s : zSt} {w : zWC} {x : zCX} (hr : zrt x = none)  (h_o0 : zC o0 = 3) : zJ (zQf w x zeV) w x RX3 cX3_readNumber 3 0 (m_X3_readNumber_136 o0 l1 s) 136 [some (.ref (zb w + o0)), some (.int l1), none] [] s := by
  unfold m_X3_readNumber_136
  refine zj_iconst dX3_readNumber_136 zic_0 ?_
  exact j_X3_readNumber_137 hr h_o0
def m_X3_readNumber_84 (o0 : Nat) (l1 : Int32) (s : zSt) : Option (zSt) :=
  (if zI s o0 3 < zI s (zT o0 0) 1 then
  (if zI s o0 3 < 0 ∨ zN (zT (zT o0 0) 0) ≤ Int32.toNatClampNeg (zI s o0 3) then none else (if zI s (zT (zT o0 0) 0) (Int32.toNatClampNeg (zI s o0 3)) < 97 then
    m_X3_readNumber_136 o0 l1 s
    else
    (if zI s o0 3 < 0 ∨ zN (zT (zT o0 0) 0) ≤ Int32.toNatClampNeg (zI s o0 3) then none else (if 122 < zI s (zT (zT o0 0) 0) (Int32.toNatClampNeg (zI s o0 3)) then
      m_X3_readNumber_136 o0 l1 s
      else
      m_X3_readNumber_137 o0 l1 1 s))))
  else
  m_X3_readNumber_136 o0 l1 s)
set_option maxRecDepth 100000 in
theorem j_X3_readNumber_84 {o0 : Nat} {l1 : Int32} {s : zSt} {w : zWC} {x : zCX} (hr : zrt x = none)  (h_o0 : zC o0 = 3) : zJ (zQf w x zeV) w x RX3 cX3_readNumber 3 0 (m_X3_readNumber_84 o0 l1 s) 84 [some (.ref (zb w + o0)), some (.int l1), none] [] s := by
  unfold m_X3_readNumber_84
  refine zj_aload_n dX3_readNumber_84 rfl ?_
  refine zj_getI dX3_readNumber_85 fl_X3_44 rfl h_o0 ?_
  refine zj_aload_n dX3_readNumber_88 rfl ?_
  refine zj_getT dX3_readNumber_89 fl_X3_9 rfl h_o0 ?_
  refine zj_getI dX3_readNumber_92 fl_X3_50 rfl (zt_3_0 _ h_o0) ?_
  refine zj_icmp_ge (tgt := 136) dX3_readNumber_95 (by decide) ?_ ?_
  · refine zj_aload_n dX3_readNumber_98 rfl ?_
    refine zj_getT dX3_readNumber_99 fl_X3_9 rfl h_o0 ?_
    refine zj_getT dX3_readNumber_102 fl_X3_54 rfl (zt_3_0 _ h_o0) ?_
    refine zj_aload_n dX3_readNumber_105 rfl ?_
    refine zj_getI dX3_readNumber_106 fl_X3_44 rfl h_o0 ?_
    refine zj_bald dX3_readNumber_109 (zt_7_0 _ (zt_3_0 _ h_o0)) ?_
    refine zj_bipush dX3_readNumber_110 zbi_97 ?_
    refine zj_icmp_lt (tgt := 136) dX3_readNumber_112 (by decide) ?_ ?_
    · exact j_X3_readNumber_136 hr h_o0
    · refine zj_aload_n dX3_readNumber_115 rfl ?_
      refine zj_getT dX3_readNumber_116 fl_X3_9 rfl h_o0 ?_
      refine zj_getT dX3_readNumber_119 fl_X3_54 rfl (zt_3_0 _ h_o0) ?_
      refine zj_aload_n dX3_readNumber_122 rfl ?_
      refine zj_getI dX3_readNumber_123 fl_X3_44 rfl h_o0 ?_
      refine zj_bald dX3_readNumber_126 (zt_7_0 _ (zt_3_0 _ h_o0)) ?_
      refine zj_bipush dX3_readNumber_127 zbi_122 ?_
      refine zj_icmp_gt (tgt := 136) dX3_readNumber_129 (by decide) ?_ ?_
      · exact j_X3_readNumber_136 hr h_o0
      · refine zj_iconst dX3_readNumber_132 zic_1 ?_
        refine zj_goto (tgt := 137) dX3_readNumber_133 (by decide) ?_
        exact j_X3_readNumber_137 hr h_o0
  · exact j_X3_readNumber_136 hr h_o0
def m_X3_readNumber (o0 : Nat) (s : zSt) : Option (zSt) :=
  lp_X3_readNumber_2 o0 (fun l1_2 s_2 => m_X3_readNumber_84 o0 l1_2 s_2) zFuel 0 s
set_option maxRecDepth 100000 in
theorem c_X3_readNumber {w : zWC} {o0 : Nat} {s : zSt} (h_o0 : zC o0 = 3) {a : zSt} (hm : m_X3_readNumber o0 s = some a) : zCn w 0 yX3_readNumber cX3_readNumber 3 none [.ref (zb w + o0)] s (zeV a).1 (zeV a).2 :=
  zCn_of (own := RX3) (lv := [some (.ref (zb w + o0)), none, none]) (by decide +kernel) rfl (Nat.le_of_ble_eq_true rfl) rfl (fun x hr => by
    unfold m_X3_readNumber
    refine zj_iconst dX3_readNumber_0 zic_0 ?_
    refine zj_istore_n (lv' := [some (.ref (zb w + o0)), some (.int 0), none]) dX3_readNumber_1 rfl (by decide) rfl rfl ?_
    refine jl_X3_readNumber_2 hr h_o0 (fun l1_2 s_2 => ?_) zFuel _ _
    exact j_X3_readNumber_84 hr h_o0) hm
def bd_X3_readWord_2 (o0 : Nat) (rec2 : Int64 → zSt → Option (zSt)) (k88 : Int64 → zSt → Option (zSt)) (l1 : Int64) (s : zSt) : Option (zSt) :=
  (if zI s o0 3 < zI s (zT o0 0) 1 then
  (if zI s o0 3 < 0 ∨ zN (zT (zT o0 0) 0) ≤ Int32.toNatClampNeg (zI s o0 3) then none else (if zI s (zT (zT o0 0) 0) (Int32.toNatClampNeg (zI s o0 3)) < 97 then
    k88 l1 s
    else
    (if zI s o0 3 < 0 ∨ zN (zT (zT o0 0) 0) ≤ Int32.toNatClampNeg (zI s o0 3) then none else (if 122 < zI s (zT (zT o0 0) 0) (Int32.toNatClampNeg (zI s o0 3)) then
      k88 l1 s
      else
      (if zI s o0 3 < 0 ∨ zN (zT (zT o0 0) 0) ≤ Int32.toNatClampNeg (zI s o0 3) then none else zlt (zsI s o0 3 ((zI s o0 3) + 1)) (fun s1 => rec2 ((l1 * 27) + ((((zI s (zT (zT o0 0) 0) (Int32.toNatClampNeg (zI s o0 3))) - 97) + 1).toInt64)) s1))))))
  else
  k88 l1 s)
def lp_X3_readWord_2 (o0 : Nat) (k88 : Int64 → zSt → Option (zSt)) : Nat → Int64 → zSt → Option (zSt)
  | 0, _, _ => none
  | n + 1, l1, s => bd_X3_readWord_2 o0 (fun l1 s => lp_X3_readWord_2 o0 k88 n l1 s) k88 l1 s
set_option maxRecDepth 100000 in
theorem jb_X3_readWord_2 {o0 : Nat} {rec2 : Int64 → zSt → Option (zSt)} {k88 : Int64 → zSt → Option (zSt)} {l1 : Int64} {s : zSt} {w : zWC} {x : zCX} (hr : zrt x = none)  (h_o0 : zC o0 = 3) (h_rec2 : ∀ (l1 : Int64) (s : zSt), zJ (zQf w x zeV) w x RX3 cX3_readWord 4 0 (rec2 l1 s) 2 [some (.ref (zb w + o0)), some (.long l1), none, none] [] s) (h_k88 : ∀ (l1 : Int64) (s : zSt), zJ (zQf w x zeV) w x RX3 cX3_readWord 4 0 (k88 l1 s) 88 [some (.ref (zb w + o0)), some (.long l1), none, none] [] s) : zJ (zQf w x zeV) w x RX3 cX3_readWord 4 0 (bd_X3_readWord_2 o0 rec2 k88 l1 s) 2 [some (.ref (zb w + o0)), some (.long l1), none, none] [] s := by
  unfold bd_X3_readWord_2
  refine zj_aload_n dX3_readWord_2 rfl ?_
  refine zj_getI dX3_readWord_3 fl_X3_44 rfl h_o0 ?_
  refine zj_aload_n dX3_readWord_6 rfl ?_
  refine zj_getT dX3_readWord_7 fl_X3_9 rfl h_o0 ?_
  refine zj_getI dX3_readWord_10 fl_X3_50 rfl (zt_3_0 _ h_o0) ?_
  refine zj_icmp_ge (tgt := 88) dX3_readWord_13 (by decide) ?_ ?_
  · refine zj_aload_n dX3_readWord_16 rfl ?_
    refine zj_getT dX3_readWord_17 fl_X3_9 rfl h_o0 ?_
    refine zj_getT dX3_readWord_20 fl_X3_54 rfl (zt_3_0 _ h_o0) ?_
    refine zj_aload_n dX3_readWord_23 rfl ?_
    refine zj_getI dX3_readWord_24 fl_X3_44 rfl h_o0 ?_
    refine zj_bald dX3_readWord_27 (zt_7_0 _ (zt_3_0 _ h_o0)) ?_
    refine zj_bipush dX3_readWord_28 zbi_97 ?_
    refine zj_icmp_lt (tgt := 88) dX3_readWord_30 (by decide) ?_ ?_
    · exact h_k88 _ _
    · refine zj_aload_n dX3_readWord_33 rfl ?_
      refine zj_getT dX3_readWord_34 fl_X3_9 rfl h_o0 ?_
      refine zj_getT dX3_readWord_37 fl_X3_54 rfl (zt_3_0 _ h_o0) ?_
      refine zj_aload_n dX3_readWord_40 rfl ?_
      refine zj_getI dX3_readWord_41 fl_X3_44 rfl h_o0 ?_
      refine zj_bald dX3_readWord_44 (zt_7_0 _ (zt_3_0 _ h_o0)) ?_
      refine zj_bipush dX3_readWord_45 zbi_122 ?_
      refine zj_icmp_gt (tgt := 88) dX3_readWord_47 (by decide) ?_ ?_
      · exact h_k88 _ _
      · refine zj_lload_n dX3_readWord_50 rfl ?_
        refine zj_ldc2 dX3_readWord_51 kcL_X3_38 ?_
        refine zj_lmul dX3_readWord_54 ?_
        refine zj_aload_n dX3_readWord_55 rfl ?_
        refine zj_getT dX3_readWord_56 fl_X3_9 rfl h_o0 ?_
        refine zj_getT dX3_readWord_59 fl_X3_54 rfl (zt_3_0 _ h_o0) ?_
        refine zj_aload_n dX3_readWord_62 rfl ?_
        refine zj_getI dX3_readWord_63 fl_X3_44 rfl h_o0 ?_
        refine zj_bald dX3_readWord_66 (zt_7_0 _ (zt_3_0 _ h_o0)) ?_
        refine zj_bipush dX3_readWord_67 zbi_97 ?_
        refine zj_isub dX3_readWord_69 ?_
        refine zj_iconst dX3_readWord_70 zic_1 ?_
        refine zj_iadd dX3_readWord_71 ?_
        refine zj_i2l dX3_readWord_72 ?_
        refine zj_ladd dX3_readWord_73 ?_
        refine zj_lstore_n (lv' := [some (.ref (zb w + o0)), some (.long ((l1 * 27) + ((((zI s (zT (zT o0 0) 0) (Int32.toNatClampNeg (zI s o0 3))) - 97) + 1).toInt64))), none, none]) dX3_readWord_74 rfl (by decide) rfl rfl ?_
        refine zj_aload_n dX3_readWord_75 rfl ?_
        refine zj_dup dX3_readWord_76 rfl ?_
        refine zj_getI dX3_readWord_77 fl_X3_44 rfl h_o0 ?_
        refine zj_iconst dX3_readWord_80 zic_1 ?_
        refine zj_iadd dX3_readWord_81 ?_
        refine zj_putI dX3_readWord_82 fl_X3_44 rfl h_o0 pd_3_3 rfl rfl (fun s1 => ?_)
        refine zj_goto (tgt := 2) dX3_readWord_85 (by decide) ?_
        exact h_rec2 _ _
  · exact h_k88 _ _
set_option maxRecDepth 100000 in
theorem jl_X3_readWord_2 {o0 : Nat} {k88 : Int64 → zSt → Option (zSt)} {w : zWC} {x : zCX} (hr : zrt x = none)  (h_o0 : zC o0 = 3) (h_k88 : ∀ (l1 : Int64) (s : zSt), zJ (zQf w x zeV) w x RX3 cX3_readWord 4 0 (k88 l1 s) 88 [some (.ref (zb w + o0)), some (.long l1), none, none] [] s) : ∀ (n : Nat) (l1 : Int64) (s : zSt), zJ (zQf w x zeV) w x RX3 cX3_readWord 4 0 (lp_X3_readWord_2 o0 k88 n l1 s) 2 [some (.ref (zb w + o0)), some (.long l1), none, none] [] s := by
  intro n
  induction n with
  | zero => intro l1 s; exact zj_none
  | succ n ih => intro l1 s; exact jb_X3_readWord_2 hr h_o0 (fun l1 s => ih l1 s) h_k88
def m_X3_readWord_146 (o0 : Nat) (rec120 : Int64 → Int32 → zSt → Option (zSt)) (l1 : Int64) (l3 : Int32) (s : zSt) : Option (zSt) :=
  rec120 l1 (l3 + 1) s
set_option maxRecDepth 100000 in
theorem j_X3_readWord_146 {o0 : Nat} {rec120 : Int64 → Int32 → zSt → Option (zSt)} {l1 : Int64} {l3 : Int32} {s : zSt} {w : zWC} {x : zCX} (hr : zrt x = none)  (h_o0 : zC o0 = 3) (h_rec120 : ∀ (l1 : Int64) (l3 : Int32) (s : zSt), zJ (zQf w x zeV) w x RX3 cX3_readWord 4 0 (rec120 l1 l3 s) 120 [some (.ref (zb w + o0)), some (.long l1), none, some (.int l3)] [] s) : zJ (zQf w x zeV) w x RX3 cX3_readWord 4 0 (m_X3_readWord_146 o0 rec120 l1 l3 s) 146 [some (.ref (zb w + o0)), some (.long l1), none, some (.int l3)] [] s := by
  unfold m_X3_readWord_146
  refine zj_iinc (v2 := l3 + 1) (lv' := [some (.ref (zb w + o0)), some (.long l1), none, some (.int (l3 + 1))]) dX3_readWord_146 rfl (by rw [zic_1]) (by decide) rfl rfl ?_
  refine zj_goto (tgt := 120) dX3_readWord_149 (by decide) ?_
  exact h_rec120 _ _ _
def bd_X3_readWord_120 (o0 : Nat) (rec120 : Int64 → Int32 → zSt → Option (zSt)) (l1 : Int64) (l3 : Int32) (s : zSt) : Option (zSt) :=
  (if l3 < 20 then
  (if l3 < 0 ∨ zN (zT o0 1) ≤ Int32.toNatClampNeg l3 then none else (if zL s (zT o0 1) (Int32.toNatClampNeg l3) = l1 then
    zlt (zsI s o0 4 ((256 : Int32) + l3)) (fun s6 => m_X3_readWord_146 o0 rec120 l1 l3 s6)
    else
    m_X3_readWord_146 o0 rec120 l1 l3 s))
  else
  some s)
def lp_X3_readWord_120 (o0 : Nat) : Nat → Int64 → Int32 → zSt → Option (zSt)
  | 0, _, _, _ => none
  | n + 1, l1, l3, s => bd_X3_readWord_120 o0 (fun l1 l3 s => lp_X3_readWord_120 o0 n l1 l3 s) l1 l3 s
set_option maxRecDepth 100000 in
theorem jb_X3_readWord_120 {o0 : Nat} {rec120 : Int64 → Int32 → zSt → Option (zSt)} {l1 : Int64} {l3 : Int32} {s : zSt} {w : zWC} {x : zCX} (hr : zrt x = none)  (h_o0 : zC o0 = 3) (h_rec120 : ∀ (l1 : Int64) (l3 : Int32) (s : zSt), zJ (zQf w x zeV) w x RX3 cX3_readWord 4 0 (rec120 l1 l3 s) 120 [some (.ref (zb w + o0)), some (.long l1), none, some (.int l3)] [] s) : zJ (zQf w x zeV) w x RX3 cX3_readWord 4 0 (bd_X3_readWord_120 o0 rec120 l1 l3 s) 120 [some (.ref (zb w + o0)), some (.long l1), none, some (.int l3)] [] s := by
  unfold bd_X3_readWord_120
  refine zj_iload_n dX3_readWord_120 rfl ?_
  refine zj_bipush dX3_readWord_121 zbi_20 ?_
  refine zj_icmp_ge (tgt := 152) dX3_readWord_123 (by decide) ?_ ?_
  · refine zj_aload_n dX3_readWord_126 rfl ?_
    refine zj_getT dX3_readWord_127 fl_X3_15 rfl h_o0 ?_
    refine zj_iload_n dX3_readWord_130 rfl ?_
    refine zj_lald dX3_readWord_131 (zt_3_1 _ h_o0) ?_
    refine zj_lload_n dX3_readWord_132 rfl ?_
    refine zj_lcmp_ne (tgt := 146) dX3_readWord_133 dX3_readWord_134 (by decide) ?_ ?_
    · refine zj_aload_n dX3_readWord_137 rfl ?_
      refine zj_sipush dX3_readWord_138 zsi_256 ?_
      refine zj_iload_n dX3_readWord_141 rfl ?_
      refine zj_iadd dX3_readWord_142 ?_
      refine zj_putI dX3_readWord_143 fl_X3_61 rfl h_o0 pd_3_4 rfl rfl (fun s6 => ?_)
      exact j_X3_readWord_146 hr h_o0 h_rec120
    · exact j_X3_readWord_146 hr h_o0 h_rec120
  · exact zj_vret hr dX3_readWord_152
set_option maxRecDepth 100000 in
theorem jl_X3_readWord_120 {o0 : Nat} {w : zWC} {x : zCX} (hr : zrt x = none)  (h_o0 : zC o0 = 3) : ∀ (n : Nat) (l1 : Int64) (l3 : Int32) (s : zSt), zJ (zQf w x zeV) w x RX3 cX3_readWord 4 0 (lp_X3_readWord_120 o0 n l1 l3 s) 120 [some (.ref (zb w + o0)), some (.long l1), none, some (.int l3)] [] s := by
  intro n
  induction n with
  | zero => intro l1 l3 s; exact zj_none
  | succ n ih => intro l1 l3 s; exact jb_X3_readWord_120 hr h_o0 (fun l1 l3 s => ih l1 l3 s)
def m_X3_readWord_88 (o0 : Nat) (l1 : Int64) (s : zSt) : Option (zSt) :=
  (if 8 < (zI s o0 3) - (zI s o0 5) then
  zlt (zsI s o0 4 1) (fun s3 => some s3)
  else
  zlt (zsL s o0 7 l1) (fun s4 => zlt (zsI s4 o0 4 2) (fun s5 => lp_X3_readWord_120 o0 zFuel l1 0 s5)))
set_option maxRecDepth 100000 in
theorem j_X3_readWord_88 {o0 : Nat} {l1 : Int64} {s : zSt} {w : zWC} {x : zCX} (hr : zrt x = none)  (h_o0 : zC o0 = 3) : zJ (zQf w x zeV) w x RX3 cX3_readWord 4 0 (m_X3_readWord_88 o0 l1 s) 88 [some (.ref (zb w + o0)), some (.long l1), none, none] [] s := by
  unfold m_X3_readWord_88
  refine zj_aload_n dX3_readWord_88 rfl ?_
  refine zj_getI dX3_readWord_89 fl_X3_44 rfl h_o0 ?_
  refine zj_aload_n dX3_readWord_92 rfl ?_
  refine zj_getI dX3_readWord_93 fl_X3_58 rfl h_o0 ?_
  refine zj_isub dX3_readWord_96 ?_
  refine zj_bipush dX3_readWord_97 zbi_8 ?_
  refine zj_icmp_le (tgt := 108) dX3_readWord_99 (by decide) ?_ ?_
  · refine zj_aload_n dX3_readWord_102 rfl ?_
    refine zj_iconst dX3_readWord_103 zic_1 ?_
    refine zj_putI dX3_readWord_104 fl_X3_61 rfl h_o0 pd_3_4 rfl rfl (fun s3 => ?_)
    exact zj_vret hr dX3_readWord_107
  · refine zj_aload_n dX3_readWord_108 rfl ?_
    refine zj_lload_n dX3_readWord_109 rfl ?_
    refine zj_putL dX3_readWord_110 fl_X3_74 rfl h_o0 pd_3_7 rfl rfl (fun s4 => ?_)
    refine zj_aload_n dX3_readWord_113 rfl ?_
    refine zj_iconst dX3_readWord_114 zic_2 ?_
    refine zj_putI dX3_readWord_115 fl_X3_61 rfl h_o0 pd_3_4 rfl rfl (fun s5 => ?_)
    refine zj_iconst dX3_readWord_118 zic_0 ?_
    refine zj_istore_n (lv' := [some (.ref (zb w + o0)), some (.long l1), none, some (.int 0)]) dX3_readWord_119 rfl (by decide) rfl rfl ?_
    exact jl_X3_readWord_120 hr h_o0 zFuel _ _ _
def m_X3_readWord (o0 : Nat) (s : zSt) : Option (zSt) :=
  lp_X3_readWord_2 o0 (fun l1_2 s_2 => m_X3_readWord_88 o0 l1_2 s_2) zFuel 0 s
set_option maxRecDepth 100000 in
theorem c_X3_readWord {w : zWC} {o0 : Nat} {s : zSt} (h_o0 : zC o0 = 3) {a : zSt} (hm : m_X3_readWord o0 s = some a) : zCn w 0 yX3_readWord cX3_readWord 4 none [.ref (zb w + o0)] s (zeV a).1 (zeV a).2 :=
  zCn_of (own := RX3) (lv := [some (.ref (zb w + o0)), none, none, none]) (by decide +kernel) rfl (Nat.le_of_ble_eq_true rfl) rfl (fun x hr => by
    unfold m_X3_readWord
    refine zj_lconst (v := 0) dX3_readWord_0 rfl ?_
    refine zj_lstore_n (lv' := [some (.ref (zb w + o0)), some (.long 0), none, none]) dX3_readWord_1 rfl (by decide) rfl rfl ?_
    refine jl_X3_readWord_2 hr h_o0 (fun l1_2 s_2 => ?_) zFuel _ _
    exact j_X3_readWord_88 hr h_o0) hm
def m_X3_advance_48 (o0 : Nat) (rec0 : zSt → Option (zSt)) (k61 : zSt → Option (zSt)) (s : zSt) : Option (zSt) :=
  zlt (zsI s o0 3 ((zI s o0 3) + 1)) (fun s1 => rec0  s1)
set_option maxRecDepth 100000 in
theorem j_X3_advance_48 {o0 : Nat} {rec0 : zSt → Option (zSt)} {k61 : zSt → Option (zSt)} {s : zSt} {w : zWC} {x : zCX} (hr : zrt x = none)  (h_o0 : zC o0 = 3) (h_rec0 : ∀  (s : zSt), zJ (zQf w x zeV) w x RX3 cX3_advance 2 1 (rec0  s) 0 [some (.ref (zb w + o0)), none] [] s) (h_k61 : ∀  (s : zSt), zJ (zQf w x zeV) w x RX3 cX3_advance 2 1 (k61  s) 61 [some (.ref (zb w + o0)), none] [] s) : zJ (zQf w x zeV) w x RX3 cX3_advance 2 1 (m_X3_advance_48 o0 rec0 k61 s) 48 [some (.ref (zb w + o0)), none] [] s := by
  unfold m_X3_advance_48
  refine zj_aload_n dX3_advance_48 rfl ?_
  refine zj_dup dX3_advance_49 rfl ?_
  refine zj_getI dX3_advance_50 fl_X3_44 rfl h_o0 ?_
  refine zj_iconst dX3_advance_53 zic_1 ?_
  refine zj_iadd dX3_advance_54 ?_
  refine zj_putI dX3_advance_55 fl_X3_44 rfl h_o0 pd_3_3 rfl rfl (fun s1 => ?_)
  refine zj_goto (tgt := 0) dX3_advance_58 (by decide) ?_
  exact h_rec0 _
def bd_X3_advance_0 (o0 : Nat) (rec0 : zSt → Option (zSt)) (k61 : zSt → Option (zSt)) (s : zSt) : Option (zSt) :=
  (if zI s o0 3 < zI s (zT o0 0) 1 then
  (if zI s o0 3 < 0 ∨ zN (zT (zT o0 0) 0) ≤ Int32.toNatClampNeg (zI s o0 3) then none else (if zI s (zT (zT o0 0) 0) (Int32.toNatClampNeg (zI s o0 3)) = 32 then
    m_X3_advance_48 o0 rec0 k61 s
    else
    (if zI s o0 3 < 0 ∨ zN (zT (zT o0 0) 0) ≤ Int32.toNatClampNeg (zI s o0 3) then none else (if zI s (zT (zT o0 0) 0) (Int32.toNatClampNeg (zI s o0 3)) = 10 then
      m_X3_advance_48 o0 rec0 k61 s
      else
      k61  s))))
  else
  k61  s)
def lp_X3_advance_0 (o0 : Nat) (k61 : zSt → Option (zSt)) : Nat → zSt → Option (zSt)
  | 0, _ => none
  | n + 1, s => bd_X3_advance_0 o0 (fun s => lp_X3_advance_0 o0 k61 n s) k61 s
set_option maxRecDepth 100000 in
theorem jb_X3_advance_0 {o0 : Nat} {rec0 : zSt → Option (zSt)} {k61 : zSt → Option (zSt)} {s : zSt} {w : zWC} {x : zCX} (hr : zrt x = none)  (h_o0 : zC o0 = 3) (h_rec0 : ∀  (s : zSt), zJ (zQf w x zeV) w x RX3 cX3_advance 2 1 (rec0  s) 0 [some (.ref (zb w + o0)), none] [] s) (h_k61 : ∀  (s : zSt), zJ (zQf w x zeV) w x RX3 cX3_advance 2 1 (k61  s) 61 [some (.ref (zb w + o0)), none] [] s) : zJ (zQf w x zeV) w x RX3 cX3_advance 2 1 (bd_X3_advance_0 o0 rec0 k61 s) 0 [some (.ref (zb w + o0)), none] [] s := by
  unfold bd_X3_advance_0
  refine zj_aload_n dX3_advance_0 rfl ?_
  refine zj_getI dX3_advance_1 fl_X3_44 rfl h_o0 ?_
  refine zj_aload_n dX3_advance_4 rfl ?_
  refine zj_getT dX3_advance_5 fl_X3_9 rfl h_o0 ?_
  refine zj_getI dX3_advance_8 fl_X3_50 rfl (zt_3_0 _ h_o0) ?_
  refine zj_icmp_ge (tgt := 61) dX3_advance_11 (by decide) ?_ ?_
  · refine zj_aload_n dX3_advance_14 rfl ?_
    refine zj_getT dX3_advance_15 fl_X3_9 rfl h_o0 ?_
    refine zj_getT dX3_advance_18 fl_X3_54 rfl (zt_3_0 _ h_o0) ?_
    refine zj_aload_n dX3_advance_21 rfl ?_
    refine zj_getI dX3_advance_22 fl_X3_44 rfl h_o0 ?_
    refine zj_bald dX3_advance_25 (zt_7_0 _ (zt_3_0 _ h_o0)) ?_
    refine zj_bipush dX3_advance_26 zbi_32 ?_
    refine zj_icmp_eq (tgt := 48) dX3_advance_28 (by decide) ?_ ?_
    · exact j_X3_advance_48 hr h_o0 h_rec0 h_k61
    · refine zj_aload_n dX3_advance_31 rfl ?_
      refine zj_getT dX3_advance_32 fl_X3_9 rfl h_o0 ?_
      refine zj_getT dX3_advance_35 fl_X3_54 rfl (zt_3_0 _ h_o0) ?_
      refine zj_aload_n dX3_advance_38 rfl ?_
      refine zj_getI dX3_advance_39 fl_X3_44 rfl h_o0 ?_
      refine zj_bald dX3_advance_42 (zt_7_0 _ (zt_3_0 _ h_o0)) ?_
      refine zj_bipush dX3_advance_43 zbi_10 ?_
      refine zj_icmp_ne (tgt := 61) dX3_advance_45 (by decide) ?_ ?_
      · exact j_X3_advance_48 hr h_o0 h_rec0 h_k61
      · exact h_k61 _
  · exact h_k61 _
set_option maxRecDepth 100000 in
theorem jl_X3_advance_0 {o0 : Nat} {k61 : zSt → Option (zSt)} {w : zWC} {x : zCX} (hr : zrt x = none)  (h_o0 : zC o0 = 3) (h_k61 : ∀  (s : zSt), zJ (zQf w x zeV) w x RX3 cX3_advance 2 1 (k61  s) 61 [some (.ref (zb w + o0)), none] [] s) : ∀ (n : Nat)  (s : zSt), zJ (zQf w x zeV) w x RX3 cX3_advance 2 1 (lp_X3_advance_0 o0 k61 n s) 0 [some (.ref (zb w + o0)), none] [] s := by
  intro n
  induction n with
  | zero => intro s; exact zj_none
  | succ n ih => intro s; exact jb_X3_advance_0 hr h_o0 (fun s => ih s) h_k61
def m_X3_advance_154 (o0 : Nat) (t0 : Nat) (t1 : Int32) (s : zSt) : Option (zSt) :=
  zlt (zsI s t0 4 t1) (fun s6 => zlt (zsI s6 o0 3 ((zI s6 o0 3) + 1)) (fun s7 => some s7))
set_option maxRecDepth 100000 in
theorem j_X3_advance_154 {o0 : Nat} {t0 : Nat} {t1 : Int32} {s : zSt} {w : zWC} {x : zCX} (hr : zrt x = none)  (h_o0 : zC o0 = 3) (ht0 : zC t0 = 3) : zJ (zQf w x zeV) w x RX3 cX3_advance 2 1 (m_X3_advance_154 o0 t0 t1 s) 154 [some (.ref (zb w + o0)), none] [.int t1, .ref (zb w + t0)] s := by
  unfold m_X3_advance_154
  refine zj_putI dX3_advance_154 fl_X3_61 rfl ht0 pd_3_4 rfl rfl (fun s6 => ?_)
  refine zj_aload_n dX3_advance_157 rfl ?_
  refine zj_dup dX3_advance_158 rfl ?_
  refine zj_getI dX3_advance_159 fl_X3_44 rfl h_o0 ?_
  refine zj_iconst dX3_advance_162 zic_1 ?_
  refine zj_iadd dX3_advance_163 ?_
  refine zj_putI dX3_advance_164 fl_X3_44 rfl h_o0 pd_3_3 rfl rfl (fun s7 => ?_)
  exact zj_vret hr dX3_advance_167
def m_X3_advance_140 (o0 : Nat) (l1 : Int32) (s : zSt) : Option (zSt) :=
  zcl (m_X3_isSign o0 l1 s) (fun r5 s4 => (if r5 = 0 then
  m_X3_advance_154 o0 o0 1 s4
  else
  m_X3_advance_154 o0 o0 l1 s4))
set_option maxRecDepth 100000 in
theorem j_X3_advance_140 {o0 : Nat} {l1 : Int32} {s : zSt} {w : zWC} {x : zCX} (hr : zrt x = none)  (h_o0 : zC o0 = 3) : zJ (zQf w x zeV) w x RX3 cX3_advance 2 1 (m_X3_advance_140 o0 l1 s) 140 [some (.ref (zb w + o0)), some (.int l1)] [] s := by
  unfold m_X3_advance_140
  refine zj_aload_n dX3_advance_140 rfl ?_
  refine zj_aload_n dX3_advance_141 rfl ?_
  refine zj_iload_n dX3_advance_142 rfl ?_
  refine zj_cVI1 ml_X3_70 (fun a h => c_X3_isSign h_o0 h) h_o0 rfl (Nat.le_of_ble_eq_true rfl) (Nat.le_of_ble_eq_true rfl) dX3_advance_143 (fun r5 s4 => ?_)
  refine zj_if_eq (tgt := 153) dX3_advance_146 (by decide) ?_ ?_
  · refine zj_iconst dX3_advance_153 zic_1 ?_
    refine zj_weak [true, false] rfl ?_
    exact j_X3_advance_154 hr h_o0 h_o0
  · refine zj_iload_n dX3_advance_149 rfl ?_
    refine zj_goto (tgt := 154) dX3_advance_150 (by decide) ?_
    refine zj_weak [true, false] rfl ?_
    exact j_X3_advance_154 hr h_o0 h_o0
def m_X3_advance_121 (o0 : Nat) (l1 : Int32) (s : zSt) : Option (zSt) :=
  (if l1 < 48 then
  m_X3_advance_140 o0 l1 s
  else
  (if 57 < l1 then
    m_X3_advance_140 o0 l1 s
    else
    zcv (m_X3_readNumber o0 s) (fun s8 => some s8)))
set_option maxRecDepth 100000 in
theorem j_X3_advance_121 {o0 : Nat} {l1 : Int32} {s : zSt} {w : zWC} {x : zCX} (hr : zrt x = none)  (h_o0 : zC o0 = 3) : zJ (zQf w x zeV) w x RX3 cX3_advance 2 1 (m_X3_advance_121 o0 l1 s) 121 [some (.ref (zb w + o0)), some (.int l1)] [] s := by
  unfold m_X3_advance_121
  refine zj_iload_n dX3_advance_121 rfl ?_
  refine zj_bipush dX3_advance_122 zbi_48 ?_
  refine zj_icmp_lt (tgt := 140) dX3_advance_124 (by decide) ?_ ?_
  · exact j_X3_advance_140 hr h_o0
  · refine zj_iload_n dX3_advance_127 rfl ?_
    refine zj_bipush dX3_advance_128 zbi_57 ?_
    refine zj_icmp_gt (tgt := 140) dX3_advance_130 (by decide) ?_ ?_
    · exact j_X3_advance_140 hr h_o0
    · refine zj_aload_n dX3_advance_133 rfl ?_
      refine zj_cVV0 ml_X3_67 (fun a h => c_X3_readNumber h_o0 h) h_o0 rfl (Nat.le_of_ble_eq_true rfl) (Nat.le_of_ble_eq_true rfl) dX3_advance_134 (fun s8 => ?_)
      refine zj_goto (tgt := 167) dX3_advance_137 (by decide) ?_
      exact zj_vret hr dX3_advance_167
def m_X3_advance_61 (o0 : Nat) (s : zSt) : Option (zSt) :=
  zlt (zsI s o0 5 (zI s o0 3)) (fun s3 => (if zI s3 o0 3 < zI s3 (zT o0 0) 1 then
  (if zI s3 o0 3 < 0 ∨ zN (zT (zT o0 0) 0) ≤ Int32.toNatClampNeg (zI s3 o0 3) then none else (if zI s3 (zT (zT o0 0) 0) (Int32.toNatClampNeg (zI s3 o0 3)) < 97 then
    m_X3_advance_121 o0 (zI s3 (zT (zT o0 0) 0) (Int32.toNatClampNeg (zI s3 o0 3))) s3
    else
    (if 122 < zI s3 (zT (zT o0 0) 0) (Int32.toNatClampNeg (zI s3 o0 3)) then
      m_X3_advance_121 o0 (zI s3 (zT (zT o0 0) 0) (Int32.toNatClampNeg (zI s3 o0 3))) s3
      else
      zcv (m_X3_readWord o0 s3) (fun s9 => some s9))))
  else
  zlt (zsI s3 o0 4 0) (fun s10 => some s10)))
set_option maxRecDepth 100000 in
theorem j_X3_advance_61 {o0 : Nat} {s : zSt} {w : zWC} {x : zCX} (hr : zrt x = none)  (h_o0 : zC o0 = 3) : zJ (zQf w x zeV) w x RX3 cX3_advance 2 1 (m_X3_advance_61 o0 s) 61 [some (.ref (zb w + o0)), none] [] s := by
  unfold m_X3_advance_61
  refine zj_aload_n dX3_advance_61 rfl ?_
  refine zj_aload_n dX3_advance_62 rfl ?_
  refine zj_getI dX3_advance_63 fl_X3_44 rfl h_o0 ?_
  refine zj_putI dX3_advance_66 fl_X3_58 rfl h_o0 pd_3_5 rfl rfl (fun s3 => ?_)
  refine zj_aload_n dX3_advance_69 rfl ?_
  refine zj_getI dX3_advance_70 fl_X3_44 rfl h_o0 ?_
  refine zj_aload_n dX3_advance_73 rfl ?_
  refine zj_getT dX3_advance_74 fl_X3_9 rfl h_o0 ?_
  refine zj_getI dX3_advance_77 fl_X3_50 rfl (zt_3_0 _ h_o0) ?_
  refine zj_icmp_lt (tgt := 89) dX3_advance_80 (by decide) ?_ ?_
  · refine zj_aload_n dX3_advance_89 rfl ?_
    refine zj_getT dX3_advance_90 fl_X3_9 rfl h_o0 ?_
    refine zj_getT dX3_advance_93 fl_X3_54 rfl (zt_3_0 _ h_o0) ?_
    refine zj_aload_n dX3_advance_96 rfl ?_
    refine zj_getI dX3_advance_97 fl_X3_44 rfl h_o0 ?_
    refine zj_bald dX3_advance_100 (zt_7_0 _ (zt_3_0 _ h_o0)) ?_
    refine zj_istore_n (lv' := [some (.ref (zb w + o0)), some (.int (zI s3 (zT (zT o0 0) 0) (Int32.toNatClampNeg (zI s3 o0 3))))]) dX3_advance_101 rfl (by decide) rfl rfl ?_
    refine zj_iload_n dX3_advance_102 rfl ?_
    refine zj_bipush dX3_advance_103 zbi_97 ?_
    refine zj_icmp_lt (tgt := 121) dX3_advance_105 (by decide) ?_ ?_
    · exact j_X3_advance_121 hr h_o0
    · refine zj_iload_n dX3_advance_108 rfl ?_
      refine zj_bipush dX3_advance_109 zbi_122 ?_
      refine zj_icmp_gt (tgt := 121) dX3_advance_111 (by decide) ?_ ?_
      · exact j_X3_advance_121 hr h_o0
      · refine zj_aload_n dX3_advance_114 rfl ?_
        refine zj_cVV0 ml_X3_64 (fun a h => c_X3_readWord h_o0 h) h_o0 rfl (Nat.le_of_ble_eq_true rfl) (Nat.le_of_ble_eq_true rfl) dX3_advance_115 (fun s9 => ?_)
        refine zj_goto (tgt := 167) dX3_advance_118 (by decide) ?_
        exact zj_vret hr dX3_advance_167
  · refine zj_aload_n dX3_advance_83 rfl ?_
    refine zj_iconst dX3_advance_84 zic_0 ?_
    refine zj_putI dX3_advance_85 fl_X3_61 rfl h_o0 pd_3_4 rfl rfl (fun s10 => ?_)
    exact zj_vret hr dX3_advance_88
def m_X3_advance (o0 : Nat) (s : zSt) : Option (zSt) :=
  lp_X3_advance_0 o0 (fun s_2 => m_X3_advance_61 o0 s_2) zFuel s
set_option maxRecDepth 100000 in
theorem c_X3_advance {w : zWC} {o0 : Nat} {s : zSt} (h_o0 : zC o0 = 3) {a : zSt} (hm : m_X3_advance o0 s = some a) : zCn w 1 yX3_advance cX3_advance 2 none [.ref (zb w + o0)] s (zeV a).1 (zeV a).2 :=
  zCn_of (own := RX3) (lv := [some (.ref (zb w + o0)), none]) (by decide +kernel) rfl (Nat.le_of_ble_eq_true rfl) rfl (fun x hr => by
    unfold m_X3_advance
    refine jl_X3_advance_0 hr h_o0 (fun s_2 => ?_) zFuel _
    exact j_X3_advance_61 hr h_o0) hm
def m_X3_refuseAt_14 (o0 : Nat) (p1 : Int32) (p2 : Int32) (t0 : Nat) (t1 : Int32) (s : zSt) : Option (Int32 × zSt) :=
  zlt (zsI s t0 10 t1) (fun s1 => zlt (zsI s1 o0 11 p2) (fun s2 => some (0, s2)))
set_option maxRecDepth 100000 in
theorem j_X3_refuseAt_14 {o0 : Nat} {p1 : Int32} {p2 : Int32} {t0 : Nat} {t1 : Int32} {s : zSt} {w : zWC} {x : zCX} (hr : zrt x = (some .boolean))  (h_o0 : zC o0 = 3) (ht0 : zC t0 = 3) : zJ (zQf w x zeI) w x RX3 cX3_refuseAt 3 0 (m_X3_refuseAt_14 o0 p1 p2 t0 t1 s) 14 [some (.ref (zb w + o0)), none, some (.int p2)] [.int t1, .ref (zb w + t0)] s := by
  unfold m_X3_refuseAt_14
  refine zj_putI dX3_refuseAt_14 fl_X3_19 rfl ht0 pd_3_10 rfl rfl (fun s1 => ?_)
  refine zj_aload_n dX3_refuseAt_17 rfl ?_
  refine zj_iload_n dX3_refuseAt_18 rfl ?_
  refine zj_putI dX3_refuseAt_19 fl_X3_23 rfl h_o0 pd_3_11 rfl rfl (fun s2 => ?_)
  refine zj_iconst dX3_refuseAt_22 zic_0 ?_
  exact zj_zret hr rfl dX3_refuseAt_23
def m_X3_refuseAt (o0 : Nat) (p1 : Int32) (p2 : Int32) (s : zSt) : Option (Int32 × zSt) :=
  (if zI s o0 4 = 1 then
  m_X3_refuseAt_14 o0 p1 p2 o0 1 s
  else
  m_X3_refuseAt_14 o0 p1 p2 o0 p1 s)
set_option maxRecDepth 100000 in
theorem c_X3_refuseAt {w : zWC} {o0 : Nat} {p1 : Int32} {p2 : Int32} {s : zSt} (h_o0 : zC o0 = 3) {a : Int32 × zSt} (hm : m_X3_refuseAt o0 p1 p2 s = some a) : zCn w 0 yX3_refuseAt cX3_refuseAt 3 (some .boolean) [.ref (zb w + o0), .int p1, .int p2] s (zeI a).1 (zeI a).2 :=
  zCn_of (own := RX3) (lv := [some (.ref (zb w + o0)), some (.int p1), some (.int p2)]) (by decide +kernel) rfl (Nat.le_of_ble_eq_true rfl) rfl (fun x hr => by
    unfold m_X3_refuseAt
    refine zj_aload_n dX3_refuseAt_0 rfl ?_
    refine zj_aload_n dX3_refuseAt_1 rfl ?_
    refine zj_getI dX3_refuseAt_2 fl_X3_61 rfl h_o0 ?_
    refine zj_iconst dX3_refuseAt_5 zic_1 ?_
    refine zj_icmp_ne (tgt := 13) dX3_refuseAt_6 (by decide) ?_ ?_
    · refine zj_iconst dX3_refuseAt_9 zic_1 ?_
      refine zj_goto (tgt := 14) dX3_refuseAt_10 (by decide) ?_
      refine zj_weak [true, false, true] rfl ?_
      exact j_X3_refuseAt_14 hr h_o0 h_o0
    · refine zj_iload_n dX3_refuseAt_13 rfl ?_
      refine zj_weak [true, false, true] rfl ?_
      exact j_X3_refuseAt_14 hr h_o0 h_o0) hm
def m_X3_refuse (o0 : Nat) (p1 : Int32) (s : zSt) : Option (Int32 × zSt) :=
  zcl (m_X3_refuseAt o0 p1 (zI s o0 5) s) (fun r2 s1 => (if r2 = 0 ∨ r2 = 1 then some (r2, s1) else none))
set_option maxRecDepth 100000 in
theorem c_X3_refuse {w : zWC} {o0 : Nat} {p1 : Int32} {s : zSt} (h_o0 : zC o0 = 3) {a : Int32 × zSt} (hm : m_X3_refuse o0 p1 s = some a) : zCn w 1 yX3_refuse cX3_refuse 2 (some .boolean) [.ref (zb w + o0), .int p1] s (zeI a).1 (zeI a).2 :=
  zCn_of (own := RX3) (lv := [some (.ref (zb w + o0)), some (.int p1)]) (by decide +kernel) rfl (Nat.le_of_ble_eq_true rfl) rfl (fun x hr => by
    unfold m_X3_refuse
    refine zj_aload_n dX3_refuse_0 rfl ?_
    refine zj_iload_n dX3_refuse_1 rfl ?_
    refine zj_aload_n dX3_refuse_2 rfl ?_
    refine zj_getI dX3_refuse_3 fl_X3_58 rfl h_o0 ?_
    refine zj_cVI2 ml_X3_81 (fun a h => c_X3_refuseAt h_o0 h) h_o0 rfl (Nat.le_of_ble_eq_true rfl) (Nat.le_of_ble_eq_true rfl) dX3_refuse_6 (fun r2 s1 => ?_)
    exact zj_zretG hr dX3_refuse_9) hm
def bd_X8_indexOf_3 (o0 : Nat) (p1 : Int32) (q2 : Int64) (rec3 : Int32 → zSt → Option (Int32 × zSt)) (l4 : Int32) (s : zSt) : Option (Int32 × zSt) :=
  (if l4 < p1 then
  (if l4 < Int32.ofNat (zN o0) then
    (if l4 < 0 ∨ zN o0 ≤ Int32.toNatClampNeg l4 then none else (if zL s o0 (Int32.toNatClampNeg l4) = q2 then
      some (l4, s)
      else
      rec3 (l4 + 1) s))
    else
    some ((-1), s))
  else
  some ((-1), s))
def lp_X8_indexOf_3 (o0 : Nat) (p1 : Int32) (q2 : Int64) : Nat → Int32 → zSt → Option (Int32 × zSt)
  | 0, _, _ => none
  | n + 1, l4, s => bd_X8_indexOf_3 o0 p1 q2 (fun l4 s => lp_X8_indexOf_3 o0 p1 q2 n l4 s) l4 s
set_option maxRecDepth 100000 in
theorem jb_X8_indexOf_3 {o0 : Nat} {p1 : Int32} {q2 : Int64} {rec3 : Int32 → zSt → Option (Int32 × zSt)} {l4 : Int32} {s : zSt} {w : zWC} {x : zCX} (hr : zrt x = (some .int))  (h_o0 : zC o0 = 12) (h_rec3 : ∀ (l4 : Int32) (s : zSt), zJ (zQf w x zeI) w x RX8 cX8_indexOf 5 0 (rec3 l4 s) 3 [some (.ref (zb w + o0)), some (.int p1), some (.long q2), none, some (.int l4)] [] s) : zJ (zQf w x zeI) w x RX8 cX8_indexOf 5 0 (bd_X8_indexOf_3 o0 p1 q2 rec3 l4 s) 3 [some (.ref (zb w + o0)), some (.int p1), some (.long q2), none, some (.int l4)] [] s := by
  unfold bd_X8_indexOf_3
  refine zj_iload dX8_indexOf_3 rfl ?_
  refine zj_iload_n dX8_indexOf_5 rfl ?_
  refine zj_icmp_ge (tgt := 34) dX8_indexOf_6 (by decide) ?_ ?_
  · refine zj_iload dX8_indexOf_9 rfl ?_
    refine zj_aload_n dX8_indexOf_11 rfl ?_
    refine zj_alen12 dX8_indexOf_12 h_o0 ?_
    refine zj_icmp_ge (tgt := 34) dX8_indexOf_13 (by decide) ?_ ?_
    · refine zj_aload_n dX8_indexOf_16 rfl ?_
      refine zj_iload dX8_indexOf_17 rfl ?_
      refine zj_lald dX8_indexOf_19 h_o0 ?_
      refine zj_lload_n dX8_indexOf_20 rfl ?_
      refine zj_lcmp_ne (tgt := 28) dX8_indexOf_21 dX8_indexOf_22 (by decide) ?_ ?_
      · refine zj_iload dX8_indexOf_25 rfl ?_
        exact zj_iret hr dX8_indexOf_27
      · refine zj_iinc (v2 := l4 + 1) (lv' := [some (.ref (zb w + o0)), some (.int p1), some (.long q2), none, some (.int (l4 + 1))]) dX8_indexOf_28 rfl (by rw [zic_1]) (by decide) rfl rfl ?_
        refine zj_goto (tgt := 3) dX8_indexOf_31 (by decide) ?_
        exact h_rec3 _ _
    · refine zj_iconst dX8_indexOf_34 zic_m1 ?_
      exact zj_iret hr dX8_indexOf_35
  · refine zj_iconst dX8_indexOf_34 zic_m1 ?_
    exact zj_iret hr dX8_indexOf_35
set_option maxRecDepth 100000 in
theorem jl_X8_indexOf_3 {o0 : Nat} {p1 : Int32} {q2 : Int64} {w : zWC} {x : zCX} (hr : zrt x = (some .int))  (h_o0 : zC o0 = 12) : ∀ (n : Nat) (l4 : Int32) (s : zSt), zJ (zQf w x zeI) w x RX8 cX8_indexOf 5 0 (lp_X8_indexOf_3 o0 p1 q2 n l4 s) 3 [some (.ref (zb w + o0)), some (.int p1), some (.long q2), none, some (.int l4)] [] s := by
  intro n
  induction n with
  | zero => intro l4 s; exact zj_none
  | succ n ih => intro l4 s; exact jb_X8_indexOf_3 hr h_o0 (fun l4 s => ih l4 s)
def m_X8_indexOf (o0 : Nat) (p1 : Int32) (q2 : Int64) (s : zSt) : Option (Int32 × zSt) :=
  lp_X8_indexOf_3 o0 p1 q2 zFuel 0 s
set_option maxRecDepth 100000 in
theorem c_X8_indexOf {w : zWC} {o0 : Nat} {p1 : Int32} {q2 : Int64} {s : zSt} (h_o0 : zC o0 = 12) {a : Int32 × zSt} (hm : m_X8_indexOf o0 p1 q2 s = some a) : zCn w 0 yX8_indexOf cX8_indexOf 5 (some .int) [.ref (zb w + o0), .int p1, .long q2] s (zeI a).1 (zeI a).2 :=
  zCn_of (own := RX8) (lv := [some (.ref (zb w + o0)), some (.int p1), some (.long q2), none, none]) (by decide +kernel) rfl (Nat.le_of_ble_eq_true rfl) rfl (fun x hr => by
    unfold m_X8_indexOf
    refine zj_iconst dX8_indexOf_0 zic_0 ?_
    refine zj_istore (lv' := [some (.ref (zb w + o0)), some (.int p1), some (.long q2), none, some (.int 0)]) dX8_indexOf_1 (by decide) rfl rfl ?_
    exact jl_X8_indexOf_3 hr h_o0 zFuel _ _) hm
def m_X3_takeNewName_18 (o0 : Nat) (o1 : Nat) (p2 : Int32) (s : zSt) : Option (Int32 × zSt) :=
  zcl (m_X3_refuse o0 2 s) (fun r2 s1 => (if r2 = 0 ∨ r2 = 1 then some (r2, s1) else none))
set_option maxRecDepth 100000 in
theorem j_X3_takeNewName_18 {o0 : Nat} {o1 : Nat} {p2 : Int32} {s : zSt} {w : zWC} {x : zCX} (hr : zrt x = (some .boolean))  (h_o0 : zC o0 = 3) (h_o1 : zC o1 = 12) : zJ (zQf w x zeI) w x RX3 cX3_takeNewName 3 2 (m_X3_takeNewName_18 o0 o1 p2 s) 18 [some (.ref (zb w + o0)), none, none] [] s := by
  unfold m_X3_takeNewName_18
  refine zj_aload_n dX3_takeNewName_18 rfl ?_
  refine zj_iconst dX3_takeNewName_19 zic_2 ?_
  refine zj_cVI1 ml_X3_85 (fun a h => c_X3_refuse h_o0 h) h_o0 rfl (Nat.le_of_ble_eq_true rfl) (Nat.le_of_ble_eq_true rfl) dX3_takeNewName_20 (fun r2 s1 => ?_)
  exact zj_zretG hr dX3_takeNewName_23
def m_X3_takeNewName (o0 : Nat) (o1 : Nat) (p2 : Int32) (s : zSt) : Option (Int32 × zSt) :=
  (if zI s o0 4 = 2 then
  (if p2 < 0 then
    m_X3_takeNewName_18 o0 o1 p2 s
    else
    (if p2 < Int32.ofNat (zN o1) then
      zcl (m_X8_indexOf o1 p2 (zL s o0 7) s) (fun r4 s3 => (if r4 = (-1) then
        (if p2 < 0 ∨ zN o1 ≤ Int32.toNatClampNeg p2 then none else zlt (zsL s3 o1 (Int32.toNatClampNeg p2) (zL s3 o0 7)) (fun s5 => zcv (m_X3_advance o0 s5) (fun s6 => some (1, s6))))
        else
        zcl (m_X3_refuse o0 3 s3) (fun r8 s7 => (if r8 = 0 ∨ r8 = 1 then some (r8, s7) else none))))
      else
      m_X3_takeNewName_18 o0 o1 p2 s))
  else
  m_X3_takeNewName_18 o0 o1 p2 s)
set_option maxRecDepth 100000 in
theorem c_X3_takeNewName {w : zWC} {o0 : Nat} {o1 : Nat} {p2 : Int32} {s : zSt} (h_o0 : zC o0 = 3) (h_o1 : zC o1 = 12) {a : Int32 × zSt} (hm : m_X3_takeNewName o0 o1 p2 s = some a) : zCn w 2 yX3_takeNewName cX3_takeNewName 3 (some .boolean) [.ref (zb w + o0), .ref (zb w + o1), .int p2] s (zeI a).1 (zeI a).2 :=
  zCn_of (own := RX3) (lv := [some (.ref (zb w + o0)), some (.ref (zb w + o1)), some (.int p2)]) (by decide +kernel) rfl (Nat.le_of_ble_eq_true rfl) rfl (fun x hr => by
    unfold m_X3_takeNewName
    refine zj_aload_n dX3_takeNewName_0 rfl ?_
    refine zj_getI dX3_takeNewName_1 fl_X3_61 rfl h_o0 ?_
    refine zj_iconst dX3_takeNewName_4 zic_2 ?_
    refine zj_icmp_ne (tgt := 18) dX3_takeNewName_5 (by decide) ?_ ?_
    · refine zj_iload_n dX3_takeNewName_8 rfl ?_
      refine zj_if_lt (tgt := 18) dX3_takeNewName_9 (by decide) ?_ ?_
      · refine zj_weak [true, false, false] rfl ?_
        exact j_X3_takeNewName_18 hr h_o0 h_o1
      · refine zj_iload_n dX3_takeNewName_12 rfl ?_
        refine zj_aload_n dX3_takeNewName_13 rfl ?_
        refine zj_alen12 dX3_takeNewName_14 h_o1 ?_
        refine zj_icmp_lt (tgt := 24) dX3_takeNewName_15 (by decide) ?_ ?_
        · refine zj_aload_n dX3_takeNewName_24 rfl ?_
          refine zj_iload_n dX3_takeNewName_25 rfl ?_
          refine zj_aload_n dX3_takeNewName_26 rfl ?_
          refine zj_getL dX3_takeNewName_27 fl_X3_74 rfl h_o0 ?_
          refine zj_cNI3 ml_X3_91 (fun a h => c_X8_indexOf h_o1 h) (Nat.le_of_ble_eq_true rfl) (Nat.le_of_ble_eq_true rfl) dX3_takeNewName_30 (fun r4 s3 => ?_)
          refine zj_iconst dX3_takeNewName_33 zic_m1 ?_
          refine zj_icmp_eq (tgt := 43) dX3_takeNewName_34 (by decide) ?_ ?_
          · refine zj_aload_n dX3_takeNewName_43 rfl ?_
            refine zj_iload_n dX3_takeNewName_44 rfl ?_
            refine zj_aload_n dX3_takeNewName_45 rfl ?_
            refine zj_getL dX3_takeNewName_46 fl_X3_74 rfl h_o0 ?_
            refine zj_last dX3_takeNewName_49 h_o1 (fun s5 => ?_)
            refine zj_aload_n dX3_takeNewName_50 rfl ?_
            refine zj_cVV0 ml_X3_47 (fun a h => c_X3_advance h_o0 h) h_o0 rfl (Nat.le_of_ble_eq_true rfl) (Nat.le_of_ble_eq_true rfl) dX3_takeNewName_51 (fun s6 => ?_)
            refine zj_iconst dX3_takeNewName_54 zic_1 ?_
            exact zj_zret hr rfl dX3_takeNewName_55
          · refine zj_aload_n dX3_takeNewName_37 rfl ?_
            refine zj_iconst dX3_takeNewName_38 zic_3 ?_
            refine zj_cVI1 ml_X3_85 (fun a h => c_X3_refuse h_o0 h) h_o0 rfl (Nat.le_of_ble_eq_true rfl) (Nat.le_of_ble_eq_true rfl) dX3_takeNewName_39 (fun r8 s7 => ?_)
            exact zj_zretG hr dX3_takeNewName_42
        · refine zj_weak [true, false, false] rfl ?_
          exact j_X3_takeNewName_18 hr h_o0 h_o1
    · refine zj_weak [true, false, false] rfl ?_
      exact j_X3_takeNewName_18 hr h_o0 h_o1) hm
def m_X0_readCause (o0 : Nat) (o1 : Nat) (s : zSt) : Option (Int32 × zSt) :=
  (if zI s o0 0 < 8 then
  zcv (m_X3_advance o1 s) (fun s1 => zcl (m_X3_takeNewName o1 (zT o0 2) (zI s1 o0 0) s1) (fun r3 s2 => (if r3 = 0 then
    some (0, s2)
    else
    zlt (zsI s2 o0 0 ((zI s2 o0 0) + 1)) (fun s4 => some (1, s4)))))
  else
  zcl (m_X3_refuse o1 2 s) (fun r6 s5 => (if r6 = 0 ∨ r6 = 1 then some (r6, s5) else none)))
set_option maxRecDepth 100000 in
theorem c_X0_readCause {w : zWC} {o0 : Nat} {o1 : Nat} {s : zSt} (h_o0 : zC o0 = 0) (h_o1 : zC o1 = 3) {a : Int32 × zSt} (hm : m_X0_readCause o0 o1 s = some a) : zCn w 3 yX0_readCause cX0_readCause 2 (some .boolean) [.ref (zb w + o0), .ref (zb w + o1)] s (zeI a).1 (zeI a).2 :=
  zCn_of (own := RX0) (lv := [some (.ref (zb w + o0)), some (.ref (zb w + o1))]) (by decide +kernel) rfl (Nat.le_of_ble_eq_true rfl) rfl (fun x hr => by
    unfold m_X0_readCause
    refine zj_aload_n dX0_readCause_0 rfl ?_
    refine zj_getI dX0_readCause_1 fl_X0_9 rfl h_o0 ?_
    refine zj_bipush dX0_readCause_4 zbi_8 ?_
    refine zj_icmp_lt (tgt := 15) dX0_readCause_6 (by decide) ?_ ?_
    · refine zj_aload_n dX0_readCause_15 rfl ?_
      refine zj_cVV0 ml_X0_45 (fun a h => c_X3_advance h_o1 h) h_o1 rfl (Nat.le_of_ble_eq_true rfl) (Nat.le_of_ble_eq_true rfl) dX0_readCause_16 (fun s1 => ?_)
      refine zj_aload_n dX0_readCause_19 rfl ?_
      refine zj_aload_n dX0_readCause_20 rfl ?_
      refine zj_getT dX0_readCause_21 fl_X0_18 rfl h_o0 ?_
      refine zj_aload_n dX0_readCause_24 rfl ?_
      refine zj_getI dX0_readCause_25 fl_X0_9 rfl h_o0 ?_
      refine zj_cVI2 ml_X0_48 (fun a h => c_X3_takeNewName h_o1 (zt_0_2 _ h_o0) h) h_o1 rfl (Nat.le_of_ble_eq_true rfl) (Nat.le_of_ble_eq_true rfl) dX0_readCause_28 (fun r3 s2 => ?_)
      refine zj_if_ne (tgt := 36) dX0_readCause_31 (by decide) ?_ ?_
      · refine zj_iconst dX0_readCause_34 zic_0 ?_
        exact zj_zret hr rfl dX0_readCause_35
      · refine zj_aload_n dX0_readCause_36 rfl ?_
        refine zj_dup dX0_readCause_37 rfl ?_
        refine zj_getI dX0_readCause_38 fl_X0_9 rfl h_o0 ?_
        refine zj_iconst dX0_readCause_41 zic_1 ?_
        refine zj_iadd dX0_readCause_42 ?_
        refine zj_putI dX0_readCause_43 fl_X0_9 rfl h_o0 pd_0_0 rfl rfl (fun s4 => ?_)
        refine zj_iconst dX0_readCause_46 zic_1 ?_
        exact zj_zret hr rfl dX0_readCause_47
    · refine zj_aload_n dX0_readCause_9 rfl ?_
      refine zj_iconst dX0_readCause_10 zic_2 ?_
      refine zj_cVI1 ml_X0_39 (fun a h => c_X3_refuse h_o1 h) h_o1 rfl (Nat.le_of_ble_eq_true rfl) (Nat.le_of_ble_eq_true rfl) dX0_readCause_11 (fun r6 s5 => ?_)
      exact zj_zretG hr dX0_readCause_14) hm
def m_X3_take (o0 : Nat) (p1 : Int32) (s : zSt) : Option (Int32 × zSt) :=
  (if zI s o0 4 = p1 then
  zcv (m_X3_advance o0 s) (fun s1 => some (1, s1))
  else
  zcl (m_X3_refuse o0 2 s) (fun r3 s2 => (if r3 = 0 ∨ r3 = 1 then some (r3, s2) else none)))
set_option maxRecDepth 100000 in
theorem c_X3_take {w : zWC} {o0 : Nat} {p1 : Int32} {s : zSt} (h_o0 : zC o0 = 3) {a : Int32 × zSt} (hm : m_X3_take o0 p1 s = some a) : zCn w 2 yX3_take cX3_take 2 (some .boolean) [.ref (zb w + o0), .int p1] s (zeI a).1 (zeI a).2 :=
  zCn_of (own := RX3) (lv := [some (.ref (zb w + o0)), some (.int p1)]) (by decide +kernel) rfl (Nat.le_of_ble_eq_true rfl) rfl (fun x hr => by
    unfold m_X3_take
    refine zj_aload_n dX3_take_0 rfl ?_
    refine zj_getI dX3_take_1 fl_X3_61 rfl h_o0 ?_
    refine zj_iload_n dX3_take_4 rfl ?_
    refine zj_icmp_eq (tgt := 14) dX3_take_5 (by decide) ?_ ?_
    · refine zj_aload_n dX3_take_14 rfl ?_
      refine zj_cVV0 ml_X3_47 (fun a h => c_X3_advance h_o0 h) h_o0 rfl (Nat.le_of_ble_eq_true rfl) (Nat.le_of_ble_eq_true rfl) dX3_take_15 (fun s1 => ?_)
      refine zj_iconst dX3_take_18 zic_1 ?_
      exact zj_zret hr rfl dX3_take_19
    · refine zj_aload_n dX3_take_8 rfl ?_
      refine zj_iconst dX3_take_9 zic_2 ?_
      refine zj_cVI1 ml_X3_85 (fun a h => c_X3_refuse h_o0 h) h_o0 rfl (Nat.le_of_ble_eq_true rfl) (Nat.le_of_ble_eq_true rfl) dX3_take_10 (fun r3 s2 => ?_)
      exact zj_zretG hr dX3_take_13) hm
def m_X0_readTrial_68 (o0 : Nat) (o1 : Nat) (rec50 : Int32 → Int32 → zSt → Option (Int32 × zSt)) (k144 : Int32 → zSt → Option (Int32 × zSt)) (l2 : Int32) (l3 : Int32) (s : zSt) : Option (Int32 × zSt) :=
  (if zI s o1 4 = 2 then
  zcl (m_X8_indexOf (zT o0 2) (zI s o0 0) (zL s o1 7) s) (fun r7 s6 => (if r7 = (-1) then
    zcl (m_X3_refuse o1 5 s6) (fun r9 s8 => (if r9 = 0 ∨ r9 = 1 then some (r9, s8) else none))
    else
    (if (l2 >>> (r7 &&& 31)) &&& 1 = 1 then
      zcl (m_X3_refuse o1 3 s6) (fun r11 s10 => (if r11 = 0 ∨ r11 = 1 then some (r11, s10) else none))
      else
      zcv (m_X3_advance o1 s6) (fun s12 => rec50 (l2 ||| ((1 : Int32) <<< (r7 &&& 31))) (l3 + 1) s12))))
  else
  zcl (m_X3_refuse o1 2 s) (fun r14 s13 => (if r14 = 0 ∨ r14 = 1 then some (r14, s13) else none)))
set_option maxRecDepth 100000 in
theorem j_X0_readTrial_68 {o0 : Nat} {o1 : Nat} {rec50 : Int32 → Int32 → zSt → Option (Int32 × zSt)} {k144 : Int32 → zSt → Option (Int32 × zSt)} {l2 : Int32} {l3 : Int32} {s : zSt} {w : zWC} {x : zCX} (hr : zrt x = (some .boolean))  (h_o0 : zC o0 = 0) (h_o1 : zC o1 = 3) (h_rec50 : ∀ (l2 : Int32) (l3 : Int32) (s : zSt), zJ (zQf w x zeI) w x RX0 cX0_readTrial 5 3 (rec50 l2 l3 s) 50 [some (.ref (zb w + o0)), some (.ref (zb w + o1)), some (.int l2), some (.int l3), none] [] s) (h_k144 : ∀ (l2 : Int32) (s : zSt), zJ (zQf w x zeI) w x RX0 cX0_readTrial 5 3 (k144 l2 s) 144 [some (.ref (zb w + o0)), none, some (.int l2), none, none] [] s) : zJ (zQf w x zeI) w x RX0 cX0_readTrial 5 3 (m_X0_readTrial_68 o0 o1 rec50 k144 l2 l3 s) 68 [some (.ref (zb w + o0)), some (.ref (zb w + o1)), some (.int l2), some (.int l3), none] [] s := by
  unfold m_X0_readTrial_68
  refine zj_aload_n dX0_readTrial_68 rfl ?_
  refine zj_getI dX0_readTrial_69 fl_X0_55 rfl h_o1 ?_
  refine zj_iconst dX0_readTrial_72 zic_2 ?_
  refine zj_icmp_eq (tgt := 82) dX0_readTrial_73 (by decide) ?_ ?_
  · refine zj_aload_n dX0_readTrial_82 rfl ?_
    refine zj_getT dX0_readTrial_83 fl_X0_18 rfl h_o0 ?_
    refine zj_aload_n dX0_readTrial_86 rfl ?_
    refine zj_getI dX0_readTrial_87 fl_X0_9 rfl h_o0 ?_
    refine zj_aload_n dX0_readTrial_90 rfl ?_
    refine zj_getL dX0_readTrial_91 fl_X0_58 rfl h_o1 ?_
    refine zj_cNI3 ml_X0_62 (fun a h => c_X8_indexOf (zt_0_2 _ h_o0) h) (Nat.le_of_ble_eq_true rfl) (Nat.le_of_ble_eq_true rfl) dX0_readTrial_94 (fun r7 s6 => ?_)
    refine zj_istore (lv' := [some (.ref (zb w + o0)), some (.ref (zb w + o1)), some (.int l2), some (.int l3), some (.int r7)]) dX0_readTrial_97 (by decide) rfl rfl ?_
    refine zj_iload dX0_readTrial_99 rfl ?_
    refine zj_iconst dX0_readTrial_101 zic_m1 ?_
    refine zj_icmp_ne (tgt := 111) dX0_readTrial_102 (by decide) ?_ ?_
    · refine zj_aload_n dX0_readTrial_105 rfl ?_
      refine zj_iconst dX0_readTrial_106 zic_5 ?_
      refine zj_cVI1 ml_X0_39 (fun a h => c_X3_refuse h_o1 h) h_o1 rfl (Nat.le_of_ble_eq_true rfl) (Nat.le_of_ble_eq_true rfl) dX0_readTrial_107 (fun r9 s8 => ?_)
      exact zj_zretG hr dX0_readTrial_110
    · refine zj_iload_n dX0_readTrial_111 rfl ?_
      refine zj_iload dX0_readTrial_112 rfl ?_
      refine zj_ishr dX0_readTrial_114 ?_
      refine zj_iconst dX0_readTrial_115 zic_1 ?_
      refine zj_iand dX0_readTrial_116 ?_
      refine zj_iconst dX0_readTrial_117 zic_1 ?_
      refine zj_icmp_ne (tgt := 127) dX0_readTrial_118 (by decide) ?_ ?_
      · refine zj_aload_n dX0_readTrial_121 rfl ?_
        refine zj_iconst dX0_readTrial_122 zic_3 ?_
        refine zj_cVI1 ml_X0_39 (fun a h => c_X3_refuse h_o1 h) h_o1 rfl (Nat.le_of_ble_eq_true rfl) (Nat.le_of_ble_eq_true rfl) dX0_readTrial_123 (fun r11 s10 => ?_)
        exact zj_zretG hr dX0_readTrial_126
      · refine zj_iload_n dX0_readTrial_127 rfl ?_
        refine zj_iconst dX0_readTrial_128 zic_1 ?_
        refine zj_iload dX0_readTrial_129 rfl ?_
        refine zj_ishl dX0_readTrial_131 ?_
        refine zj_ior dX0_readTrial_132 ?_
        refine zj_istore_n (lv' := [some (.ref (zb w + o0)), some (.ref (zb w + o1)), some (.int (l2 ||| ((1 : Int32) <<< (r7 &&& 31)))), some (.int l3), some (.int r7)]) dX0_readTrial_133 rfl (by decide) rfl rfl ?_
        refine zj_aload_n dX0_readTrial_134 rfl ?_
        refine zj_cVV0 ml_X0_45 (fun a h => c_X3_advance h_o1 h) h_o1 rfl (Nat.le_of_ble_eq_true rfl) (Nat.le_of_ble_eq_true rfl) dX0_readTrial_135 (fun s12 => ?_)
        refine zj_iinc (v2 := l3 + 1) (lv' := [some (.ref (zb w + o0)), some (.ref (zb w + o1)), some (.int (l2 ||| ((1 : Int32) <<< (r7 &&& 31)))), some (.int (l3 + 1)), some (.int r7)]) dX0_readTrial_138 rfl (by rw [zic_1]) (by decide) rfl rfl ?_
        refine zj_goto (tgt := 50) dX0_readTrial_141 (by decide) ?_
        refine zj_weak [true, true, true, true, false] rfl ?_
        exact h_rec50 _ _ _
  · refine zj_aload_n dX0_readTrial_76 rfl ?_
    refine zj_iconst dX0_readTrial_77 zic_2 ?_
    refine zj_cVI1 ml_X0_39 (fun a h => c_X3_refuse h_o1 h) h_o1 rfl (Nat.le_of_ble_eq_true rfl) (Nat.le_of_ble_eq_true rfl) dX0_readTrial_78 (fun r14 s13 => ?_)
    exact zj_zretG hr dX0_readTrial_81
def bd_X0_readTrial_50 (o0 : Nat) (o1 : Nat) (rec50 : Int32 → Int32 → zSt → Option (Int32 × zSt)) (k144 : Int32 → zSt → Option (Int32 × zSt)) (l2 : Int32) (l3 : Int32) (s : zSt) : Option (Int32 × zSt) :=
  (if 8 < l3 then
  k144 l2 s
  else
  (if l3 = 0 then
    m_X0_readTrial_68 o0 o1 rec50 k144 l2 l3 s
    else
    (if zI s o1 4 = 2 then
      m_X0_readTrial_68 o0 o1 rec50 k144 l2 l3 s
      else
      k144 l2 s)))
def lp_X0_readTrial_50 (o0 : Nat) (o1 : Nat) (k144 : Int32 → zSt → Option (Int32 × zSt)) : Nat → Int32 → Int32 → zSt → Option (Int32 × zSt)
  | 0, _, _, _ => none
  | n + 1, l2, l3, s => bd_X0_readTrial_50 o0 o1 (fun l2 l3 s => lp_X0_readTrial_50 o0 o1 k144 n l2 l3 s) k144 l2 l3 s
set_option maxRecDepth 100000 in
theorem jb_X0_readTrial_50 {o0 : Nat} {o1 : Nat} {rec50 : Int32 → Int32 → zSt → Option (Int32 × zSt)} {k144 : Int32 → zSt → Option (Int32 × zSt)} {l2 : Int32} {l3 : Int32} {s : zSt} {w : zWC} {x : zCX} (hr : zrt x = (some .boolean))  (h_o0 : zC o0 = 0) (h_o1 : zC o1 = 3) (h_rec50 : ∀ (l2 : Int32) (l3 : Int32) (s : zSt), zJ (zQf w x zeI) w x RX0 cX0_readTrial 5 3 (rec50 l2 l3 s) 50 [some (.ref (zb w + o0)), some (.ref (zb w + o1)), some (.int l2), some (.int l3), none] [] s) (h_k144 : ∀ (l2 : Int32) (s : zSt), zJ (zQf w x zeI) w x RX0 cX0_readTrial 5 3 (k144 l2 s) 144 [some (.ref (zb w + o0)), none, some (.int l2), none, none] [] s) : zJ (zQf w x zeI) w x RX0 cX0_readTrial 5 3 (bd_X0_readTrial_50 o0 o1 rec50 k144 l2 l3 s) 50 [some (.ref (zb w + o0)), some (.ref (zb w + o1)), some (.int l2), some (.int l3), none] [] s := by
  unfold bd_X0_readTrial_50
  refine zj_iload_n dX0_readTrial_50 rfl ?_
  refine zj_bipush dX0_readTrial_51 zbi_8 ?_
  refine zj_icmp_gt (tgt := 144) dX0_readTrial_53 (by decide) ?_ ?_
  · refine zj_weak [true, false, true, false, false] rfl ?_
    exact h_k144 _ _
  · refine zj_iload_n dX0_readTrial_56 rfl ?_
    refine zj_if_eq (tgt := 68) dX0_readTrial_57 (by decide) ?_ ?_
    · exact j_X0_readTrial_68 hr h_o0 h_o1 h_rec50 h_k144
    · refine zj_aload_n dX0_readTrial_60 rfl ?_
      refine zj_getI dX0_readTrial_61 fl_X0_55 rfl h_o1 ?_
      refine zj_iconst dX0_readTrial_64 zic_2 ?_
      refine zj_icmp_ne (tgt := 144) dX0_readTrial_65 (by decide) ?_ ?_
      · exact j_X0_readTrial_68 hr h_o0 h_o1 h_rec50 h_k144
      · refine zj_weak [true, false, true, false, false] rfl ?_
        exact h_k144 _ _
set_option maxRecDepth 100000 in
theorem jl_X0_readTrial_50 {o0 : Nat} {o1 : Nat} {k144 : Int32 → zSt → Option (Int32 × zSt)} {w : zWC} {x : zCX} (hr : zrt x = (some .boolean))  (h_o0 : zC o0 = 0) (h_o1 : zC o1 = 3) (h_k144 : ∀ (l2 : Int32) (s : zSt), zJ (zQf w x zeI) w x RX0 cX0_readTrial 5 3 (k144 l2 s) 144 [some (.ref (zb w + o0)), none, some (.int l2), none, none] [] s) : ∀ (n : Nat) (l2 : Int32) (l3 : Int32) (s : zSt), zJ (zQf w x zeI) w x RX0 cX0_readTrial 5 3 (lp_X0_readTrial_50 o0 o1 k144 n l2 l3 s) 50 [some (.ref (zb w + o0)), some (.ref (zb w + o1)), some (.int l2), some (.int l3), none] [] s := by
  intro n
  induction n with
  | zero => intro l2 l3 s; exact zj_none
  | succ n ih => intro l2 l3 s; exact jb_X0_readTrial_50 hr h_o0 h_o1 (fun l2 l3 s => ih l2 l3 s) h_k144
def m_X0_readTrial_144 (o0 : Nat) (o1 : Nat) (l2 : Int32) (s : zSt) : Option (Int32 × zSt) :=
  (if zI s o0 1 < 0 ∨ zN (zT o0 4) ≤ Int32.toNatClampNeg (zI s o0 1) then none else zlt (zsI s (zT o0 4) (Int32.toNatClampNeg (zI s o0 1)) l2) (fun s16 => zlt (zsI s16 o0 1 ((zI s16 o0 1) + 1)) (fun s17 => some (1, s17))))
set_option maxRecDepth 100000 in
theorem j_X0_readTrial_144 {o0 : Nat} {o1 : Nat} {l2 : Int32} {s : zSt} {w : zWC} {x : zCX} (hr : zrt x = (some .boolean))  (h_o0 : zC o0 = 0) (h_o1 : zC o1 = 3) : zJ (zQf w x zeI) w x RX0 cX0_readTrial 5 3 (m_X0_readTrial_144 o0 o1 l2 s) 144 [some (.ref (zb w + o0)), none, some (.int l2), none, none] [] s := by
  unfold m_X0_readTrial_144
  refine zj_aload_n dX0_readTrial_144 rfl ?_
  refine zj_getT dX0_readTrial_145 fl_X0_25 rfl h_o0 ?_
  refine zj_aload_n dX0_readTrial_148 rfl ?_
  refine zj_getI dX0_readTrial_149 fl_X0_15 rfl h_o0 ?_
  refine zj_iload_n dX0_readTrial_152 rfl ?_
  refine zj_iast dX0_readTrial_153 (zt_0_4 _ h_o0) (fun s16 => ?_)
  refine zj_aload_n dX0_readTrial_154 rfl ?_
  refine zj_dup dX0_readTrial_155 rfl ?_
  refine zj_getI dX0_readTrial_156 fl_X0_15 rfl h_o0 ?_
  refine zj_iconst dX0_readTrial_159 zic_1 ?_
  refine zj_iadd dX0_readTrial_160 ?_
  refine zj_putI dX0_readTrial_161 fl_X0_15 rfl h_o0 pd_0_1 rfl rfl (fun s17 => ?_)
  refine zj_iconst dX0_readTrial_164 zic_1 ?_
  exact zj_zret hr rfl dX0_readTrial_165
def m_X0_readTrial (o0 : Nat) (o1 : Nat) (s : zSt) : Option (Int32 × zSt) :=
  (if zI s o0 1 < 8 then
  zcv (m_X3_advance o1 s) (fun s1 => zcl (m_X3_takeNewName o1 (zT o0 3) (zI s1 o0 1) s1) (fun r3 s2 => (if r3 = 0 then
    some (0, s2)
    else
    zcl (m_X3_take o1 269 s2) (fun r5 s4 => (if r5 = 0 then
      some (0, s4)
      else
      lp_X0_readTrial_50 o0 o1 (fun l2_15 s_15 => m_X0_readTrial_144 o0 o1 l2_15 s_15) zFuel 0 0 s4)))))
  else
  zcl (m_X3_refuse o1 2 s) (fun r19 s18 => (if r19 = 0 ∨ r19 = 1 then some (r19, s18) else none)))
set_option maxRecDepth 100000 in
theorem c_X0_readTrial {w : zWC} {o0 : Nat} {o1 : Nat} {s : zSt} (h_o0 : zC o0 = 0) (h_o1 : zC o1 = 3) {a : Int32 × zSt} (hm : m_X0_readTrial o0 o1 s = some a) : zCn w 3 yX0_readTrial cX0_readTrial 5 (some .boolean) [.ref (zb w + o0), .ref (zb w + o1)] s (zeI a).1 (zeI a).2 :=
  zCn_of (own := RX0) (lv := [some (.ref (zb w + o0)), some (.ref (zb w + o1)), none, none, none]) (by decide +kernel) rfl (Nat.le_of_ble_eq_true rfl) rfl (fun x hr => by
    unfold m_X0_readTrial
    refine zj_aload_n dX0_readTrial_0 rfl ?_
    refine zj_getI dX0_readTrial_1 fl_X0_15 rfl h_o0 ?_
    refine zj_bipush dX0_readTrial_4 zbi_8 ?_
    refine zj_icmp_lt (tgt := 15) dX0_readTrial_6 (by decide) ?_ ?_
    · refine zj_aload_n dX0_readTrial_15 rfl ?_
      refine zj_cVV0 ml_X0_45 (fun a h => c_X3_advance h_o1 h) h_o1 rfl (Nat.le_of_ble_eq_true rfl) (Nat.le_of_ble_eq_true rfl) dX0_readTrial_16 (fun s1 => ?_)
      refine zj_aload_n dX0_readTrial_19 rfl ?_
      refine zj_aload_n dX0_readTrial_20 rfl ?_
      refine zj_getT dX0_readTrial_21 fl_X0_22 rfl h_o0 ?_
      refine zj_aload_n dX0_readTrial_24 rfl ?_
      refine zj_getI dX0_readTrial_25 fl_X0_15 rfl h_o0 ?_
      refine zj_cVI2 ml_X0_48 (fun a h => c_X3_takeNewName h_o1 (zt_0_3 _ h_o0) h) h_o1 rfl (Nat.le_of_ble_eq_true rfl) (Nat.le_of_ble_eq_true rfl) dX0_readTrial_28 (fun r3 s2 => ?_)
      refine zj_if_eq (tgt := 44) dX0_readTrial_31 (by decide) ?_ ?_
      · refine zj_iconst dX0_readTrial_44 zic_0 ?_
        exact zj_zret hr rfl dX0_readTrial_45
      · refine zj_aload_n dX0_readTrial_34 rfl ?_
        refine zj_sipush dX0_readTrial_35 zsi_269 ?_
        refine zj_cVI1 ml_X0_52 (fun a h => c_X3_take h_o1 h) h_o1 rfl (Nat.le_of_ble_eq_true rfl) (Nat.le_of_ble_eq_true rfl) dX0_readTrial_38 (fun r5 s4 => ?_)
        refine zj_if_ne (tgt := 46) dX0_readTrial_41 (by decide) ?_ ?_
        · refine zj_iconst dX0_readTrial_44 zic_0 ?_
          exact zj_zret hr rfl dX0_readTrial_45
        · refine zj_iconst dX0_readTrial_46 zic_0 ?_
          refine zj_istore_n (lv' := [some (.ref (zb w + o0)), some (.ref (zb w + o1)), some (.int 0), none, none]) dX0_readTrial_47 rfl (by decide) rfl rfl ?_
          refine zj_iconst dX0_readTrial_48 zic_0 ?_
          refine zj_istore_n (lv' := [some (.ref (zb w + o0)), some (.ref (zb w + o1)), some (.int 0), some (.int 0), none]) dX0_readTrial_49 rfl (by decide) rfl rfl ?_
          refine jl_X0_readTrial_50 hr h_o0 h_o1 (fun l2_15 s_15 => ?_) zFuel _ _ _
          exact j_X0_readTrial_144 hr h_o0 h_o1
    · refine zj_aload_n dX0_readTrial_9 rfl ?_
      refine zj_iconst dX0_readTrial_10 zic_2 ?_
      refine zj_cVI1 ml_X0_39 (fun a h => c_X3_refuse h_o1 h) h_o1 rfl (Nat.le_of_ble_eq_true rfl) (Nat.le_of_ble_eq_true rfl) dX0_readTrial_11 (fun r19 s18 => ?_)
      exact zj_zretG hr dX0_readTrial_14) hm
def m_X8_within (p0 : Int32) (p1 : Int32) (p2 : Int32) (s : zSt) : Option (Int32 × zSt) :=
  (if p0 < p1 then
  some (0, s)
  else
  (if p2 < p0 then
    some (0, s)
    else
    some (1, s)))
set_option maxRecDepth 100000 in
theorem c_X8_within {w : zWC} {p0 : Int32} {p1 : Int32} {p2 : Int32} {s : zSt}  {a : Int32 × zSt} (hm : m_X8_within p0 p1 p2 s = some a) : zCn w 0 yX8_within cX8_within 3 (some .boolean) [.int p0, .int p1, .int p2] s (zeI a).1 (zeI a).2 :=
  zCn_of (own := RX8) (lv := [some (.int p0), some (.int p1), some (.int p2)]) (by decide +kernel) rfl (Nat.le_of_ble_eq_true rfl) rfl (fun x hr => by
    unfold m_X8_within
    refine zj_iload_n dX8_within_0 rfl ?_
    refine zj_iload_n dX8_within_1 rfl ?_
    refine zj_icmp_lt (tgt := 14) dX8_within_2 (by decide) ?_ ?_
    · refine zj_iconst dX8_within_14 zic_0 ?_
      exact zj_zret hr rfl dX8_within_15
    · refine zj_iload_n dX8_within_5 rfl ?_
      refine zj_iload_n dX8_within_6 rfl ?_
      refine zj_icmp_gt (tgt := 14) dX8_within_7 (by decide) ?_ ?_
      · refine zj_iconst dX8_within_14 zic_0 ?_
        exact zj_zret hr rfl dX8_within_15
      · refine zj_iconst dX8_within_10 zic_1 ?_
        refine zj_goto (tgt := 15) dX8_within_11 (by decide) ?_
        exact zj_zret hr rfl dX8_within_15) hm
