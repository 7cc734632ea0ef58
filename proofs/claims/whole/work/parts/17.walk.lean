def m_X8_fewest (o0 : Nat) (s : zSt) : Option (Int32 × zSt) :=
  (if zC (zR s o0 2) = 5 then zcl (m_X0_fewestTrials (zT (zR s o0 2) 1) s) (fun r3 s2 => some (r3, s2)) else none)
set_option maxRecDepth 100000 in
theorem c_X8_fewest {w : zWC} {o0 : Nat} {s : zSt} (h_o0 : zC o0 = 8) {a : Int32 × zSt} (hm : m_X8_fewest o0 s = some a) : zCn w 2 yX8_fewest cX8_fewest 1 (some .int) [.ref (zb w + o0)] s (zeI a).1 (zeI a).2 :=
  zCn_of (own := RX8) (lv := [some (.ref (zb w + o0))]) (by decide +kernel) rfl (Nat.le_of_ble_eq_true rfl) rfl (fun x hr => by
    unfold m_X8_fewest
    refine zj_aload_n dX8_fewest_0 rfl ?_
    refine zj_getR dX8_fewest_1 fl_X8_28 rfl h_o0 ?_
    refine zj_split (fun hq1 => ?_) (fun _ => zj_none)
    refine zj_getT dX8_fewest_4 fl_X8_200 rfl hq1 ?_
    refine zj_cVI0 ml_X8_215 (fun a h => c_X0_fewestTrials (zt_5_1 _ hq1) h) (zt_5_1 _ hq1) rfl (Nat.le_of_ble_eq_true rfl) (Nat.le_of_ble_eq_true rfl) dX8_fewest_7 (fun r3 s2 => ?_)
    exact zj_iret hr dX8_fewest_10) hm
def m_X8_about (o0 : Nat) (p1 : Int32) (s : zSt) : Option (Int32 × zSt) :=
  (if p1 = 0 then
  (if zC (zR s o0 2) = 5 then some (zI s (zT (zR s o0 2) 1) 0, s) else none)
  else
  (if p1 = 1 then
    (if zC (zR s o0 2) = 5 then some (zI s (zT (zR s o0 2) 1) 1, s) else none)
    else
    (if p1 = 2 then
      (if zC (zR s o0 4) = 2 then some (zI s (zR s o0 4) 0, s) else none)
      else
      (if p1 = 3 then
        (if zC (zR s o0 6) = 6 then some (zI s (zR s o0 6) 0, s) else none)
        else
        (if p1 = 4 then
          some (zI s (zT o0 8) 0, s)
          else
          (if p1 = 5 then
            some (zI s (zT o0 8) 1, s)
            else
            (if p1 = 6 then
              some (zI s (zT o0 0) 1, s)
              else
              (if p1 = 7 then
                (if zC (zR s o0 6) = 6 then some (zI s (zR s o0 6) 1, s) else none)
                else
                some ((-1), s)))))))))
set_option maxRecDepth 100000 in
theorem c_X8_about {w : zWC} {o0 : Nat} {p1 : Int32} {s : zSt} (h_o0 : zC o0 = 8) {a : Int32 × zSt} (hm : m_X8_about o0 p1 s = some a) : zCn w 0 yX8_about cX8_about 2 (some .int) [.ref (zb w + o0), .int p1] s (zeI a).1 (zeI a).2 :=
  zCn_of (own := RX8) (lv := [some (.ref (zb w + o0)), some (.int p1)]) (by decide +kernel) rfl (Nat.le_of_ble_eq_true rfl) rfl (fun x hr => by
    unfold m_X8_about
    refine zj_iload_n dX8_about_0 rfl ?_
    refine zj_split (fun hs1 => ?_) (fun hs1 => ?_)
    · refine zj_tsE (u := 0) (tgt := 48) hs1 dX8_about_1 (by decide) (by decide) rfl (by decide) ?_
      refine zj_aload_n dX8_about_48 rfl ?_
      refine zj_getR dX8_about_49 fl_X8_28 rfl h_o0 ?_
      refine zj_split (fun hq13 => ?_) (fun _ => zj_none)
      refine zj_getT dX8_about_52 fl_X8_200 rfl hq13 ?_
      refine zj_getI dX8_about_55 fl_X8_218 rfl (zt_5_1 _ hq13) ?_
      exact zj_iret hr dX8_about_58
    · refine zj_split (fun hs2 => ?_) (fun hs2 => ?_)
      · refine zj_tsE (u := 1) (tgt := 59) hs2 dX8_about_1 (by decide) (by decide) rfl (by decide) ?_
        refine zj_aload_n dX8_about_59 rfl ?_
        refine zj_getR dX8_about_60 fl_X8_28 rfl h_o0 ?_
        refine zj_split (fun hq12 => ?_) (fun _ => zj_none)
        refine zj_getT dX8_about_63 fl_X8_200 rfl hq12 ?_
        refine zj_getI dX8_about_66 fl_X8_219 rfl (zt_5_1 _ hq12) ?_
        exact zj_iret hr dX8_about_69
      · refine zj_split (fun hs3 => ?_) (fun hs3 => ?_)
        · refine zj_tsE (u := 2) (tgt := 70) hs3 dX8_about_1 (by decide) (by decide) rfl (by decide) ?_
          refine zj_aload_n dX8_about_70 rfl ?_
          refine zj_getR dX8_about_71 fl_X8_38 rfl h_o0 ?_
          refine zj_split (fun hq11 => ?_) (fun _ => zj_none)
          refine zj_getI dX8_about_74 fl_X8_93 rfl hq11 ?_
          exact zj_iret hr dX8_about_77
        · refine zj_split (fun hs4 => ?_) (fun hs4 => ?_)
          · refine zj_tsE (u := 3) (tgt := 78) hs4 dX8_about_1 (by decide) (by decide) rfl (by decide) ?_
            refine zj_aload_n dX8_about_78 rfl ?_
            refine zj_getR dX8_about_79 fl_X8_48 rfl h_o0 ?_
            refine zj_split (fun hq10 => ?_) (fun _ => zj_none)
            refine zj_getI dX8_about_82 fl_X8_97 rfl hq10 ?_
            exact zj_iret hr dX8_about_85
          · refine zj_split (fun hs5 => ?_) (fun hs5 => ?_)
            · refine zj_tsE (u := 4) (tgt := 86) hs5 dX8_about_1 (by decide) (by decide) rfl (by decide) ?_
              refine zj_aload_n dX8_about_86 rfl ?_
              refine zj_getT dX8_about_87 fl_X8_58 rfl h_o0 ?_
              refine zj_getI dX8_about_90 fl_X8_222 rfl (zt_8_8 _ h_o0) ?_
              exact zj_iret hr dX8_about_93
            · refine zj_split (fun hs6 => ?_) (fun hs6 => ?_)
              · refine zj_tsE (u := 5) (tgt := 94) hs6 dX8_about_1 (by decide) (by decide) rfl (by decide) ?_
                refine zj_aload_n dX8_about_94 rfl ?_
                refine zj_getT dX8_about_95 fl_X8_58 rfl h_o0 ?_
                refine zj_getI dX8_about_98 fl_X8_223 rfl (zt_8_8 _ h_o0) ?_
                exact zj_iret hr dX8_about_101
              · refine zj_split (fun hs7 => ?_) (fun hs7 => ?_)
                · refine zj_tsE (u := 6) (tgt := 102) hs7 dX8_about_1 (by decide) (by decide) rfl (by decide) ?_
                  refine zj_aload_n dX8_about_102 rfl ?_
                  refine zj_getT dX8_about_103 fl_X8_10 rfl h_o0 ?_
                  refine zj_getI dX8_about_106 fl_X8_73 rfl (zt_8_0 _ h_o0) ?_
                  exact zj_iret hr dX8_about_109
                · refine zj_split (fun hs8 => ?_) (fun hs8 => ?_)
                  · refine zj_tsE (u := 7) (tgt := 110) hs8 dX8_about_1 (by decide) (by decide) rfl (by decide) ?_
                    refine zj_aload_n dX8_about_110 rfl ?_
                    refine zj_getR dX8_about_111 fl_X8_48 rfl h_o0 ?_
                    refine zj_split (fun hq9 => ?_) (fun _ => zj_none)
                    refine zj_getI dX8_about_114 fl_X8_226 rfl hq9 ?_
                    exact zj_iret hr dX8_about_117
                  · refine zj_tsDef (vs := [0, 1, 2, 3, 4, 5, 6, 7]) (tgt := 118) dX8_about_1 (by decide) (by decide +kernel) (by decide) (by
                      intro u hu
                      simp only [List.mem_cons, List.not_mem_nil, or_false] at hu
                      rcases hu with rfl | rfl | rfl | rfl | rfl | rfl | rfl | rfl
                      · exact hs1
                      · exact hs2
                      · exact hs3
                      · exact hs4
                      · exact hs5
                      · exact hs6
                      · exact hs7
                      · exact hs8
                      ) ?_
                    refine zj_iconst dX8_about_118 zic_m1 ?_
                    exact zj_iret hr dX8_about_119) hm
def bd_X9_four_3 (o0 : Nat) (p1 : Int32) (rec3 : Int32 → zSt → Option (zSt)) (l2 : Int32) (s : zSt) : Option (zSt) :=
  (if l2 < 0 then
  some s
  else
  (if zI s o0 1 < 0 ∨ zN (zT o0 0) ≤ Int32.toNatClampNeg (zI s o0 1) then none else zlt (zsI s (zT o0 0) (Int32.toNatClampNeg (zI s o0 1)) ((p1 >>> (l2 &&& 31)) &&& 255)) (fun s1 => zlt (zsI s1 o0 1 ((zI s1 o0 1) + 1)) (fun s2 => rec3 (l2 + (-8)) s2))))
def lp_X9_four_3 (o0 : Nat) (p1 : Int32) : Nat → Int32 → zSt → Option (zSt)
  | 0, _, _ => none
  | n + 1, l2, s => bd_X9_four_3 o0 p1 (fun l2 s => lp_X9_four_3 o0 p1 n l2 s) l2 s
set_option maxRecDepth 100000 in
theorem jb_X9_four_3 {o0 : Nat} {p1 : Int32} {rec3 : Int32 → zSt → Option (zSt)} {l2 : Int32} {s : zSt} {w : zWC} {x : zCX} (hr : zrt x = none)  (h_o0 : zC o0 = 9) (h_rec3 : ∀ (l2 : Int32) (s : zSt), zJ (zQf w x zeV) w x RX9 cX9_four 3 0 (rec3 l2 s) 3 [some (.ref (zb w + o0)), some (.int p1), some (.int l2)] [] s) : zJ (zQf w x zeV) w x RX9 cX9_four 3 0 (bd_X9_four_3 o0 p1 rec3 l2 s) 3 [some (.ref (zb w + o0)), some (.int p1), some (.int l2)] [] s := by
  unfold bd_X9_four_3
  refine zj_iload_n dX9_four_3 rfl ?_
  refine zj_if_lt (tgt := 39) dX9_four_4 (by decide) ?_ ?_
  · exact zj_vret hr dX9_four_39
  · refine zj_aload_n dX9_four_7 rfl ?_
    refine zj_getT dX9_four_8 fl_X9_7 rfl h_o0 ?_
    refine zj_aload_n dX9_four_11 rfl ?_
    refine zj_getI dX9_four_12 fl_X9_148 rfl h_o0 ?_
    refine zj_iload_n dX9_four_15 rfl ?_
    refine zj_iload_n dX9_four_16 rfl ?_
    refine zj_ishr dX9_four_17 ?_
    refine zj_sipush dX9_four_18 zsi_255 ?_
    refine zj_iand dX9_four_21 ?_
    refine zj_iast dX9_four_22 (zt_9_0 _ h_o0) (fun s1 => ?_)
    refine zj_aload_n dX9_four_23 rfl ?_
    refine zj_dup dX9_four_24 rfl ?_
    refine zj_getI dX9_four_25 fl_X9_148 rfl h_o0 ?_
    refine zj_iconst dX9_four_28 zic_1 ?_
    refine zj_iadd dX9_four_29 ?_
    refine zj_putI dX9_four_30 fl_X9_148 rfl h_o0 pd_9_1 rfl rfl (fun s2 => ?_)
    refine zj_iinc (v2 := l2 + (-8)) (lv' := [some (.ref (zb w + o0)), some (.int p1), some (.int (l2 + (-8)))]) dX9_four_33 rfl (by rw [zic_m8]) (by decide) rfl rfl ?_
    refine zj_goto (tgt := 3) dX9_four_36 (by decide) ?_
    exact h_rec3 _ _
set_option maxRecDepth 100000 in
theorem jl_X9_four_3 {o0 : Nat} {p1 : Int32} {w : zWC} {x : zCX} (hr : zrt x = none)  (h_o0 : zC o0 = 9) : ∀ (n : Nat) (l2 : Int32) (s : zSt), zJ (zQf w x zeV) w x RX9 cX9_four 3 0 (lp_X9_four_3 o0 p1 n l2 s) 3 [some (.ref (zb w + o0)), some (.int p1), some (.int l2)] [] s := by
  intro n
  induction n with
  | zero => intro l2 s; exact zj_none
  | succ n ih => intro l2 s; exact jb_X9_four_3 hr h_o0 (fun l2 s => ih l2 s)
def m_X9_four (o0 : Nat) (p1 : Int32) (s : zSt) : Option (zSt) :=
  lp_X9_four_3 o0 p1 zFuel 24 s
set_option maxRecDepth 100000 in
theorem c_X9_four {w : zWC} {o0 : Nat} {p1 : Int32} {s : zSt} (h_o0 : zC o0 = 9) {a : zSt} (hm : m_X9_four o0 p1 s = some a) : zCn w 0 yX9_four cX9_four 3 none [.ref (zb w + o0), .int p1] s (zeV a).1 (zeV a).2 :=
  zCn_of (own := RX9) (lv := [some (.ref (zb w + o0)), some (.int p1), none]) (by decide +kernel) rfl (Nat.le_of_ble_eq_true rfl) rfl (fun x hr => by
    unfold m_X9_four
    refine zj_bipush dX9_four_0 zbi_24 ?_
    refine zj_istore_n (lv' := [some (.ref (zb w + o0)), some (.int p1), some (.int 24)]) dX9_four_2 rfl (by decide) rfl rfl ?_
    exact jl_X9_four_3 hr h_o0 zFuel _ _) hm
def m_X9_feed (o0 : Nat) (p1 : Int32) (p2 : Int32) (p3 : Int32) (p4 : Int32) (p5 : Int32) (s : zSt) : Option (Int32 × zSt) :=
  (if 800 < (zI s o0 1) + 20 then
  some ((-1), s)
  else
  zcv (m_X9_four o0 p1 s) (fun s1 => zcv (m_X9_four o0 p2 s1) (fun s2 => zcv (m_X9_four o0 p3 s2) (fun s3 => zcv (m_X9_four o0 p4 s3) (fun s4 => zcv (m_X9_four o0 p5 s4) (fun s5 => some (zI s5 o0 1, s5)))))))
set_option maxRecDepth 100000 in
theorem c_X9_feed {w : zWC} {o0 : Nat} {p1 : Int32} {p2 : Int32} {p3 : Int32} {p4 : Int32} {p5 : Int32} {s : zSt} (h_o0 : zC o0 = 9) {a : Int32 × zSt} (hm : m_X9_feed o0 p1 p2 p3 p4 p5 s = some a) : zCn w 1 yX9_feed cX9_feed 6 (some .int) [.ref (zb w + o0), .int p1, .int p2, .int p3, .int p4, .int p5] s (zeI a).1 (zeI a).2 :=
  zCn_of (own := RX9) (lv := [some (.ref (zb w + o0)), some (.int p1), some (.int p2), some (.int p3), some (.int p4), some (.int p5)]) (by decide +kernel) rfl (Nat.le_of_ble_eq_true rfl) rfl (fun x hr => by
    unfold m_X9_feed
    refine zj_aload_n dX9_feed_0 rfl ?_
    refine zj_getI dX9_feed_1 fl_X9_148 rfl h_o0 ?_
    refine zj_bipush dX9_feed_4 zbi_20 ?_
    refine zj_iadd dX9_feed_6 ?_
    refine zj_sipush dX9_feed_7 zsi_800 ?_
    refine zj_icmp_le (tgt := 15) dX9_feed_10 (by decide) ?_ ?_
    · refine zj_iconst dX9_feed_13 zic_m1 ?_
      exact zj_iret hr dX9_feed_14
    · refine zj_aload_n dX9_feed_15 rfl ?_
      refine zj_iload_n dX9_feed_16 rfl ?_
      refine zj_cVV1 ml_X9_151 (fun a h => c_X9_four h_o0 h) h_o0 rfl (Nat.le_of_ble_eq_true rfl) (Nat.le_of_ble_eq_true rfl) dX9_feed_17 (fun s1 => ?_)
      refine zj_aload_n dX9_feed_20 rfl ?_
      refine zj_iload_n dX9_feed_21 rfl ?_
      refine zj_cVV1 ml_X9_151 (fun a h => c_X9_four h_o0 h) h_o0 rfl (Nat.le_of_ble_eq_true rfl) (Nat.le_of_ble_eq_true rfl) dX9_feed_22 (fun s2 => ?_)
      refine zj_aload_n dX9_feed_25 rfl ?_
      refine zj_iload_n dX9_feed_26 rfl ?_
      refine zj_cVV1 ml_X9_151 (fun a h => c_X9_four h_o0 h) h_o0 rfl (Nat.le_of_ble_eq_true rfl) (Nat.le_of_ble_eq_true rfl) dX9_feed_27 (fun s3 => ?_)
      refine zj_aload_n dX9_feed_30 rfl ?_
      refine zj_iload dX9_feed_31 rfl ?_
      refine zj_cVV1 ml_X9_151 (fun a h => c_X9_four h_o0 h) h_o0 rfl (Nat.le_of_ble_eq_true rfl) (Nat.le_of_ble_eq_true rfl) dX9_feed_33 (fun s4 => ?_)
      refine zj_aload_n dX9_feed_36 rfl ?_
      refine zj_iload dX9_feed_37 rfl ?_
      refine zj_cVV1 ml_X9_151 (fun a h => c_X9_four h_o0 h) h_o0 rfl (Nat.le_of_ble_eq_true rfl) (Nat.le_of_ble_eq_true rfl) dX9_feed_39 (fun s5 => ?_)
      refine zj_aload_n dX9_feed_42 rfl ?_
      refine zj_getI dX9_feed_43 fl_X9_148 rfl h_o0 ?_
      exact zj_iret hr dX9_feed_46) hm
def m_X9_end (o0 : Nat) (p1 : Int32) (s : zSt) : Option (Int32 × zSt) :=
  (if p1 < 0 then
  some ((-1), s)
  else
  (if zI s o0 1 < p1 then
    some ((-1), s)
    else
    zlt (zsI s o0 1 p1) (fun s1 => some (p1, s1))))
set_option maxRecDepth 100000 in
theorem c_X9_end {w : zWC} {o0 : Nat} {p1 : Int32} {s : zSt} (h_o0 : zC o0 = 9) {a : Int32 × zSt} (hm : m_X9_end o0 p1 s = some a) : zCn w 0 yX9_end cX9_end 2 (some .int) [.ref (zb w + o0), .int p1] s (zeI a).1 (zeI a).2 :=
  zCn_of (own := RX9) (lv := [some (.ref (zb w + o0)), some (.int p1)]) (by decide +kernel) rfl (Nat.le_of_ble_eq_true rfl) rfl (fun x hr => by
    unfold m_X9_end
    refine zj_iload_n dX9_end_0 rfl ?_
    refine zj_if_lt (tgt := 12) dX9_end_1 (by decide) ?_ ?_
    · refine zj_iconst dX9_end_12 zic_m1 ?_
      exact zj_iret hr dX9_end_13
    · refine zj_iload_n dX9_end_4 rfl ?_
      refine zj_aload_n dX9_end_5 rfl ?_
      refine zj_getI dX9_end_6 fl_X9_148 rfl h_o0 ?_
      refine zj_icmp_le (tgt := 14) dX9_end_9 (by decide) ?_ ?_
      · refine zj_iconst dX9_end_12 zic_m1 ?_
        exact zj_iret hr dX9_end_13
      · refine zj_aload_n dX9_end_14 rfl ?_
        refine zj_iload_n dX9_end_15 rfl ?_
        refine zj_putI dX9_end_16 fl_X9_148 rfl h_o0 pd_9_1 rfl rfl (fun s1 => ?_)
        refine zj_iload_n dX9_end_19 rfl ?_
        exact zj_iret hr dX9_end_20) hm
def m_X9_here (o0 : Nat) (p1 : Int32) (s : zSt) : Option (Int32 × zSt) :=
  (if (zI s o0 4) + p1 < zI s o0 5 then
  (if (zI s o0 4) + p1 < 0 ∨ zN (zT o0 0) ≤ Int32.toNatClampNeg ((zI s o0 4) + p1) then none else some (zI s (zT o0 0) (Int32.toNatClampNeg ((zI s o0 4) + p1)), s))
  else
  some ((-1), s))
set_option maxRecDepth 100000 in
theorem c_X9_here {w : zWC} {o0 : Nat} {p1 : Int32} {s : zSt} (h_o0 : zC o0 = 9) {a : Int32 × zSt} (hm : m_X9_here o0 p1 s = some a) : zCn w 0 yX9_here cX9_here 2 (some .int) [.ref (zb w + o0), .int p1] s (zeI a).1 (zeI a).2 :=
  zCn_of (own := RX9) (lv := [some (.ref (zb w + o0)), some (.int p1)]) (by decide +kernel) rfl (Nat.le_of_ble_eq_true rfl) rfl (fun x hr => by
    unfold m_X9_here
    refine zj_aload_n dX9_here_0 rfl ?_
    refine zj_getI dX9_here_1 fl_X9_155 rfl h_o0 ?_
    refine zj_iload_n dX9_here_4 rfl ?_
    refine zj_iadd dX9_here_5 ?_
    refine zj_aload_n dX9_here_6 rfl ?_
    refine zj_getI dX9_here_7 fl_X9_158 rfl h_o0 ?_
    refine zj_icmp_ge (tgt := 27) dX9_here_10 (by decide) ?_ ?_
    · refine zj_aload_n dX9_here_13 rfl ?_
      refine zj_getT dX9_here_14 fl_X9_7 rfl h_o0 ?_
      refine zj_aload_n dX9_here_17 rfl ?_
      refine zj_getI dX9_here_18 fl_X9_155 rfl h_o0 ?_
      refine zj_iload_n dX9_here_21 rfl ?_
      refine zj_iadd dX9_here_22 ?_
      refine zj_iald dX9_here_23 (zt_9_0 _ h_o0) ?_
      refine zj_goto (tgt := 28) dX9_here_24 (by decide) ?_
      exact zj_iret hr dX9_here_28
    · refine zj_iconst dX9_here_27 zic_m1 ?_
      exact zj_iret hr dX9_here_28) hm
def m_X9_isLetter (p0 : Int32) (s : zSt) : Option (Int32 × zSt) :=
  (if p0 < 97 then
  some (0, s)
  else
  (if 122 < p0 then
    some (0, s)
    else
    some (1, s)))
set_option maxRecDepth 100000 in
theorem c_X9_isLetter {w : zWC} {p0 : Int32} {s : zSt}  {a : Int32 × zSt} (hm : m_X9_isLetter p0 s = some a) : zCn w 0 yX9_isLetter cX9_isLetter 1 (some .boolean) [.int p0] s (zeI a).1 (zeI a).2 :=
  zCn_of (own := RX9) (lv := [some (.int p0)]) (by decide +kernel) rfl (Nat.le_of_ble_eq_true rfl) rfl (fun x hr => by
    unfold m_X9_isLetter
    refine zj_iload_n dX9_isLetter_0 rfl ?_
    refine zj_bipush dX9_isLetter_1 zbi_97 ?_
    refine zj_icmp_lt (tgt := 16) dX9_isLetter_3 (by decide) ?_ ?_
    · refine zj_iconst dX9_isLetter_16 zic_0 ?_
      exact zj_zret hr rfl dX9_isLetter_17
    · refine zj_iload_n dX9_isLetter_6 rfl ?_
      refine zj_bipush dX9_isLetter_7 zbi_122 ?_
      refine zj_icmp_gt (tgt := 16) dX9_isLetter_9 (by decide) ?_ ?_
      · refine zj_iconst dX9_isLetter_16 zic_0 ?_
        exact zj_zret hr rfl dX9_isLetter_17
      · refine zj_iconst dX9_isLetter_12 zic_1 ?_
        refine zj_goto (tgt := 17) dX9_isLetter_13 (by decide) ?_
        exact zj_zret hr rfl dX9_isLetter_17) hm
def m_X9_isDigit (p0 : Int32) (s : zSt) : Option (Int32 × zSt) :=
  (if p0 < 48 then
  some (0, s)
  else
  (if 57 < p0 then
    some (0, s)
    else
    some (1, s)))
set_option maxRecDepth 100000 in
theorem c_X9_isDigit {w : zWC} {p0 : Int32} {s : zSt}  {a : Int32 × zSt} (hm : m_X9_isDigit p0 s = some a) : zCn w 0 yX9_isDigit cX9_isDigit 1 (some .boolean) [.int p0] s (zeI a).1 (zeI a).2 :=
  zCn_of (own := RX9) (lv := [some (.int p0)]) (by decide +kernel) rfl (Nat.le_of_ble_eq_true rfl) rfl (fun x hr => by
    unfold m_X9_isDigit
    refine zj_iload_n dX9_isDigit_0 rfl ?_
    refine zj_bipush dX9_isDigit_1 zbi_48 ?_
    refine zj_icmp_lt (tgt := 16) dX9_isDigit_3 (by decide) ?_ ?_
    · refine zj_iconst dX9_isDigit_16 zic_0 ?_
      exact zj_zret hr rfl dX9_isDigit_17
    · refine zj_iload_n dX9_isDigit_6 rfl ?_
      refine zj_bipush dX9_isDigit_7 zbi_57 ?_
      refine zj_icmp_gt (tgt := 16) dX9_isDigit_9 (by decide) ?_ ?_
      · refine zj_iconst dX9_isDigit_16 zic_0 ?_
        exact zj_zret hr rfl dX9_isDigit_17
      · refine zj_iconst dX9_isDigit_12 zic_1 ?_
        refine zj_goto (tgt := 17) dX9_isDigit_13 (by decide) ?_
        exact zj_zret hr rfl dX9_isDigit_17) hm
def m_X9_isSign (o0 : Nat) (p1 : Int32) (s : zSt) : Option (Int32 × zSt) :=
  (if p1 = 59 then
  some (1, s)
  else
  (if p1 = 45 then
    some (1, s)
    else
    (if zI s o0 10 = 0 then
      some (0, s)
      else
      (if p1 = 40 then
        some (1, s)
        else
        (if p1 = 41 then
          some (1, s)
          else
          (if p1 = 43 then
            some (1, s)
            else
            (if p1 = 42 then
              some (1, s)
              else
              (if p1 = 47 then
                some (1, s)
                else
                some (0, s)))))))))
set_option maxRecDepth 100000 in
theorem c_X9_isSign {w : zWC} {o0 : Nat} {p1 : Int32} {s : zSt} (h_o0 : zC o0 = 9) {a : Int32 × zSt} (hm : m_X9_isSign o0 p1 s = some a) : zCn w 0 yX9_isSign cX9_isSign 2 (some .boolean) [.ref (zb w + o0), .int p1] s (zeI a).1 (zeI a).2 :=
  zCn_of (own := RX9) (lv := [some (.ref (zb w + o0)), some (.int p1)]) (by decide +kernel) rfl (Nat.le_of_ble_eq_true rfl) rfl (fun x hr => by
    unfold m_X9_isSign
    refine zj_iload_n dX9_isSign_0 rfl ?_
    refine zj_bipush dX9_isSign_1 zbi_59 ?_
    refine zj_icmp_eq (tgt := 49) dX9_isSign_3 (by decide) ?_ ?_
    · refine zj_iconst dX9_isSign_49 zic_1 ?_
      refine zj_goto (tgt := 54) dX9_isSign_50 (by decide) ?_
      exact zj_zret hr rfl dX9_isSign_54
    · refine zj_iload_n dX9_isSign_6 rfl ?_
      refine zj_bipush dX9_isSign_7 zbi_45 ?_
      refine zj_icmp_eq (tgt := 49) dX9_isSign_9 (by decide) ?_ ?_
      · refine zj_iconst dX9_isSign_49 zic_1 ?_
        refine zj_goto (tgt := 54) dX9_isSign_50 (by decide) ?_
        exact zj_zret hr rfl dX9_isSign_54
      · refine zj_aload_n dX9_isSign_12 rfl ?_
        refine zj_getI dX9_isSign_13 fl_X9_161 rfl h_o0 ?_
        refine zj_if_eq (tgt := 53) dX9_isSign_16 (by decide) ?_ ?_
        · refine zj_iconst dX9_isSign_53 zic_0 ?_
          exact zj_zret hr rfl dX9_isSign_54
        · refine zj_iload_n dX9_isSign_19 rfl ?_
          refine zj_bipush dX9_isSign_20 zbi_40 ?_
          refine zj_icmp_eq (tgt := 49) dX9_isSign_22 (by decide) ?_ ?_
          · refine zj_iconst dX9_isSign_49 zic_1 ?_
            refine zj_goto (tgt := 54) dX9_isSign_50 (by decide) ?_
            exact zj_zret hr rfl dX9_isSign_54
          · refine zj_iload_n dX9_isSign_25 rfl ?_
            refine zj_bipush dX9_isSign_26 zbi_41 ?_
            refine zj_icmp_eq (tgt := 49) dX9_isSign_28 (by decide) ?_ ?_
            · refine zj_iconst dX9_isSign_49 zic_1 ?_
              refine zj_goto (tgt := 54) dX9_isSign_50 (by decide) ?_
              exact zj_zret hr rfl dX9_isSign_54
            · refine zj_iload_n dX9_isSign_31 rfl ?_
              refine zj_bipush dX9_isSign_32 zbi_43 ?_
              refine zj_icmp_eq (tgt := 49) dX9_isSign_34 (by decide) ?_ ?_
              · refine zj_iconst dX9_isSign_49 zic_1 ?_
                refine zj_goto (tgt := 54) dX9_isSign_50 (by decide) ?_
                exact zj_zret hr rfl dX9_isSign_54
              · refine zj_iload_n dX9_isSign_37 rfl ?_
                refine zj_bipush dX9_isSign_38 zbi_42 ?_
                refine zj_icmp_eq (tgt := 49) dX9_isSign_40 (by decide) ?_ ?_
                · refine zj_iconst dX9_isSign_49 zic_1 ?_
                  refine zj_goto (tgt := 54) dX9_isSign_50 (by decide) ?_
                  exact zj_zret hr rfl dX9_isSign_54
                · refine zj_iload_n dX9_isSign_43 rfl ?_
                  refine zj_bipush dX9_isSign_44 zbi_47 ?_
                  refine zj_icmp_ne (tgt := 53) dX9_isSign_46 (by decide) ?_ ?_
                  · refine zj_iconst dX9_isSign_49 zic_1 ?_
                    refine zj_goto (tgt := 54) dX9_isSign_50 (by decide) ?_
                    exact zj_zret hr rfl dX9_isSign_54
                  · refine zj_iconst dX9_isSign_53 zic_0 ?_
                    exact zj_zret hr rfl dX9_isSign_54) hm
def m_X9_token_20 (o0 : Nat) (rec0 : zSt → Option (zSt)) (k33 : zSt → Option (zSt)) (s : zSt) : Option (zSt) :=
  zlt (zsI s o0 4 ((zI s o0 4) + 1)) (fun s3 => rec0  s3)
set_option maxRecDepth 100000 in
theorem j_X9_token_20 {o0 : Nat} {rec0 : zSt → Option (zSt)} {k33 : zSt → Option (zSt)} {s : zSt} {w : zWC} {x : zCX} (hr : zrt x = none)  (h_o0 : zC o0 = 9) (h_rec0 : ∀  (s : zSt), zJ (zQf w x zeV) w x RX9 cX9_token 3 1 (rec0  s) 0 [some (.ref (zb w + o0)), none, none] [] s) (h_k33 : ∀  (s : zSt), zJ (zQf w x zeV) w x RX9 cX9_token 3 1 (k33  s) 33 [some (.ref (zb w + o0)), none, none] [] s) : zJ (zQf w x zeV) w x RX9 cX9_token 3 1 (m_X9_token_20 o0 rec0 k33 s) 20 [some (.ref (zb w + o0)), none, none] [] s := by
  unfold m_X9_token_20
  refine zj_aload_n dX9_token_20 rfl ?_
  refine zj_dup dX9_token_21 rfl ?_
  refine zj_getI dX9_token_22 fl_X9_155 rfl h_o0 ?_
  refine zj_iconst dX9_token_25 zic_1 ?_
  refine zj_iadd dX9_token_26 ?_
  refine zj_putI dX9_token_27 fl_X9_155 rfl h_o0 pd_9_4 rfl rfl (fun s3 => ?_)
  refine zj_goto (tgt := 0) dX9_token_30 (by decide) ?_
  exact h_rec0 _
def bd_X9_token_0 (o0 : Nat) (rec0 : zSt → Option (zSt)) (k33 : zSt → Option (zSt)) (s : zSt) : Option (zSt) :=
  zcl (m_X9_here o0 0 s) (fun r2 s1 => (if r2 = 32 then
  m_X9_token_20 o0 rec0 k33 s1
  else
  zcl (m_X9_here o0 0 s1) (fun r5 s4 => (if r5 = 10 then
    m_X9_token_20 o0 rec0 k33 s4
    else
    k33  s4))))
def lp_X9_token_0 (o0 : Nat) (k33 : zSt → Option (zSt)) : Nat → zSt → Option (zSt)
  | 0, _ => none
  | n + 1, s => bd_X9_token_0 o0 (fun s => lp_X9_token_0 o0 k33 n s) k33 s
set_option maxRecDepth 100000 in
theorem jb_X9_token_0 {o0 : Nat} {rec0 : zSt → Option (zSt)} {k33 : zSt → Option (zSt)} {s : zSt} {w : zWC} {x : zCX} (hr : zrt x = none)  (h_o0 : zC o0 = 9) (h_rec0 : ∀  (s : zSt), zJ (zQf w x zeV) w x RX9 cX9_token 3 1 (rec0  s) 0 [some (.ref (zb w + o0)), none, none] [] s) (h_k33 : ∀  (s : zSt), zJ (zQf w x zeV) w x RX9 cX9_token 3 1 (k33  s) 33 [some (.ref (zb w + o0)), none, none] [] s) : zJ (zQf w x zeV) w x RX9 cX9_token 3 1 (bd_X9_token_0 o0 rec0 k33 s) 0 [some (.ref (zb w + o0)), none, none] [] s := by
  unfold bd_X9_token_0
  refine zj_aload_n dX9_token_0 rfl ?_
  refine zj_iconst dX9_token_1 zic_0 ?_
  refine zj_cVI1 ml_X9_165 (fun a h => c_X9_here h_o0 h) h_o0 rfl (Nat.le_of_ble_eq_true rfl) (Nat.le_of_ble_eq_true rfl) dX9_token_2 (fun r2 s1 => ?_)
  refine zj_bipush dX9_token_5 zbi_32 ?_
  refine zj_icmp_eq (tgt := 20) dX9_token_7 (by decide) ?_ ?_
  · exact j_X9_token_20 hr h_o0 h_rec0 h_k33
  · refine zj_aload_n dX9_token_10 rfl ?_
    refine zj_iconst dX9_token_11 zic_0 ?_
    refine zj_cVI1 ml_X9_165 (fun a h => c_X9_here h_o0 h) h_o0 rfl (Nat.le_of_ble_eq_true rfl) (Nat.le_of_ble_eq_true rfl) dX9_token_12 (fun r5 s4 => ?_)
    refine zj_bipush dX9_token_15 zbi_10 ?_
    refine zj_icmp_ne (tgt := 33) dX9_token_17 (by decide) ?_ ?_
    · exact j_X9_token_20 hr h_o0 h_rec0 h_k33
    · exact h_k33 _
set_option maxRecDepth 100000 in
theorem jl_X9_token_0 {o0 : Nat} {k33 : zSt → Option (zSt)} {w : zWC} {x : zCX} (hr : zrt x = none)  (h_o0 : zC o0 = 9) (h_k33 : ∀  (s : zSt), zJ (zQf w x zeV) w x RX9 cX9_token 3 1 (k33  s) 33 [some (.ref (zb w + o0)), none, none] [] s) : ∀ (n : Nat)  (s : zSt), zJ (zQf w x zeV) w x RX9 cX9_token 3 1 (lp_X9_token_0 o0 k33 n s) 0 [some (.ref (zb w + o0)), none, none] [] s := by
  intro n
  induction n with
  | zero => intro s; exact zj_none
  | succ n ih => intro s; exact jb_X9_token_0 hr h_o0 (fun s => ih s) h_k33
def m_X9_token_233 (o0 : Nat) (l2 : Int32) (s : zSt) : Option (zSt) :=
  (if zI s o0 6 = 3 then
  some s
  else
  zlt (zsI s o0 4 ((zI s o0 4) + l2)) (fun s13 => some s13))
set_option maxRecDepth 100000 in
theorem j_X9_token_233 {o0 : Nat} {l2 : Int32} {s : zSt} {w : zWC} {x : zCX} (hr : zrt x = none)  (h_o0 : zC o0 = 9) : zJ (zQf w x zeV) w x RX9 cX9_token 3 1 (m_X9_token_233 o0 l2 s) 233 [some (.ref (zb w + o0)), none, some (.int l2)] [] s := by
  unfold m_X9_token_233
  refine zj_aload_n dX9_token_233 rfl ?_
  refine zj_getI dX9_token_234 fl_X9_179 rfl h_o0 ?_
  refine zj_iconst dX9_token_237 zic_3 ?_
  refine zj_icmp_eq (tgt := 251) dX9_token_238 (by decide) ?_ ?_
  · exact zj_vret hr dX9_token_251
  · refine zj_aload_n dX9_token_241 rfl ?_
    refine zj_dup dX9_token_242 rfl ?_
    refine zj_getI dX9_token_243 fl_X9_155 rfl h_o0 ?_
    refine zj_iload_n dX9_token_246 rfl ?_
    refine zj_iadd dX9_token_247 ?_
    refine zj_putI dX9_token_248 fl_X9_155 rfl h_o0 pd_9_4 rfl rfl (fun s13 => ?_)
    exact zj_vret hr dX9_token_251
def m_X9_token_230 (o0 : Nat) (l2 : Int32) (t0 : Nat) (t1 : Int32) (s : zSt) : Option (zSt) :=
  zlt (zsI s t0 6 t1) (fun s20 => m_X9_token_233 o0 l2 s20)
set_option maxRecDepth 100000 in
theorem j_X9_token_230 {o0 : Nat} {l2 : Int32} {t0 : Nat} {t1 : Int32} {s : zSt} {w : zWC} {x : zCX} (hr : zrt x = none)  (h_o0 : zC o0 = 9) (ht0 : zC t0 = 9) : zJ (zQf w x zeV) w x RX9 cX9_token 3 1 (m_X9_token_230 o0 l2 t0 t1 s) 230 [some (.ref (zb w + o0)), none, some (.int l2)] [.int t1, .ref (zb w + t0)] s := by
  unfold m_X9_token_230
  refine zj_putI dX9_token_230 fl_X9_179 rfl ht0 pd_9_6 rfl rfl (fun s20 => ?_)
  exact j_X9_token_233 hr h_o0
def m_X9_token_180 (o0 : Nat) (rec144 : Int32 → zSt → Option (zSt)) (k186 : Int32 → zSt → Option (zSt)) (l2 : Int32) (s : zSt) : Option (zSt) :=
  rec144 (l2 + 1) s
set_option maxRecDepth 100000 in
theorem j_X9_token_180 {o0 : Nat} {rec144 : Int32 → zSt → Option (zSt)} {k186 : Int32 → zSt → Option (zSt)} {l2 : Int32} {s : zSt} {w : zWC} {x : zCX} (hr : zrt x = none)  (h_o0 : zC o0 = 9) (h_rec144 : ∀ (l2 : Int32) (s : zSt), zJ (zQf w x zeV) w x RX9 cX9_token 3 1 (rec144 l2 s) 144 [some (.ref (zb w + o0)), none, some (.int l2)] [] s) (h_k186 : ∀ (l2 : Int32) (s : zSt), zJ (zQf w x zeV) w x RX9 cX9_token 3 1 (k186 l2 s) 186 [some (.ref (zb w + o0)), none, some (.int l2)] [] s) : zJ (zQf w x zeV) w x RX9 cX9_token 3 1 (m_X9_token_180 o0 rec144 k186 l2 s) 180 [some (.ref (zb w + o0)), none, some (.int l2)] [] s := by
  unfold m_X9_token_180
  refine zj_iinc (v2 := l2 + 1) (lv' := [some (.ref (zb w + o0)), none, some (.int (l2 + 1))]) dX9_token_180 rfl (by rw [zic_1]) (by decide) rfl rfl ?_
  refine zj_goto (tgt := 144) dX9_token_183 (by decide) ?_
  exact h_rec144 _ _
def bd_X9_token_144 (o0 : Nat) (rec144 : Int32 → zSt → Option (zSt)) (k186 : Int32 → zSt → Option (zSt)) (l2 : Int32) (s : zSt) : Option (zSt) :=
  zcl (m_X9_here o0 l2 s) (fun r22 s21 => zcl (m_X9_isDigit r22 s21) (fun r24 s23 => (if r24 = 0 then
  k186 l2 s23
  else
  (if l2 < 4 then
    zcl (m_X9_here o0 l2 s23) (fun r26 s25 => zlt (zsI s25 o0 8 ((((10 : Int32) * (zI s23 o0 8)) + r26) - 48)) (fun s27 => m_X9_token_180 o0 rec144 k186 l2 s27))
    else
    m_X9_token_180 o0 rec144 k186 l2 s23))))
def lp_X9_token_144 (o0 : Nat) (k186 : Int32 → zSt → Option (zSt)) : Nat → Int32 → zSt → Option (zSt)
  | 0, _, _ => none
  | n + 1, l2, s => bd_X9_token_144 o0 (fun l2 s => lp_X9_token_144 o0 k186 n l2 s) k186 l2 s
set_option maxRecDepth 100000 in
theorem jb_X9_token_144 {o0 : Nat} {rec144 : Int32 → zSt → Option (zSt)} {k186 : Int32 → zSt → Option (zSt)} {l2 : Int32} {s : zSt} {w : zWC} {x : zCX} (hr : zrt x = none)  (h_o0 : zC o0 = 9) (h_rec144 : ∀ (l2 : Int32) (s : zSt), zJ (zQf w x zeV) w x RX9 cX9_token 3 1 (rec144 l2 s) 144 [some (.ref (zb w + o0)), none, some (.int l2)] [] s) (h_k186 : ∀ (l2 : Int32) (s : zSt), zJ (zQf w x zeV) w x RX9 cX9_token 3 1 (k186 l2 s) 186 [some (.ref (zb w + o0)), none, some (.int l2)] [] s) : zJ (zQf w x zeV) w x RX9 cX9_token 3 1 (bd_X9_token_144 o0 rec144 k186 l2 s) 144 [some (.ref (zb w + o0)), none, some (.int l2)] [] s := by
  unfold bd_X9_token_144
  refine zj_aload_n dX9_token_144 rfl ?_
  refine zj_iload_n dX9_token_145 rfl ?_
  refine zj_cVI1 ml_X9_165 (fun a h => c_X9_here h_o0 h) h_o0 rfl (Nat.le_of_ble_eq_true rfl) (Nat.le_of_ble_eq_true rfl) dX9_token_146 (fun r22 s21 => ?_)
  refine zj_cSI1 ml_X9_186 (fun a h => c_X9_isDigit  h) (Nat.le_of_ble_eq_true rfl) (Nat.le_of_ble_eq_true rfl) dX9_token_149 (fun r24 s23 => ?_)
  refine zj_if_eq (tgt := 186) dX9_token_152 (by decide) ?_ ?_
  · exact h_k186 _ _
  · refine zj_iload_n dX9_token_155 rfl ?_
    refine zj_iconst dX9_token_156 zic_4 ?_
    refine zj_icmp_ge (tgt := 180) dX9_token_157 (by decide) ?_ ?_
    · refine zj_aload_n dX9_token_160 rfl ?_
      refine zj_bipush dX9_token_161 zbi_10 ?_
      refine zj_aload_n dX9_token_163 rfl ?_
      refine zj_getI dX9_token_164 fl_X9_176 rfl h_o0 ?_
      refine zj_imul dX9_token_167 ?_
      refine zj_aload_n dX9_token_168 rfl ?_
      refine zj_iload_n dX9_token_169 rfl ?_
      refine zj_cVI1 ml_X9_165 (fun a h => c_X9_here h_o0 h) h_o0 rfl (Nat.le_of_ble_eq_true rfl) (Nat.le_of_ble_eq_true rfl) dX9_token_170 (fun r26 s25 => ?_)
      refine zj_iadd dX9_token_173 ?_
      refine zj_bipush dX9_token_174 zbi_48 ?_
      refine zj_isub dX9_token_176 ?_
      refine zj_putI dX9_token_177 fl_X9_176 rfl h_o0 pd_9_8 rfl rfl (fun s27 => ?_)
      exact j_X9_token_180 hr h_o0 h_rec144 h_k186
    · exact j_X9_token_180 hr h_o0 h_rec144 h_k186
set_option maxRecDepth 100000 in
theorem jl_X9_token_144 {o0 : Nat} {k186 : Int32 → zSt → Option (zSt)} {w : zWC} {x : zCX} (hr : zrt x = none)  (h_o0 : zC o0 = 9) (h_k186 : ∀ (l2 : Int32) (s : zSt), zJ (zQf w x zeV) w x RX9 cX9_token 3 1 (k186 l2 s) 186 [some (.ref (zb w + o0)), none, some (.int l2)] [] s) : ∀ (n : Nat) (l2 : Int32) (s : zSt), zJ (zQf w x zeV) w x RX9 cX9_token 3 1 (lp_X9_token_144 o0 k186 n l2 s) 144 [some (.ref (zb w + o0)), none, some (.int l2)] [] s := by
  intro n
  induction n with
  | zero => intro l2 s; exact zj_none
  | succ n ih => intro l2 s; exact jb_X9_token_144 hr h_o0 (fun l2 s => ih l2 s) h_k186
def m_X9_token_208 (o0 : Nat) (l2 : Int32) (t0 : Nat) (t1 : Int32) (s : zSt) : Option (zSt) :=
  zlt (zsI s t0 6 t1) (fun s29 => m_X9_token_233 o0 l2 s29)
set_option maxRecDepth 100000 in
theorem j_X9_token_208 {o0 : Nat} {l2 : Int32} {t0 : Nat} {t1 : Int32} {s : zSt} {w : zWC} {x : zCX} (hr : zrt x = none)  (h_o0 : zC o0 = 9) (ht0 : zC t0 = 9) : zJ (zQf w x zeV) w x RX9 cX9_token 3 1 (m_X9_token_208 o0 l2 t0 t1 s) 208 [some (.ref (zb w + o0)), none, some (.int l2)] [.int t1, .ref (zb w + t0)] s := by
  unfold m_X9_token_208
  refine zj_putI dX9_token_208 fl_X9_179 rfl ht0 pd_9_6 rfl rfl (fun s29 => ?_)
  refine zj_goto (tgt := 233) dX9_token_211 (by decide) ?_
  exact j_X9_token_233 hr h_o0
def m_X9_token_203 (o0 : Nat) (l2 : Int32) (t0 : Nat) (s : zSt) : Option (zSt) :=
  m_X9_token_208 o0 l2 t0 3 s
set_option maxRecDepth 100000 in
theorem j_X9_token_203 {o0 : Nat} {l2 : Int32} {t0 : Nat} {s : zSt} {w : zWC} {x : zCX} (hr : zrt x = none)  (h_o0 : zC o0 = 9) (ht0 : zC t0 = 9) : zJ (zQf w x zeV) w x RX9 cX9_token 3 1 (m_X9_token_203 o0 l2 t0 s) 203 [some (.ref (zb w + o0)), none, some (.int l2)] [.ref (zb w + t0)] s := by
  unfold m_X9_token_203
  refine zj_iconst dX9_token_203 zic_3 ?_
  refine zj_goto (tgt := 208) dX9_token_204 (by decide) ?_
  exact j_X9_token_208 hr h_o0 ht0
def m_X9_token_113 (o0 : Nat) (rec78 : Int32 → zSt → Option (zSt)) (k119 : Int32 → zSt → Option (zSt)) (l2 : Int32) (s : zSt) : Option (zSt) :=
  rec78 (l2 + 1) s
set_option maxRecDepth 100000 in
theorem j_X9_token_113 {o0 : Nat} {rec78 : Int32 → zSt → Option (zSt)} {k119 : Int32 → zSt → Option (zSt)} {l2 : Int32} {s : zSt} {w : zWC} {x : zCX} (hr : zrt x = none)  (h_o0 : zC o0 = 9) (h_rec78 : ∀ (l2 : Int32) (s : zSt), zJ (zQf w x zeV) w x RX9 cX9_token 3 1 (rec78 l2 s) 78 [some (.ref (zb w + o0)), none, some (.int l2)] [] s) (h_k119 : ∀ (l2 : Int32) (s : zSt), zJ (zQf w x zeV) w x RX9 cX9_token 3 1 (k119 l2 s) 119 [some (.ref (zb w + o0)), none, some (.int l2)] [] s) : zJ (zQf w x zeV) w x RX9 cX9_token 3 1 (m_X9_token_113 o0 rec78 k119 l2 s) 113 [some (.ref (zb w + o0)), none, some (.int l2)] [] s := by
  unfold m_X9_token_113
  refine zj_iinc (v2 := l2 + 1) (lv' := [some (.ref (zb w + o0)), none, some (.int (l2 + 1))]) dX9_token_113 rfl (by rw [zic_1]) (by decide) rfl rfl ?_
  refine zj_goto (tgt := 78) dX9_token_116 (by decide) ?_
  exact h_rec78 _ _
def bd_X9_token_78 (o0 : Nat) (rec78 : Int32 → zSt → Option (zSt)) (k119 : Int32 → zSt → Option (zSt)) (l2 : Int32) (s : zSt) : Option (zSt) :=
  zcl (m_X9_here o0 l2 s) (fun r35 s34 => zcl (m_X9_isLetter r35 s34) (fun r37 s36 => (if r37 = 0 then
  k119 l2 s36
  else
  (if l2 < 8 then
    zcl (m_X9_here o0 l2 s36) (fun r39 s38 => zlt (zsL s38 o0 9 (((zL s36 o0 9) <<< ((8 : Int32).toInt64 &&& 63)) ||| r39.toInt64)) (fun s40 => m_X9_token_113 o0 rec78 k119 l2 s40))
    else
    m_X9_token_113 o0 rec78 k119 l2 s36))))
def lp_X9_token_78 (o0 : Nat) (k119 : Int32 → zSt → Option (zSt)) : Nat → Int32 → zSt → Option (zSt)
  | 0, _, _ => none
  | n + 1, l2, s => bd_X9_token_78 o0 (fun l2 s => lp_X9_token_78 o0 k119 n l2 s) k119 l2 s
set_option maxRecDepth 100000 in
theorem jb_X9_token_78 {o0 : Nat} {rec78 : Int32 → zSt → Option (zSt)} {k119 : Int32 → zSt → Option (zSt)} {l2 : Int32} {s : zSt} {w : zWC} {x : zCX} (hr : zrt x = none)  (h_o0 : zC o0 = 9) (h_rec78 : ∀ (l2 : Int32) (s : zSt), zJ (zQf w x zeV) w x RX9 cX9_token 3 1 (rec78 l2 s) 78 [some (.ref (zb w + o0)), none, some (.int l2)] [] s) (h_k119 : ∀ (l2 : Int32) (s : zSt), zJ (zQf w x zeV) w x RX9 cX9_token 3 1 (k119 l2 s) 119 [some (.ref (zb w + o0)), none, some (.int l2)] [] s) : zJ (zQf w x zeV) w x RX9 cX9_token 3 1 (bd_X9_token_78 o0 rec78 k119 l2 s) 78 [some (.ref (zb w + o0)), none, some (.int l2)] [] s := by
  unfold bd_X9_token_78
  refine zj_aload_n dX9_token_78 rfl ?_
  refine zj_iload_n dX9_token_79 rfl ?_
  refine zj_cVI1 ml_X9_165 (fun a h => c_X9_here h_o0 h) h_o0 rfl (Nat.le_of_ble_eq_true rfl) (Nat.le_of_ble_eq_true rfl) dX9_token_80 (fun r35 s34 => ?_)
  refine zj_cSI1 ml_X9_182 (fun a h => c_X9_isLetter  h) (Nat.le_of_ble_eq_true rfl) (Nat.le_of_ble_eq_true rfl) dX9_token_83 (fun r37 s36 => ?_)
  refine zj_if_eq (tgt := 119) dX9_token_86 (by decide) ?_ ?_
  · exact h_k119 _ _
  · refine zj_iload_n dX9_token_89 rfl ?_
    refine zj_bipush dX9_token_90 zbi_8 ?_
    refine zj_icmp_ge (tgt := 113) dX9_token_92 (by decide) ?_ ?_
    · refine zj_aload_n dX9_token_95 rfl ?_
      refine zj_aload_n dX9_token_96 rfl ?_
      refine zj_getL dX9_token_97 fl_X9_172 rfl h_o0 ?_
      refine zj_bipush dX9_token_100 zbi_8 ?_
      refine zj_lshl dX9_token_102 ?_
      refine zj_aload_n dX9_token_103 rfl ?_
      refine zj_iload_n dX9_token_104 rfl ?_
      refine zj_cVI1 ml_X9_165 (fun a h => c_X9_here h_o0 h) h_o0 rfl (Nat.le_of_ble_eq_true rfl) (Nat.le_of_ble_eq_true rfl) dX9_token_105 (fun r39 s38 => ?_)
      refine zj_i2l dX9_token_108 ?_
      refine zj_lor dX9_token_109 ?_
      refine zj_putL dX9_token_110 fl_X9_172 rfl h_o0 pd_9_9 rfl rfl (fun s40 => ?_)
      exact j_X9_token_113 hr h_o0 h_rec78 h_k119
    · exact j_X9_token_113 hr h_o0 h_rec78 h_k119
set_option maxRecDepth 100000 in
theorem jl_X9_token_78 {o0 : Nat} {k119 : Int32 → zSt → Option (zSt)} {w : zWC} {x : zCX} (hr : zrt x = none)  (h_o0 : zC o0 = 9) (h_k119 : ∀ (l2 : Int32) (s : zSt), zJ (zQf w x zeV) w x RX9 cX9_token 3 1 (k119 l2 s) 119 [some (.ref (zb w + o0)), none, some (.int l2)] [] s) : ∀ (n : Nat) (l2 : Int32) (s : zSt), zJ (zQf w x zeV) w x RX9 cX9_token 3 1 (lp_X9_token_78 o0 k119 n l2 s) 78 [some (.ref (zb w + o0)), none, some (.int l2)] [] s := by
  intro n
  induction n with
  | zero => intro l2 s; exact zj_none
  | succ n ih => intro l2 s; exact jb_X9_token_78 hr h_o0 (fun l2 s => ih l2 s) h_k119
def m_X9_token_131 (o0 : Nat) (l2 : Int32) (t0 : Nat) (t1 : Int32) (s : zSt) : Option (zSt) :=
  zlt (zsI s t0 6 t1) (fun s42 => m_X9_token_233 o0 l2 s42)
set_option maxRecDepth 100000 in
theorem j_X9_token_131 {o0 : Nat} {l2 : Int32} {t0 : Nat} {t1 : Int32} {s : zSt} {w : zWC} {x : zCX} (hr : zrt x = none)  (h_o0 : zC o0 = 9) (ht0 : zC t0 = 9) : zJ (zQf w x zeV) w x RX9 cX9_token 3 1 (m_X9_token_131 o0 l2 t0 t1 s) 131 [some (.ref (zb w + o0)), none, some (.int l2)] [.int t1, .ref (zb w + t0)] s := by
  unfold m_X9_token_131
  refine zj_putI dX9_token_131 fl_X9_179 rfl ht0 pd_9_6 rfl rfl (fun s42 => ?_)
  refine zj_goto (tgt := 233) dX9_token_134 (by decide) ?_
  exact j_X9_token_233 hr h_o0
def m_X9_token (o0 : Nat) (s : zSt) : Option (zSt) :=
  lp_X9_token_0 o0 (fun s_6 => zlt (zsI s_6 o0 7 (zI s_6 o0 4)) (fun s7 => zcl (m_X9_here o0 0 s7) (fun r9 s8 => zlt (zsL s8 o0 9 0) (fun s10 => zlt (zsI s10 o0 8 0) (fun s11 => (if r9 < 0 then
  zlt (zsI s11 o0 6 0) (fun s12 => m_X9_token_233 o0 0 s12)
  else
  zcl (m_X9_isLetter r9 s11) (fun r15 s14 => (if r15 = 0 then
    zcl (m_X9_isDigit r9 s14) (fun r17 s16 => (if r17 = 0 then
      zcl (m_X9_isSign o0 r9 s16) (fun r19 s18 => (if r19 = 0 then
        m_X9_token_230 o0 1 o0 3 s18
        else
        m_X9_token_230 o0 1 o0 r9 s18))
      else
      lp_X9_token_144 o0 (fun l2_28 s_28 => (if 4 < l2_28 then
        m_X9_token_203 o0 l2_28 o0 s_28
        else
        zcl (m_X9_here o0 l2_28 s_28) (fun r31 s30 => zcl (m_X9_isLetter r31 s30) (fun r33 s32 => (if r33 = 0 then
          m_X9_token_208 o0 l2_28 o0 2 s32
          else
          m_X9_token_203 o0 l2_28 o0 s32))))) zFuel 0 s16))
    else
    lp_X9_token_78 o0 (fun l2_41 s_41 => (if 8 < l2_41 then
      m_X9_token_131 o0 l2_41 o0 3 s_41
      else
      m_X9_token_131 o0 l2_41 o0 1 s_41)) zFuel 0 s14)))))))) zFuel s
set_option maxRecDepth 100000 in
theorem c_X9_token {w : zWC} {o0 : Nat} {s : zSt} (h_o0 : zC o0 = 9) {a : zSt} (hm : m_X9_token o0 s = some a) : zCn w 1 yX9_token cX9_token 3 none [.ref (zb w + o0)] s (zeV a).1 (zeV a).2 :=
  zCn_of (own := RX9) (lv := [some (.ref (zb w + o0)), none, none]) (by decide +kernel) rfl (Nat.le_of_ble_eq_true rfl) rfl (fun x hr => by
    unfold m_X9_token
    refine jl_X9_token_0 hr h_o0 (fun s_6 => ?_) zFuel _
    refine zj_aload_n dX9_token_33 rfl ?_
    refine zj_aload_n dX9_token_34 rfl ?_
    refine zj_getI dX9_token_35 fl_X9_155 rfl h_o0 ?_
    refine zj_putI dX9_token_38 fl_X9_169 rfl h_o0 pd_9_7 rfl rfl (fun s7 => ?_)
    refine zj_aload_n dX9_token_41 rfl ?_
    refine zj_iconst dX9_token_42 zic_0 ?_
    refine zj_cVI1 ml_X9_165 (fun a h => c_X9_here h_o0 h) h_o0 rfl (Nat.le_of_ble_eq_true rfl) (Nat.le_of_ble_eq_true rfl) dX9_token_43 (fun r9 s8 => ?_)
    refine zj_istore_n (lv' := [some (.ref (zb w + o0)), some (.int r9), none]) dX9_token_46 rfl (by decide) rfl rfl ?_
    refine zj_iconst dX9_token_47 zic_0 ?_
    refine zj_istore_n (lv' := [some (.ref (zb w + o0)), some (.int r9), some (.int 0)]) dX9_token_48 rfl (by decide) rfl rfl ?_
    refine zj_aload_n dX9_token_49 rfl ?_
    refine zj_lconst (v := 0) dX9_token_50 rfl ?_
    refine zj_putL dX9_token_51 fl_X9_172 rfl h_o0 pd_9_9 rfl rfl (fun s10 => ?_)
    refine zj_aload_n dX9_token_54 rfl ?_
    refine zj_iconst dX9_token_55 zic_0 ?_
    refine zj_putI dX9_token_56 fl_X9_176 rfl h_o0 pd_9_8 rfl rfl (fun s11 => ?_)
    refine zj_iload_n dX9_token_59 rfl ?_
    refine zj_if_ge (tgt := 71) dX9_token_60 (by decide) ?_ ?_
    · refine zj_aload_n dX9_token_63 rfl ?_
      refine zj_iconst dX9_token_64 zic_0 ?_
      refine zj_putI dX9_token_65 fl_X9_179 rfl h_o0 pd_9_6 rfl rfl (fun s12 => ?_)
      refine zj_goto (tgt := 233) dX9_token_68 (by decide) ?_
      refine zj_weak [true, false, true] rfl ?_
      exact j_X9_token_233 hr h_o0
    · refine zj_iload_n dX9_token_71 rfl ?_
      refine zj_cSI1 ml_X9_182 (fun a h => c_X9_isLetter  h) (Nat.le_of_ble_eq_true rfl) (Nat.le_of_ble_eq_true rfl) dX9_token_72 (fun r15 s14 => ?_)
      refine zj_if_eq (tgt := 137) dX9_token_75 (by decide) ?_ ?_
      · refine zj_iload_n dX9_token_137 rfl ?_
        refine zj_cSI1 ml_X9_186 (fun a h => c_X9_isDigit  h) (Nat.le_of_ble_eq_true rfl) (Nat.le_of_ble_eq_true rfl) dX9_token_138 (fun r17 s16 => ?_)
        refine zj_if_eq (tgt := 214) dX9_token_141 (by decide) ?_ ?_
        · refine zj_iconst dX9_token_214 zic_1 ?_
          refine zj_istore_n (lv' := [some (.ref (zb w + o0)), some (.int r9), some (.int 1)]) dX9_token_215 rfl (by decide) rfl rfl ?_
          refine zj_aload_n dX9_token_216 rfl ?_
          refine zj_aload_n dX9_token_217 rfl ?_
          refine zj_iload_n dX9_token_218 rfl ?_
          refine zj_cVI1 ml_X9_189 (fun a h => c_X9_isSign h_o0 h) h_o0 rfl (Nat.le_of_ble_eq_true rfl) (Nat.le_of_ble_eq_true rfl) dX9_token_219 (fun r19 s18 => ?_)
          refine zj_if_eq (tgt := 229) dX9_token_222 (by decide) ?_ ?_
          · refine zj_iconst dX9_token_229 zic_3 ?_
            refine zj_weak [true, false, true] rfl ?_
            exact j_X9_token_230 hr h_o0 h_o0
          · refine zj_iload_n dX9_token_225 rfl ?_
            refine zj_goto (tgt := 230) dX9_token_226 (by decide) ?_
            refine zj_weak [true, false, true] rfl ?_
            exact j_X9_token_230 hr h_o0 h_o0
        · refine zj_weak [true, false, true] rfl ?_
          refine jl_X9_token_144 hr h_o0 (fun l2_28 s_28 => ?_) zFuel _ _
          refine zj_aload_n dX9_token_186 rfl ?_
          refine zj_iload_n dX9_token_187 rfl ?_
          refine zj_iconst dX9_token_188 zic_4 ?_
          refine zj_icmp_gt (tgt := 203) dX9_token_189 (by decide) ?_ ?_
          · exact j_X9_token_203 hr h_o0 h_o0
          · refine zj_aload_n dX9_token_192 rfl ?_
            refine zj_iload_n dX9_token_193 rfl ?_
            refine zj_cVI1 ml_X9_165 (fun a h => c_X9_here h_o0 h) h_o0 rfl (Nat.le_of_ble_eq_true rfl) (Nat.le_of_ble_eq_true rfl) dX9_token_194 (fun r31 s30 => ?_)
            refine zj_cSI1 ml_X9_182 (fun a h => c_X9_isLetter  h) (Nat.le_of_ble_eq_true rfl) (Nat.le_of_ble_eq_true rfl) dX9_token_197 (fun r33 s32 => ?_)
            refine zj_if_eq (tgt := 207) dX9_token_200 (by decide) ?_ ?_
            · refine zj_iconst dX9_token_207 zic_2 ?_
              exact j_X9_token_208 hr h_o0 h_o0
            · exact j_X9_token_203 hr h_o0 h_o0
      · refine zj_weak [true, false, true] rfl ?_
        refine jl_X9_token_78 hr h_o0 (fun l2_41 s_41 => ?_) zFuel _ _
        refine zj_aload_n dX9_token_119 rfl ?_
        refine zj_iload_n dX9_token_120 rfl ?_
        refine zj_bipush dX9_token_121 zbi_8 ?_
        refine zj_icmp_le (tgt := 130) dX9_token_123 (by decide) ?_ ?_
        · refine zj_iconst dX9_token_126 zic_3 ?_
          refine zj_goto (tgt := 131) dX9_token_127 (by decide) ?_
          exact j_X9_token_131 hr h_o0 h_o0
        · refine zj_iconst dX9_token_130 zic_1 ?_
          exact j_X9_token_131 hr h_o0 h_o0) hm
def m_X9_wrong_22 (o0 : Nat) (p1 : Int32) (t0 : Nat) (t1 : Int32) (s : zSt) : Option (zSt) :=
  zlt (zsI s t0 2 t1) (fun s1 => zlt (zsI s1 o0 3 (zI s1 o0 7)) (fun s2 => some s2))
set_option maxRecDepth 100000 in
theorem j_X9_wrong_22 {o0 : Nat} {p1 : Int32} {t0 : Nat} {t1 : Int32} {s : zSt} {w : zWC} {x : zCX} (hr : zrt x = none)  (h_o0 : zC o0 = 9) (ht0 : zC t0 = 9) : zJ (zQf w x zeV) w x RX9 cX9_wrong 2 0 (m_X9_wrong_22 o0 p1 t0 t1 s) 22 [some (.ref (zb w + o0)), none] [.int t1, .ref (zb w + t0)] s := by
  unfold m_X9_wrong_22
  refine zj_putI dX9_wrong_22 fl_X9_192 rfl ht0 pd_9_2 rfl rfl (fun s1 => ?_)
  refine zj_aload_n dX9_wrong_25 rfl ?_
  refine zj_aload_n dX9_wrong_26 rfl ?_
  refine zj_getI dX9_wrong_27 fl_X9_169 rfl h_o0 ?_
  refine zj_putI dX9_wrong_30 fl_X9_13 rfl h_o0 pd_9_3 rfl rfl (fun s2 => ?_)
  exact zj_vret hr dX9_wrong_33
def m_X9_wrong (o0 : Nat) (p1 : Int32) (s : zSt) : Option (zSt) :=
  (if 0 < zI s o0 2 then
  some s
  else
  (if zI s o0 6 = 3 then
    m_X9_wrong_22 o0 p1 o0 1 s
    else
    m_X9_wrong_22 o0 p1 o0 p1 s))
set_option maxRecDepth 100000 in
theorem c_X9_wrong {w : zWC} {o0 : Nat} {p1 : Int32} {s : zSt} (h_o0 : zC o0 = 9) {a : zSt} (hm : m_X9_wrong o0 p1 s = some a) : zCn w 0 yX9_wrong cX9_wrong 2 none [.ref (zb w + o0), .int p1] s (zeV a).1 (zeV a).2 :=
  zCn_of (own := RX9) (lv := [some (.ref (zb w + o0)), some (.int p1)]) (by decide +kernel) rfl (Nat.le_of_ble_eq_true rfl) rfl (fun x hr => by
    unfold m_X9_wrong
    refine zj_aload_n dX9_wrong_0 rfl ?_
    refine zj_getI dX9_wrong_1 fl_X9_192 rfl h_o0 ?_
    refine zj_if_le (tgt := 8) dX9_wrong_4 (by decide) ?_ ?_
    · exact zj_vret hr dX9_wrong_7
    · refine zj_aload_n dX9_wrong_8 rfl ?_
      refine zj_aload_n dX9_wrong_9 rfl ?_
      refine zj_getI dX9_wrong_10 fl_X9_179 rfl h_o0 ?_
      refine zj_iconst dX9_wrong_13 zic_3 ?_
      refine zj_icmp_ne (tgt := 21) dX9_wrong_14 (by decide) ?_ ?_
      · refine zj_iconst dX9_wrong_17 zic_1 ?_
        refine zj_goto (tgt := 22) dX9_wrong_18 (by decide) ?_
        refine zj_weak [true, false] rfl ?_
        exact j_X9_wrong_22 hr h_o0 h_o0
      · refine zj_iload_n dX9_wrong_21 rfl ?_
        refine zj_weak [true, false] rfl ?_
        exact j_X9_wrong_22 hr h_o0 h_o0) hm
def m_X9_start (o0 : Nat) (p1 : Int32) (s : zSt) : Option (zSt) :=
  (if p1 = 0 ∨ p1 = 1 then zlt (zsI s o0 10 p1) (fun s1 => zlt (zsI s1 o0 5 (zI s1 o0 1)) (fun s3 => zlt (zsI s3 o0 1 0) (fun s4 => zlt (zsI s4 o0 4 0) (fun s5 => zlt (zsI s5 o0 2 0) (fun s6 => zlt (zsI s6 o0 3 (-1)) (fun s7 => zcv (m_X9_token o0 s7) (fun s8 => some s8))))))) else none)
set_option maxRecDepth 100000 in
theorem c_X9_start {w : zWC} {o0 : Nat} {p1 : Int32} {s : zSt} (h_o0 : zC o0 = 9) {a : zSt} (hm : m_X9_start o0 p1 s = some a) : zCn w 2 yX9_start cX9_start 2 none [.ref (zb w + o0), .int p1] s (zeV a).1 (zeV a).2 :=
  zCn_of (own := RX9) (lv := [some (.ref (zb w + o0)), some (.int p1)]) (by decide +kernel) rfl (Nat.le_of_ble_eq_true rfl) rfl (fun x hr => by
    unfold m_X9_start
    refine zj_aload_n dX9_start_0 rfl ?_
    refine zj_iload_n dX9_start_1 rfl ?_
    refine zj_split (fun hz2 => ?_) (fun _ => zj_none)
    refine zj_putI dX9_start_2 fl_X9_161 rfl h_o0 pd_9_10 (by rcases hz2 with h | h <;> rw [h] <;> rfl) (by rcases hz2 with h | h <;> rw [h] <;> rfl) (fun s1 => ?_)
    refine zj_aload_n dX9_start_5 rfl ?_
    refine zj_aload_n dX9_start_6 rfl ?_
    refine zj_getI dX9_start_7 fl_X9_148 rfl h_o0 ?_
    refine zj_putI dX9_start_10 fl_X9_158 rfl h_o0 pd_9_5 rfl rfl (fun s3 => ?_)
    refine zj_aload_n dX9_start_13 rfl ?_
    refine zj_iconst dX9_start_14 zic_0 ?_
    refine zj_putI dX9_start_15 fl_X9_148 rfl h_o0 pd_9_1 rfl rfl (fun s4 => ?_)
    refine zj_aload_n dX9_start_18 rfl ?_
    refine zj_iconst dX9_start_19 zic_0 ?_
    refine zj_putI dX9_start_20 fl_X9_155 rfl h_o0 pd_9_4 rfl rfl (fun s5 => ?_)
    refine zj_aload_n dX9_start_23 rfl ?_
    refine zj_iconst dX9_start_24 zic_0 ?_
    refine zj_putI dX9_start_25 fl_X9_192 rfl h_o0 pd_9_2 rfl rfl (fun s6 => ?_)
    refine zj_aload_n dX9_start_28 rfl ?_
    refine zj_iconst dX9_start_29 zic_m1 ?_
    refine zj_putI dX9_start_30 fl_X9_13 rfl h_o0 pd_9_3 rfl rfl (fun s7 => ?_)
    refine zj_aload_n dX9_start_33 rfl ?_
    refine zj_cVV0 ml_X9_195 (fun a h => c_X9_token h_o0 h) h_o0 rfl (Nat.le_of_ble_eq_true rfl) (Nat.le_of_ble_eq_true rfl) dX9_start_34 (fun s8 => ?_)
    exact zj_vret hr dX9_start_37) hm
def m_X9_isWord (o0 : Nat) (q1 : Int64) (s : zSt) : Option (Int32 × zSt) :=
  (if zI s o0 6 = 1 then
  (if zL s o0 9 = q1 then
    some (1, s)
    else
    some (0, s))
  else
  some (0, s))
set_option maxRecDepth 100000 in
theorem c_X9_isWord {w : zWC} {o0 : Nat} {q1 : Int64} {s : zSt} (h_o0 : zC o0 = 9) {a : Int32 × zSt} (hm : m_X9_isWord o0 q1 s = some a) : zCn w 0 yX9_isWord cX9_isWord 3 (some .boolean) [.ref (zb w + o0), .long q1] s (zeI a).1 (zeI a).2 :=
  zCn_of (own := RX9) (lv := [some (.ref (zb w + o0)), some (.long q1), none]) (by decide +kernel) rfl (Nat.le_of_ble_eq_true rfl) rfl (fun x hr => by
    unfold m_X9_isWord
    refine zj_aload_n dX9_isWord_0 rfl ?_
    refine zj_getI dX9_isWord_1 fl_X9_179 rfl h_o0 ?_
    refine zj_iconst dX9_isWord_4 zic_1 ?_
    refine zj_icmp_ne (tgt := 21) dX9_isWord_5 (by decide) ?_ ?_
    · refine zj_aload_n dX9_isWord_8 rfl ?_
      refine zj_getL dX9_isWord_9 fl_X9_172 rfl h_o0 ?_
      refine zj_lload_n dX9_isWord_12 rfl ?_
      refine zj_lcmp_ne (tgt := 21) dX9_isWord_13 dX9_isWord_14 (by decide) ?_ ?_
      · refine zj_iconst dX9_isWord_17 zic_1 ?_
        refine zj_goto (tgt := 22) dX9_isWord_18 (by decide) ?_
        exact zj_zret hr rfl dX9_isWord_22
      · refine zj_iconst dX9_isWord_21 zic_0 ?_
        exact zj_zret hr rfl dX9_isWord_22
    · refine zj_iconst dX9_isWord_21 zic_0 ?_
      exact zj_zret hr rfl dX9_isWord_22) hm
def m_X9_isName_169 (o0 : Nat) (t0 : Int32) (s : zSt) : Option (Int32 × zSt) :=
  (if t0 = 0 then
  (if zL s o0 9 = 448546567013 then
    some (0, s)
    else
    (if zL s o0 9 = 1935767923 then
      some (0, s)
      else
      (if zL s o0 9 = 1936744814 then
        some (0, s)
        else
        (if zL s o0 9 = 109287261888882 then
          some (0, s)
          else
          (if zL s o0 9 = 26995 then
            some (0, s)
            else
            (if zL s o0 9 = 123636697429107 then
              some (0, s)
              else
              some (1, s)))))))
  else
  some (0, s))
set_option maxRecDepth 100000 in
theorem j_X9_isName_169 {o0 : Nat} {t0 : Int32} {s : zSt} {w : zWC} {x : zCX} (hr : zrt x = (some .boolean))  (h_o0 : zC o0 = 9) : zJ (zQf w x zeI) w x RX9 cX9_isName 2 0 (m_X9_isName_169 o0 t0 s) 169 [some (.ref (zb w + o0)), none] [.int t0] s := by
  unfold m_X9_isName_169
  refine zj_istore_n (lv' := [some (.ref (zb w + o0)), some (.int t0)]) dX9_isName_169 rfl (by decide) rfl rfl ?_
  refine zj_iload_n dX9_isName_170 rfl ?_
  refine zj_if_ne (tgt := 244) dX9_isName_171 (by decide) ?_ ?_
  · refine zj_aload_n dX9_isName_174 rfl ?_
    refine zj_getL dX9_isName_175 fl_X9_172 rfl h_o0 ?_
    refine zj_ldc2 dX9_isName_178 kcL_X9_226 ?_
    refine zj_lcmp_eq (tgt := 244) dX9_isName_181 dX9_isName_182 (by decide) ?_ ?_
    · refine zj_iconst dX9_isName_244 zic_0 ?_
      exact zj_zret hr rfl dX9_isName_245
    · refine zj_aload_n dX9_isName_185 rfl ?_
      refine zj_getL dX9_isName_186 fl_X9_172 rfl h_o0 ?_
      refine zj_ldc2 dX9_isName_189 kcL_X9_228 ?_
      refine zj_lcmp_eq (tgt := 244) dX9_isName_192 dX9_isName_193 (by decide) ?_ ?_
      · refine zj_iconst dX9_isName_244 zic_0 ?_
        exact zj_zret hr rfl dX9_isName_245
      · refine zj_aload_n dX9_isName_196 rfl ?_
        refine zj_getL dX9_isName_197 fl_X9_172 rfl h_o0 ?_
        refine zj_ldc2 dX9_isName_200 kcL_X9_230 ?_
        refine zj_lcmp_eq (tgt := 244) dX9_isName_203 dX9_isName_204 (by decide) ?_ ?_
        · refine zj_iconst dX9_isName_244 zic_0 ?_
          exact zj_zret hr rfl dX9_isName_245
        · refine zj_aload_n dX9_isName_207 rfl ?_
          refine zj_getL dX9_isName_208 fl_X9_172 rfl h_o0 ?_
          refine zj_ldc2 dX9_isName_211 kcL_X9_232 ?_
          refine zj_lcmp_eq (tgt := 244) dX9_isName_214 dX9_isName_215 (by decide) ?_ ?_
          · refine zj_iconst dX9_isName_244 zic_0 ?_
            exact zj_zret hr rfl dX9_isName_245
          · refine zj_aload_n dX9_isName_218 rfl ?_
            refine zj_getL dX9_isName_219 fl_X9_172 rfl h_o0 ?_
            refine zj_ldc2 dX9_isName_222 kcL_X9_234 ?_
            refine zj_lcmp_eq (tgt := 244) dX9_isName_225 dX9_isName_226 (by decide) ?_ ?_
            · refine zj_iconst dX9_isName_244 zic_0 ?_
              exact zj_zret hr rfl dX9_isName_245
            · refine zj_aload_n dX9_isName_229 rfl ?_
              refine zj_getL dX9_isName_230 fl_X9_172 rfl h_o0 ?_
              refine zj_ldc2 dX9_isName_233 kcL_X9_236 ?_
              refine zj_lcmp_eq (tgt := 244) dX9_isName_236 dX9_isName_237 (by decide) ?_ ?_
              · refine zj_iconst dX9_isName_244 zic_0 ?_
                exact zj_zret hr rfl dX9_isName_245
              · refine zj_iconst dX9_isName_240 zic_1 ?_
                refine zj_goto (tgt := 245) dX9_isName_241 (by decide) ?_
                exact zj_zret hr rfl dX9_isName_245
  · refine zj_iconst dX9_isName_244 zic_0 ?_
    exact zj_zret hr rfl dX9_isName_245
def m_X9_isName_164 (o0 : Nat) (s : zSt) : Option (Int32 × zSt) :=
  m_X9_isName_169 o0 1 s
set_option maxRecDepth 100000 in
theorem j_X9_isName_164 {o0 : Nat} {s : zSt} {w : zWC} {x : zCX} (hr : zrt x = (some .boolean))  (h_o0 : zC o0 = 9) : zJ (zQf w x zeI) w x RX9 cX9_isName 2 0 (m_X9_isName_164 o0 s) 164 [some (.ref (zb w + o0)), none] [] s := by
  unfold m_X9_isName_164
  refine zj_iconst dX9_isName_164 zic_1 ?_
  refine zj_goto (tgt := 169) dX9_isName_165 (by decide) ?_
  exact j_X9_isName_169 hr h_o0
def m_X9_isName (o0 : Nat) (s : zSt) : Option (Int32 × zSt) :=
  (if zI s o0 6 = 1 then
  (if zL s o0 9 = 1650551916 then
    m_X9_isName_164 o0 s
    else
    (if zL s o0 9 = 1852137842 then
      m_X9_isName_164 o0 s
      else
      (if zL s o0 9 = 6709618 then
        m_X9_isName_164 o0 s
        else
        (if zL s o0 9 = 7499620 then
          m_X9_isName_164 o0 s
          else
          (if zL s o0 9 = 2003399269 then
            m_X9_isName_164 o0 s
            else
            (if zL s o0 9 = 1684106608 then
              m_X9_isName_164 o0 s
              else
              (if zL s o0 9 = 491327153267 then
                m_X9_isName_164 o0 s
                else
                (if zL s o0 9 = 2053468783 then
                  m_X9_isName_164 o0 s
                  else
                  (if zL s o0 9 = 427121010032 then
                    m_X9_isName_164 o0 s
                    else
                    (if zL s o0 9 = 2002874989 then
                      m_X9_isName_164 o0 s
                      else
                      (if zL s o0 9 = 1769107310 then
                        m_X9_isName_164 o0 s
                        else
                        (if zL s o0 9 = 426836849509 then
                          m_X9_isName_164 o0 s
                          else
                          (if zL s o0 9 = 500135715180 then
                            m_X9_isName_164 o0 s
                            else
                            (if zL s o0 9 = 495673374579 then
                              m_X9_isName_164 o0 s
                              else
                              m_X9_isName_169 o0 0 s))))))))))))))
  else
  some (0, s))
set_option maxRecDepth 100000 in
theorem c_X9_isName {w : zWC} {o0 : Nat} {s : zSt} (h_o0 : zC o0 = 9) {a : Int32 × zSt} (hm : m_X9_isName o0 s = some a) : zCn w 0 yX9_isName cX9_isName 2 (some .boolean) [.ref (zb w + o0)] s (zeI a).1 (zeI a).2 :=
  zCn_of (own := RX9) (lv := [some (.ref (zb w + o0)), none]) (by decide +kernel) rfl (Nat.le_of_ble_eq_true rfl) rfl (fun x hr => by
    unfold m_X9_isName
    refine zj_aload_n dX9_isName_0 rfl ?_
    refine zj_getI dX9_isName_1 fl_X9_179 rfl h_o0 ?_
    refine zj_iconst dX9_isName_4 zic_1 ?_
    refine zj_icmp_eq (tgt := 10) dX9_isName_5 (by decide) ?_ ?_
    · refine zj_aload_n dX9_isName_10 rfl ?_
      refine zj_getL dX9_isName_11 fl_X9_172 rfl h_o0 ?_
      refine zj_ldc2 dX9_isName_14 kcL_X9_198 ?_
      refine zj_lcmp_eq (tgt := 164) dX9_isName_17 dX9_isName_18 (by decide) ?_ ?_
      · exact j_X9_isName_164 hr h_o0
      · refine zj_aload_n dX9_isName_21 rfl ?_
        refine zj_getL dX9_isName_22 fl_X9_172 rfl h_o0 ?_
        refine zj_ldc2 dX9_isName_25 kcL_X9_200 ?_
        refine zj_lcmp_eq (tgt := 164) dX9_isName_28 dX9_isName_29 (by decide) ?_ ?_
        · exact j_X9_isName_164 hr h_o0
        · refine zj_aload_n dX9_isName_32 rfl ?_
          refine zj_getL dX9_isName_33 fl_X9_172 rfl h_o0 ?_
          refine zj_ldc2 dX9_isName_36 kcL_X9_202 ?_
          refine zj_lcmp_eq (tgt := 164) dX9_isName_39 dX9_isName_40 (by decide) ?_ ?_
          · exact j_X9_isName_164 hr h_o0
          · refine zj_aload_n dX9_isName_43 rfl ?_
            refine zj_getL dX9_isName_44 fl_X9_172 rfl h_o0 ?_
            refine zj_ldc2 dX9_isName_47 kcL_X9_204 ?_
            refine zj_lcmp_eq (tgt := 164) dX9_isName_50 dX9_isName_51 (by decide) ?_ ?_
            · exact j_X9_isName_164 hr h_o0
            · refine zj_aload_n dX9_isName_54 rfl ?_
              refine zj_getL dX9_isName_55 fl_X9_172 rfl h_o0 ?_
              refine zj_ldc2 dX9_isName_58 kcL_X9_206 ?_
              refine zj_lcmp_eq (tgt := 164) dX9_isName_61 dX9_isName_62 (by decide) ?_ ?_
              · exact j_X9_isName_164 hr h_o0
              · refine zj_aload_n dX9_isName_65 rfl ?_
                refine zj_getL dX9_isName_66 fl_X9_172 rfl h_o0 ?_
                refine zj_ldc2 dX9_isName_69 kcL_X9_208 ?_
                refine zj_lcmp_eq (tgt := 164) dX9_isName_72 dX9_isName_73 (by decide) ?_ ?_
                · exact j_X9_isName_164 hr h_o0
                · refine zj_aload_n dX9_isName_76 rfl ?_
                  refine zj_getL dX9_isName_77 fl_X9_172 rfl h_o0 ?_
                  refine zj_ldc2 dX9_isName_80 kcL_X9_210 ?_
                  refine zj_lcmp_eq (tgt := 164) dX9_isName_83 dX9_isName_84 (by decide) ?_ ?_
                  · exact j_X9_isName_164 hr h_o0
                  · refine zj_aload_n dX9_isName_87 rfl ?_
                    refine zj_getL dX9_isName_88 fl_X9_172 rfl h_o0 ?_
                    refine zj_ldc2 dX9_isName_91 kcL_X9_212 ?_
                    refine zj_lcmp_eq (tgt := 164) dX9_isName_94 dX9_isName_95 (by decide) ?_ ?_
                    · exact j_X9_isName_164 hr h_o0
                    · refine zj_aload_n dX9_isName_98 rfl ?_
                      refine zj_getL dX9_isName_99 fl_X9_172 rfl h_o0 ?_
                      refine zj_ldc2 dX9_isName_102 kcL_X9_214 ?_
                      refine zj_lcmp_eq (tgt := 164) dX9_isName_105 dX9_isName_106 (by decide) ?_ ?_
                      · exact j_X9_isName_164 hr h_o0
                      · refine zj_aload_n dX9_isName_109 rfl ?_
                        refine zj_getL dX9_isName_110 fl_X9_172 rfl h_o0 ?_
                        refine zj_ldc2 dX9_isName_113 kcL_X9_216 ?_
                        refine zj_lcmp_eq (tgt := 164) dX9_isName_116 dX9_isName_117 (by decide) ?_ ?_
                        · exact j_X9_isName_164 hr h_o0
                        · refine zj_aload_n dX9_isName_120 rfl ?_
                          refine zj_getL dX9_isName_121 fl_X9_172 rfl h_o0 ?_
                          refine zj_ldc2 dX9_isName_124 kcL_X9_218 ?_
                          refine zj_lcmp_eq (tgt := 164) dX9_isName_127 dX9_isName_128 (by decide) ?_ ?_
                          · exact j_X9_isName_164 hr h_o0
                          · refine zj_aload_n dX9_isName_131 rfl ?_
                            refine zj_getL dX9_isName_132 fl_X9_172 rfl h_o0 ?_
                            refine zj_ldc2 dX9_isName_135 kcL_X9_220 ?_
                            refine zj_lcmp_eq (tgt := 164) dX9_isName_138 dX9_isName_139 (by decide) ?_ ?_
                            · exact j_X9_isName_164 hr h_o0
                            · refine zj_aload_n dX9_isName_142 rfl ?_
                              refine zj_getL dX9_isName_143 fl_X9_172 rfl h_o0 ?_
                              refine zj_ldc2 dX9_isName_146 kcL_X9_222 ?_
                              refine zj_lcmp_eq (tgt := 164) dX9_isName_149 dX9_isName_150 (by decide) ?_ ?_
                              · exact j_X9_isName_164 hr h_o0
                              · refine zj_aload_n dX9_isName_153 rfl ?_
                                refine zj_getL dX9_isName_154 fl_X9_172 rfl h_o0 ?_
                                refine zj_ldc2 dX9_isName_157 kcL_X9_224 ?_
                                refine zj_lcmp_ne (tgt := 168) dX9_isName_160 dX9_isName_161 (by decide) ?_ ?_
                                · exact j_X9_isName_164 hr h_o0
                                · refine zj_iconst dX9_isName_168 zic_0 ?_
                                  exact j_X9_isName_169 hr h_o0
    · refine zj_iconst dX9_isName_8 zic_0 ?_
      exact zj_zret hr rfl dX9_isName_9) hm
def m_X9_want (o0 : Nat) (q1 : Int64) (s : zSt) : Option (zSt) :=
  (if 0 < zI s o0 2 then
  some s
  else
  zcl (m_X9_isWord o0 q1 s) (fun r2 s1 => (if r2 = 0 then
    zcv (m_X9_wrong o0 2 s1) (fun s3 => some s3)
    else
    zcv (m_X9_token o0 s1) (fun s4 => some s4))))
set_option maxRecDepth 100000 in
theorem c_X9_want {w : zWC} {o0 : Nat} {q1 : Int64} {s : zSt} (h_o0 : zC o0 = 9) {a : zSt} (hm : m_X9_want o0 q1 s = some a) : zCn w 2 yX9_want cX9_want 3 none [.ref (zb w + o0), .long q1] s (zeV a).1 (zeV a).2 :=
  zCn_of (own := RX9) (lv := [some (.ref (zb w + o0)), some (.long q1), none]) (by decide +kernel) rfl (Nat.le_of_ble_eq_true rfl) rfl (fun x hr => by
    unfold m_X9_want
    refine zj_aload_n dX9_want_0 rfl ?_
    refine zj_getI dX9_want_1 fl_X9_192 rfl h_o0 ?_
    refine zj_if_le (tgt := 8) dX9_want_4 (by decide) ?_ ?_
    · exact zj_vret hr dX9_want_7
    · refine zj_aload_n dX9_want_8 rfl ?_
      refine zj_lload_n dX9_want_9 rfl ?_
      refine zj_cVI1 ml_X9_238 (fun a h => c_X9_isWord h_o0 h) h_o0 rfl (Nat.le_of_ble_eq_true rfl) (Nat.le_of_ble_eq_true rfl) dX9_want_10 (fun r2 s1 => ?_)
      refine zj_if_ne (tgt := 24) dX9_want_13 (by decide) ?_ ?_
      · refine zj_aload_n dX9_want_16 rfl ?_
        refine zj_iconst dX9_want_17 zic_2 ?_
        refine zj_cVV1 ml_X9_242 (fun a h => c_X9_wrong h_o0 h) h_o0 rfl (Nat.le_of_ble_eq_true rfl) (Nat.le_of_ble_eq_true rfl) dX9_want_18 (fun s3 => ?_)
        refine zj_goto (tgt := 28) dX9_want_21 (by decide) ?_
        exact zj_vret hr dX9_want_28
      · refine zj_aload_n dX9_want_24 rfl ?_
        refine zj_cVV0 ml_X9_195 (fun a h => c_X9_token h_o0 h) h_o0 rfl (Nat.le_of_ble_eq_true rfl) (Nat.le_of_ble_eq_true rfl) dX9_want_25 (fun s4 => ?_)
        exact zj_vret hr dX9_want_28) hm
def m_X9_toldNumber_46 (o0 : Nat) (p1 : Int32) (p2 : Int32) (s : zSt) : Option (Int32 × zSt) :=
  (if zI s o0 2 = 0 then
  zcv (m_X9_token o0 s) (fun s2 => some (zI s o0 8, s2))
  else
  some (zI s o0 8, s))
set_option maxRecDepth 100000 in
theorem j_X9_toldNumber_46 {o0 : Nat} {p1 : Int32} {p2 : Int32} {s : zSt} {w : zWC} {x : zCX} (hr : zrt x = (some .int))  (h_o0 : zC o0 = 9) : zJ (zQf w x zeI) w x RX9 cX9_toldNumber 4 2 (m_X9_toldNumber_46 o0 p1 p2 s) 46 [some (.ref (zb w + o0)), none, none, none] [] s := by
  unfold m_X9_toldNumber_46
  refine zj_aload_n dX9_toldNumber_46 rfl ?_
  refine zj_getI dX9_toldNumber_47 fl_X9_176 rfl h_o0 ?_
  refine zj_istore_n (lv' := [some (.ref (zb w + o0)), none, none, some (.int (zI s o0 8))]) dX9_toldNumber_50 rfl (by decide) rfl rfl ?_
  refine zj_aload_n dX9_toldNumber_51 rfl ?_
  refine zj_getI dX9_toldNumber_52 fl_X9_192 rfl h_o0 ?_
  refine zj_if_ne (tgt := 62) dX9_toldNumber_55 (by decide) ?_ ?_
  · refine zj_aload_n dX9_toldNumber_58 rfl ?_
    refine zj_cVV0 ml_X9_195 (fun a h => c_X9_token h_o0 h) h_o0 rfl (Nat.le_of_ble_eq_true rfl) (Nat.le_of_ble_eq_true rfl) dX9_toldNumber_59 (fun s2 => ?_)
    refine zj_iload_n dX9_toldNumber_62 rfl ?_
    exact zj_iret hr dX9_toldNumber_63
  · refine zj_iload_n dX9_toldNumber_62 rfl ?_
    exact zj_iret hr dX9_toldNumber_63
def m_X9_toldNumber_41 (o0 : Nat) (p1 : Int32) (p2 : Int32) (s : zSt) : Option (Int32 × zSt) :=
  zcv (m_X9_wrong o0 4 s) (fun s1 => m_X9_toldNumber_46 o0 p1 p2 s1)
set_option maxRecDepth 100000 in
theorem j_X9_toldNumber_41 {o0 : Nat} {p1 : Int32} {p2 : Int32} {s : zSt} {w : zWC} {x : zCX} (hr : zrt x = (some .int))  (h_o0 : zC o0 = 9) : zJ (zQf w x zeI) w x RX9 cX9_toldNumber 4 2 (m_X9_toldNumber_41 o0 p1 p2 s) 41 [some (.ref (zb w + o0)), none, none, none] [] s := by
  unfold m_X9_toldNumber_41
  refine zj_aload_n dX9_toldNumber_41 rfl ?_
  refine zj_iconst dX9_toldNumber_42 zic_4 ?_
  refine zj_cVV1 ml_X9_242 (fun a h => c_X9_wrong h_o0 h) h_o0 rfl (Nat.le_of_ble_eq_true rfl) (Nat.le_of_ble_eq_true rfl) dX9_toldNumber_43 (fun s1 => ?_)
  exact j_X9_toldNumber_46 hr h_o0
def m_X9_toldNumber (o0 : Nat) (p1 : Int32) (p2 : Int32) (s : zSt) : Option (Int32 × zSt) :=
  (if 0 < zI s o0 2 then
  some (0, s)
  else
  (if zI s o0 6 = 2 then
    (if zI s o0 8 < p1 then
      m_X9_toldNumber_41 o0 p1 p2 s
      else
      (if p2 < zI s o0 8 then
        m_X9_toldNumber_41 o0 p1 p2 s
        else
        m_X9_toldNumber_46 o0 p1 p2 s))
    else
    zcv (m_X9_wrong o0 2 s) (fun s3 => m_X9_toldNumber_46 o0 p1 p2 s3)))
set_option maxRecDepth 100000 in
theorem c_X9_toldNumber {w : zWC} {o0 : Nat} {p1 : Int32} {p2 : Int32} {s : zSt} (h_o0 : zC o0 = 9) {a : Int32 × zSt} (hm : m_X9_toldNumber o0 p1 p2 s = some a) : zCn w 2 yX9_toldNumber cX9_toldNumber 4 (some .int) [.ref (zb w + o0), .int p1, .int p2] s (zeI a).1 (zeI a).2 :=
  zCn_of (own := RX9) (lv := [some (.ref (zb w + o0)), some (.int p1), some (.int p2), none]) (by decide +kernel) rfl (Nat.le_of_ble_eq_true rfl) rfl (fun x hr => by
    unfold m_X9_toldNumber
    refine zj_aload_n dX9_toldNumber_0 rfl ?_
    refine zj_getI dX9_toldNumber_1 fl_X9_192 rfl h_o0 ?_
    refine zj_if_le (tgt := 9) dX9_toldNumber_4 (by decide) ?_ ?_
    · refine zj_iconst dX9_toldNumber_7 zic_0 ?_
      exact zj_iret hr dX9_toldNumber_8
    · refine zj_aload_n dX9_toldNumber_9 rfl ?_
      refine zj_getI dX9_toldNumber_10 fl_X9_179 rfl h_o0 ?_
      refine zj_iconst dX9_toldNumber_13 zic_2 ?_
      refine zj_icmp_eq (tgt := 25) dX9_toldNumber_14 (by decide) ?_ ?_
      · refine zj_aload_n dX9_toldNumber_25 rfl ?_
        refine zj_getI dX9_toldNumber_26 fl_X9_176 rfl h_o0 ?_
        refine zj_iload_n dX9_toldNumber_29 rfl ?_
        refine zj_icmp_lt (tgt := 41) dX9_toldNumber_30 (by decide) ?_ ?_
        · refine zj_weak [true, false, false, false] rfl ?_
          exact j_X9_toldNumber_41 hr h_o0
        · refine zj_aload_n dX9_toldNumber_33 rfl ?_
          refine zj_getI dX9_toldNumber_34 fl_X9_176 rfl h_o0 ?_
          refine zj_iload_n dX9_toldNumber_37 rfl ?_
          refine zj_icmp_le (tgt := 46) dX9_toldNumber_38 (by decide) ?_ ?_
          · refine zj_weak [true, false, false, false] rfl ?_
            exact j_X9_toldNumber_41 hr h_o0
          · refine zj_weak [true, false, false, false] rfl ?_
            exact j_X9_toldNumber_46 hr h_o0
      · refine zj_aload_n dX9_toldNumber_17 rfl ?_
        refine zj_iconst dX9_toldNumber_18 zic_2 ?_
        refine zj_cVV1 ml_X9_242 (fun a h => c_X9_wrong h_o0 h) h_o0 rfl (Nat.le_of_ble_eq_true rfl) (Nat.le_of_ble_eq_true rfl) dX9_toldNumber_19 (fun s3 => ?_)
        refine zj_goto (tgt := 46) dX9_toldNumber_22 (by decide) ?_
        refine zj_weak [true, false, false, false] rfl ?_
        exact j_X9_toldNumber_46 hr h_o0) hm
