def m_X9_agree (o0 : Nat) (p1 : Int32) (s : zSt) : Option (Int32 × zSt) :=
  (if zI s o0 49 = 0 then
  some ((-1), s)
  else
  (if p1 = 0 then
    zcl (m_X9_moreOf o0 (((1 : Int32) <<< ((zI s o0 49) &&& 31)) - 1) s) (fun r14 s13 => some (r14, s13))
    else
    (if p1 = 1 then
      zcl (m_X9_outOf o0 s) (fun r12 s11 => some (r12, s11))
      else
      (if p1 = 2 then
        zcl (m_X9_outOf o0 s) (fun r8 s7 => zcl (m_X9_ones r8 s7) (fun r10 s9 => some ((zI s o0 49) - r10, s9)))
        else
        (if p1 = 3 then
          zcl (m_X9_partsOf o0 s) (fun r6 s5 => some (r6, s5))
          else
          some ((-1), s))))))
set_option maxRecDepth 100000 in
theorem c_X9_agree {w : zWC} {o0 : Nat} {p1 : Int32} {s : zSt} (h_o0 : zC o0 = 9) {a : Int32 × zSt} (hm : m_X9_agree o0 p1 s = some a) : zCn w 2 yX9_agree cX9_agree 2 (some .int) [.ref (zb w + o0), .int p1] s (zeI a).1 (zeI a).2 :=
  zCn_of (own := RX9) (lv := [some (.ref (zb w + o0)), some (.int p1)]) (by decide +kernel) rfl (Nat.le_of_ble_eq_true rfl) rfl (fun x hr => by
    unfold m_X9_agree
    refine zj_aload_n dX9_agree_0 rfl ?_
    refine zj_getI dX9_agree_1 fl_X9_405 rfl h_o0 ?_
    refine zj_if_ne (tgt := 9) dX9_agree_4 (by decide) ?_ ?_
    · refine zj_iconst dX9_agree_7 zic_m1 ?_
      exact zj_iret hr dX9_agree_8
    · refine zj_iload_n dX9_agree_9 rfl ?_
      refine zj_split (fun hs1 => ?_) (fun hs1 => ?_)
      · refine zj_tsE (u := 0) (tgt := 40) hs1 dX9_agree_10 (by decide) (by decide) rfl (by decide) ?_
        refine zj_aload_n dX9_agree_40 rfl ?_
        refine zj_iconst dX9_agree_41 zic_1 ?_
        refine zj_aload_n dX9_agree_42 rfl ?_
        refine zj_getI dX9_agree_43 fl_X9_405 rfl h_o0 ?_
        refine zj_ishl dX9_agree_46 ?_
        refine zj_iconst dX9_agree_47 zic_1 ?_
        refine zj_isub dX9_agree_48 ?_
        refine zj_cVI1 ml_X9_409 (fun a h => c_X9_moreOf h_o0 h) h_o0 rfl (Nat.le_of_ble_eq_true rfl) (Nat.le_of_ble_eq_true rfl) dX9_agree_49 (fun r14 s13 => ?_)
        exact zj_iret hr dX9_agree_52
      · refine zj_split (fun hs2 => ?_) (fun hs2 => ?_)
        · refine zj_tsE (u := 1) (tgt := 53) hs2 dX9_agree_10 (by decide) (by decide) rfl (by decide) ?_
          refine zj_aload_n dX9_agree_53 rfl ?_
          refine zj_cVI0 ml_X9_412 (fun a h => c_X9_outOf h_o0 h) h_o0 rfl (Nat.le_of_ble_eq_true rfl) (Nat.le_of_ble_eq_true rfl) dX9_agree_54 (fun r12 s11 => ?_)
          exact zj_iret hr dX9_agree_57
        · refine zj_split (fun hs3 => ?_) (fun hs3 => ?_)
          · refine zj_tsE (u := 2) (tgt := 58) hs3 dX9_agree_10 (by decide) (by decide) rfl (by decide) ?_
            refine zj_aload_n dX9_agree_58 rfl ?_
            refine zj_getI dX9_agree_59 fl_X9_405 rfl h_o0 ?_
            refine zj_aload_n dX9_agree_62 rfl ?_
            refine zj_cVI0 ml_X9_412 (fun a h => c_X9_outOf h_o0 h) h_o0 rfl (Nat.le_of_ble_eq_true rfl) (Nat.le_of_ble_eq_true rfl) dX9_agree_63 (fun r8 s7 => ?_)
            refine zj_cSI1 ml_X9_390 (fun a h => c_X9_ones  h) (Nat.le_of_ble_eq_true rfl) (Nat.le_of_ble_eq_true rfl) dX9_agree_66 (fun r10 s9 => ?_)
            refine zj_isub dX9_agree_69 ?_
            exact zj_iret hr dX9_agree_70
          · refine zj_split (fun hs4 => ?_) (fun hs4 => ?_)
            · refine zj_tsE (u := 3) (tgt := 71) hs4 dX9_agree_10 (by decide) (by decide) rfl (by decide) ?_
              refine zj_aload_n dX9_agree_71 rfl ?_
              refine zj_cVI0 ml_X9_415 (fun a h => c_X9_partsOf h_o0 h) h_o0 rfl (Nat.le_of_ble_eq_true rfl) (Nat.le_of_ble_eq_true rfl) dX9_agree_72 (fun r6 s5 => ?_)
              exact zj_iret hr dX9_agree_75
            · refine zj_tsDef (vs := [0, 1, 2, 3]) (tgt := 76) dX9_agree_10 (by decide) (by decide +kernel) (by decide) (by
                intro u hu
                simp only [List.mem_cons, List.not_mem_nil, or_false] at hu
                rcases hu with rfl | rfl | rfl | rfl
                · exact hs1
                · exact hs2
                · exact hs3
                · exact hs4
                ) ?_
              refine zj_iconst dX9_agree_76 zic_m1 ?_
              exact zj_iret hr dX9_agree_77) hm
def m_X9_note (o0 : Nat) (p1 : Int32) (p2 : Int32) (s : zSt) : Option (zSt) :=
  (if zI s o0 62 < 0 ∨ zN (zT o0 51) ≤ Int32.toNatClampNeg (zI s o0 62) then none else zlt (zsI s (zT o0 51) (Int32.toNatClampNeg (zI s o0 62)) p1) (fun s1 => (if zI s1 o0 62 < 0 ∨ zN (zT o0 52) ≤ Int32.toNatClampNeg (zI s1 o0 62) then none else zlt (zsI s1 (zT o0 52) (Int32.toNatClampNeg (zI s1 o0 62)) p2) (fun s2 => zlt (zsI s2 o0 62 ((zI s2 o0 62) + 1)) (fun s3 => some s3)))))
set_option maxRecDepth 100000 in
theorem c_X9_note {w : zWC} {o0 : Nat} {p1 : Int32} {p2 : Int32} {s : zSt} (h_o0 : zC o0 = 9) {a : zSt} (hm : m_X9_note o0 p1 p2 s = some a) : zCn w 0 yX9_note cX9_note 3 none [.ref (zb w + o0), .int p1, .int p2] s (zeV a).1 (zeV a).2 :=
  zCn_of (own := RX9) (lv := [some (.ref (zb w + o0)), some (.int p1), some (.int p2)]) (by decide +kernel) rfl (Nat.le_of_ble_eq_true rfl) rfl (fun x hr => by
    unfold m_X9_note
    refine zj_aload_n dX9_note_0 rfl ?_
    refine zj_getT dX9_note_1 fl_X9_103 rfl h_o0 ?_
    refine zj_aload_n dX9_note_4 rfl ?_
    refine zj_getI dX9_note_5 fl_X9_418 rfl h_o0 ?_
    refine zj_iload_n dX9_note_8 rfl ?_
    refine zj_iast dX9_note_9 (zt_9_51 _ h_o0) (fun s1 => ?_)
    refine zj_aload_n dX9_note_10 rfl ?_
    refine zj_getT dX9_note_11 fl_X9_106 rfl h_o0 ?_
    refine zj_aload_n dX9_note_14 rfl ?_
    refine zj_getI dX9_note_15 fl_X9_418 rfl h_o0 ?_
    refine zj_iload_n dX9_note_18 rfl ?_
    refine zj_iast dX9_note_19 (zt_9_52 _ h_o0) (fun s2 => ?_)
    refine zj_aload_n dX9_note_20 rfl ?_
    refine zj_dup dX9_note_21 rfl ?_
    refine zj_getI dX9_note_22 fl_X9_418 rfl h_o0 ?_
    refine zj_iconst dX9_note_25 zic_1 ?_
    refine zj_iadd dX9_note_26 ?_
    refine zj_putI dX9_note_27 fl_X9_418 rfl h_o0 pd_9_62 rfl rfl (fun s3 => ?_)
    exact zj_vret hr dX9_note_30) hm
def m_X9_upper (o0 : Nat) (s : zSt) : Option (Int32 × zSt) :=
  (if zI s o0 67 = 0 then
  some (30, s)
  else
  (if (zI s o0 67) - 1 < 0 ∨ zN (zT o0 59) ≤ Int32.toNatClampNeg ((zI s o0 67) - 1) then none else some (zI s (zT o0 59) (Int32.toNatClampNeg ((zI s o0 67) - 1)), s)))
set_option maxRecDepth 100000 in
theorem c_X9_upper {w : zWC} {o0 : Nat} {s : zSt} (h_o0 : zC o0 = 9) {a : Int32 × zSt} (hm : m_X9_upper o0 s = some a) : zCn w 0 yX9_upper cX9_upper 1 (some .int) [.ref (zb w + o0)] s (zeI a).1 (zeI a).2 :=
  zCn_of (own := RX9) (lv := [some (.ref (zb w + o0))]) (by decide +kernel) rfl (Nat.le_of_ble_eq_true rfl) rfl (fun x hr => by
    unfold m_X9_upper
    refine zj_aload_n dX9_upper_0 rfl ?_
    refine zj_getI dX9_upper_1 fl_X9_421 rfl h_o0 ?_
    refine zj_if_ne (tgt := 12) dX9_upper_4 (by decide) ?_ ?_
    · refine zj_bipush dX9_upper_7 zbi_30 ?_
      refine zj_goto (tgt := 23) dX9_upper_9 (by decide) ?_
      exact zj_iret hr dX9_upper_23
    · refine zj_aload_n dX9_upper_12 rfl ?_
      refine zj_getT dX9_upper_13 fl_X9_127 rfl h_o0 ?_
      refine zj_aload_n dX9_upper_16 rfl ?_
      refine zj_getI dX9_upper_17 fl_X9_421 rfl h_o0 ?_
      refine zj_iconst dX9_upper_20 zic_1 ?_
      refine zj_isub dX9_upper_21 ?_
      refine zj_iald dX9_upper_22 (zt_9_59 _ h_o0) ?_
      exact zj_iret hr dX9_upper_23) hm
def m_X9_rank (p0 : Int32) (s : zSt) : Option (Int32 × zSt) :=
  (if p0 = 21 then
  some (20, s)
  else
  (if p0 = 23 then
    some (22, s)
    else
    some (p0, s)))
set_option maxRecDepth 100000 in
theorem c_X9_rank {w : zWC} {p0 : Int32} {s : zSt}  {a : Int32 × zSt} (hm : m_X9_rank p0 s = some a) : zCn w 0 yX9_rank cX9_rank 1 (some .int) [.int p0] s (zeI a).1 (zeI a).2 :=
  zCn_of (own := RX9) (lv := [some (.int p0)]) (by decide +kernel) rfl (Nat.le_of_ble_eq_true rfl) rfl (fun x hr => by
    unfold m_X9_rank
    refine zj_iload_n dX9_rank_0 rfl ?_
    refine zj_bipush dX9_rank_1 zbi_21 ?_
    refine zj_icmp_ne (tgt := 11) dX9_rank_3 (by decide) ?_ ?_
    · refine zj_bipush dX9_rank_6 zbi_20 ?_
      refine zj_goto (tgt := 23) dX9_rank_8 (by decide) ?_
      exact zj_iret hr dX9_rank_23
    · refine zj_iload_n dX9_rank_11 rfl ?_
      refine zj_bipush dX9_rank_12 zbi_23 ?_
      refine zj_icmp_ne (tgt := 22) dX9_rank_14 (by decide) ?_ ?_
      · refine zj_bipush dX9_rank_17 zbi_22 ?_
        refine zj_goto (tgt := 23) dX9_rank_19 (by decide) ?_
        exact zj_iret hr dX9_rank_23
      · refine zj_iload_n dX9_rank_22 rfl ?_
        exact zj_iret hr dX9_rank_23) hm
def bd_X9_settle_0 (o0 : Nat) (p1 : Int32) (rec0 : zSt → Option (zSt)) (s : zSt) : Option (zSt) :=
  zcl (m_X9_upper o0 s) (fun r2 s1 => (if r2 = 30 then
  some s1
  else
  zcl (m_X9_upper o0 s1) (fun r4 s3 => zcl (m_X9_rank r4 s3) (fun r6 s5 => (if r6 < p1 then
    some s5
    else
    zlt (zsI s5 o0 67 ((zI s5 o0 67) - 1)) (fun s7 => (if zI s7 o0 67 < 0 ∨ zN (zT o0 59) ≤ Int32.toNatClampNeg (zI s7 o0 67) then none else zcv (m_X9_note o0 (zI s7 (zT o0 59) (Int32.toNatClampNeg (zI s7 o0 67))) 0 s7) (fun s8 => rec0  s8))))))))
def lp_X9_settle_0 (o0 : Nat) (p1 : Int32) : Nat → zSt → Option (zSt)
  | 0, _ => none
  | n + 1, s => bd_X9_settle_0 o0 p1 (fun s => lp_X9_settle_0 o0 p1 n s) s
set_option maxRecDepth 100000 in
theorem jb_X9_settle_0 {o0 : Nat} {p1 : Int32} {rec0 : zSt → Option (zSt)} {s : zSt} {w : zWC} {x : zCX} (hr : zrt x = none)  (h_o0 : zC o0 = 9) (h_rec0 : ∀  (s : zSt), zJ (zQf w x zeV) w x RX9 cX9_settle 2 1 (rec0  s) 0 [some (.ref (zb w + o0)), some (.int p1)] [] s) : zJ (zQf w x zeV) w x RX9 cX9_settle 2 1 (bd_X9_settle_0 o0 p1 rec0 s) 0 [some (.ref (zb w + o0)), some (.int p1)] [] s := by
  unfold bd_X9_settle_0
  refine zj_aload_n dX9_settle_0 rfl ?_
  refine zj_cVI0 ml_X9_424 (fun a h => c_X9_upper h_o0 h) h_o0 rfl (Nat.le_of_ble_eq_true rfl) (Nat.le_of_ble_eq_true rfl) dX9_settle_1 (fun r2 s1 => ?_)
  refine zj_bipush dX9_settle_4 zbi_30 ?_
  refine zj_icmp_eq (tgt := 47) dX9_settle_6 (by decide) ?_ ?_
  · exact zj_vret hr dX9_settle_47
  · refine zj_aload_n dX9_settle_9 rfl ?_
    refine zj_cVI0 ml_X9_424 (fun a h => c_X9_upper h_o0 h) h_o0 rfl (Nat.le_of_ble_eq_true rfl) (Nat.le_of_ble_eq_true rfl) dX9_settle_10 (fun r4 s3 => ?_)
    refine zj_cSI1 ml_X9_427 (fun a h => c_X9_rank  h) (Nat.le_of_ble_eq_true rfl) (Nat.le_of_ble_eq_true rfl) dX9_settle_13 (fun r6 s5 => ?_)
    refine zj_iload_n dX9_settle_16 rfl ?_
    refine zj_icmp_lt (tgt := 47) dX9_settle_17 (by decide) ?_ ?_
    · exact zj_vret hr dX9_settle_47
    · refine zj_aload_n dX9_settle_20 rfl ?_
      refine zj_dup dX9_settle_21 rfl ?_
      refine zj_getI dX9_settle_22 fl_X9_421 rfl h_o0 ?_
      refine zj_iconst dX9_settle_25 zic_1 ?_
      refine zj_isub dX9_settle_26 ?_
      refine zj_putI dX9_settle_27 fl_X9_421 rfl h_o0 pd_9_67 rfl rfl (fun s7 => ?_)
      refine zj_aload_n dX9_settle_30 rfl ?_
      refine zj_aload_n dX9_settle_31 rfl ?_
      refine zj_getT dX9_settle_32 fl_X9_127 rfl h_o0 ?_
      refine zj_aload_n dX9_settle_35 rfl ?_
      refine zj_getI dX9_settle_36 fl_X9_421 rfl h_o0 ?_
      refine zj_iald dX9_settle_39 (zt_9_59 _ h_o0) ?_
      refine zj_iconst dX9_settle_40 zic_0 ?_
      refine zj_cVV2 ml_X9_430 (fun a h => c_X9_note h_o0 h) h_o0 rfl (Nat.le_of_ble_eq_true rfl) (Nat.le_of_ble_eq_true rfl) dX9_settle_41 (fun s8 => ?_)
      refine zj_goto (tgt := 0) dX9_settle_44 (by decide) ?_
      exact h_rec0 _
set_option maxRecDepth 100000 in
theorem jl_X9_settle_0 {o0 : Nat} {p1 : Int32} {w : zWC} {x : zCX} (hr : zrt x = none)  (h_o0 : zC o0 = 9) : ∀ (n : Nat)  (s : zSt), zJ (zQf w x zeV) w x RX9 cX9_settle 2 1 (lp_X9_settle_0 o0 p1 n s) 0 [some (.ref (zb w + o0)), some (.int p1)] [] s := by
  intro n
  induction n with
  | zero => intro s; exact zj_none
  | succ n ih => intro s; exact jb_X9_settle_0 hr h_o0 (fun s => ih s)
def m_X9_settle (o0 : Nat) (p1 : Int32) (s : zSt) : Option (zSt) :=
  lp_X9_settle_0 o0 p1 zFuel s
set_option maxRecDepth 100000 in
theorem c_X9_settle {w : zWC} {o0 : Nat} {p1 : Int32} {s : zSt} (h_o0 : zC o0 = 9) {a : zSt} (hm : m_X9_settle o0 p1 s = some a) : zCn w 1 yX9_settle cX9_settle 2 none [.ref (zb w + o0), .int p1] s (zeV a).1 (zeV a).2 :=
  zCn_of (own := RX9) (lv := [some (.ref (zb w + o0)), some (.int p1)]) (by decide +kernel) rfl (Nat.le_of_ble_eq_true rfl) rfl (fun x hr => by
    unfold m_X9_settle
    exact jl_X9_settle_0 hr h_o0 zFuel _) hm
def m_X9_isOpen (o0 : Nat) (s : zSt) : Option (Int32 × zSt) :=
  (if 0 < zI s o0 68 then
  some (1, s)
  else
  some (0, s))
set_option maxRecDepth 100000 in
theorem c_X9_isOpen {w : zWC} {o0 : Nat} {s : zSt} (h_o0 : zC o0 = 9) {a : Int32 × zSt} (hm : m_X9_isOpen o0 s = some a) : zCn w 0 yX9_isOpen cX9_isOpen 1 (some .boolean) [.ref (zb w + o0)] s (zeI a).1 (zeI a).2 :=
  zCn_of (own := RX9) (lv := [some (.ref (zb w + o0))]) (by decide +kernel) rfl (Nat.le_of_ble_eq_true rfl) rfl (fun x hr => by
    unfold m_X9_isOpen
    refine zj_aload_n dX9_isOpen_0 rfl ?_
    refine zj_getI dX9_isOpen_1 fl_X9_433 rfl h_o0 ?_
    refine zj_if_le (tgt := 11) dX9_isOpen_4 (by decide) ?_ ?_
    · refine zj_iconst dX9_isOpen_7 zic_1 ?_
      refine zj_goto (tgt := 12) dX9_isOpen_8 (by decide) ?_
      exact zj_zret hr rfl dX9_isOpen_12
    · refine zj_iconst dX9_isOpen_11 zic_0 ?_
      exact zj_zret hr rfl dX9_isOpen_12) hm
def m_X9_lineOf_32 (o0 : Nat) (q1 : Int64) (rec5 : Int32 → Int32 → zSt → Option (Int32 × zSt)) (l4 : Int32) (t0 : Int32) (s : zSt) : Option (Int32 × zSt) :=
  rec5 t0 (l4 + 1) s
set_option maxRecDepth 100000 in
theorem j_X9_lineOf_32 {o0 : Nat} {q1 : Int64} {rec5 : Int32 → Int32 → zSt → Option (Int32 × zSt)} {l4 : Int32} {t0 : Int32} {s : zSt} {w : zWC} {x : zCX} (hr : zrt x = (some .int))  (h_o0 : zC o0 = 9) (h_rec5 : ∀ (l3 : Int32) (l4 : Int32) (s : zSt), zJ (zQf w x zeI) w x RX9 cX9_lineOf 5 0 (rec5 l3 l4 s) 5 [some (.ref (zb w + o0)), some (.long q1), none, some (.int l3), some (.int l4)] [] s) : zJ (zQf w x zeI) w x RX9 cX9_lineOf 5 0 (m_X9_lineOf_32 o0 q1 rec5 l4 t0 s) 32 [some (.ref (zb w + o0)), some (.long q1), none, none, some (.int l4)] [.int t0] s := by
  unfold m_X9_lineOf_32
  refine zj_istore_n (lv' := [some (.ref (zb w + o0)), some (.long q1), none, some (.int t0), some (.int l4)]) dX9_lineOf_32 rfl (by decide) rfl rfl ?_
  refine zj_iinc (v2 := l4 + 1) (lv' := [some (.ref (zb w + o0)), some (.long q1), none, some (.int t0), some (.int (l4 + 1))]) dX9_lineOf_33 rfl (by rw [zic_1]) (by decide) rfl rfl ?_
  refine zj_goto (tgt := 5) dX9_lineOf_36 (by decide) ?_
  exact h_rec5 _ _ _
def bd_X9_lineOf_5 (o0 : Nat) (q1 : Int64) (rec5 : Int32 → Int32 → zSt → Option (Int32 × zSt)) (l3 : Int32) (l4 : Int32) (s : zSt) : Option (Int32 × zSt) :=
  (if l4 < zI s o0 64 then
  (if l4 < 0 ∨ zN (zT o0 50) ≤ Int32.toNatClampNeg l4 then none else (if zL s (zT o0 50) (Int32.toNatClampNeg l4) = q1 then
    m_X9_lineOf_32 o0 q1 rec5 l4 l4 s
    else
    m_X9_lineOf_32 o0 q1 rec5 l4 l3 s))
  else
  some (l3, s))
def lp_X9_lineOf_5 (o0 : Nat) (q1 : Int64) : Nat → Int32 → Int32 → zSt → Option (Int32 × zSt)
  | 0, _, _, _ => none
  | n + 1, l3, l4, s => bd_X9_lineOf_5 o0 q1 (fun l3 l4 s => lp_X9_lineOf_5 o0 q1 n l3 l4 s) l3 l4 s
set_option maxRecDepth 100000 in
theorem jb_X9_lineOf_5 {o0 : Nat} {q1 : Int64} {rec5 : Int32 → Int32 → zSt → Option (Int32 × zSt)} {l3 : Int32} {l4 : Int32} {s : zSt} {w : zWC} {x : zCX} (hr : zrt x = (some .int))  (h_o0 : zC o0 = 9) (h_rec5 : ∀ (l3 : Int32) (l4 : Int32) (s : zSt), zJ (zQf w x zeI) w x RX9 cX9_lineOf 5 0 (rec5 l3 l4 s) 5 [some (.ref (zb w + o0)), some (.long q1), none, some (.int l3), some (.int l4)] [] s) : zJ (zQf w x zeI) w x RX9 cX9_lineOf 5 0 (bd_X9_lineOf_5 o0 q1 rec5 l3 l4 s) 5 [some (.ref (zb w + o0)), some (.long q1), none, some (.int l3), some (.int l4)] [] s := by
  unfold bd_X9_lineOf_5
  refine zj_iload dX9_lineOf_5 rfl ?_
  refine zj_aload_n dX9_lineOf_7 rfl ?_
  refine zj_getI dX9_lineOf_8 fl_X9_436 rfl h_o0 ?_
  refine zj_icmp_ge (tgt := 39) dX9_lineOf_11 (by decide) ?_ ?_
  · refine zj_aload_n dX9_lineOf_14 rfl ?_
    refine zj_getT dX9_lineOf_15 fl_X9_100 rfl h_o0 ?_
    refine zj_iload dX9_lineOf_18 rfl ?_
    refine zj_lald dX9_lineOf_20 (zt_9_50 _ h_o0) ?_
    refine zj_lload_n dX9_lineOf_21 rfl ?_
    refine zj_lcmp_ne (tgt := 31) dX9_lineOf_22 dX9_lineOf_23 (by decide) ?_ ?_
    · refine zj_iload dX9_lineOf_26 rfl ?_
      refine zj_goto (tgt := 32) dX9_lineOf_28 (by decide) ?_
      refine zj_weak [true, true, false, false, true] rfl ?_
      exact j_X9_lineOf_32 hr h_o0 h_rec5
    · refine zj_iload_n dX9_lineOf_31 rfl ?_
      refine zj_weak [true, true, false, false, true] rfl ?_
      exact j_X9_lineOf_32 hr h_o0 h_rec5
  · refine zj_iload_n dX9_lineOf_39 rfl ?_
    exact zj_iret hr dX9_lineOf_40
set_option maxRecDepth 100000 in
theorem jl_X9_lineOf_5 {o0 : Nat} {q1 : Int64} {w : zWC} {x : zCX} (hr : zrt x = (some .int))  (h_o0 : zC o0 = 9) : ∀ (n : Nat) (l3 : Int32) (l4 : Int32) (s : zSt), zJ (zQf w x zeI) w x RX9 cX9_lineOf 5 0 (lp_X9_lineOf_5 o0 q1 n l3 l4 s) 5 [some (.ref (zb w + o0)), some (.long q1), none, some (.int l3), some (.int l4)] [] s := by
  intro n
  induction n with
  | zero => intro l3 l4 s; exact zj_none
  | succ n ih => intro l3 l4 s; exact jb_X9_lineOf_5 hr h_o0 (fun l3 l4 s => ih l3 l4 s)
def m_X9_lineOf (o0 : Nat) (q1 : Int64) (s : zSt) : Option (Int32 × zSt) :=
  lp_X9_lineOf_5 o0 q1 zFuel (-1) 0 s
set_option maxRecDepth 100000 in
theorem c_X9_lineOf {w : zWC} {o0 : Nat} {q1 : Int64} {s : zSt} (h_o0 : zC o0 = 9) {a : Int32 × zSt} (hm : m_X9_lineOf o0 q1 s = some a) : zCn w 0 yX9_lineOf cX9_lineOf 5 (some .int) [.ref (zb w + o0), .long q1] s (zeI a).1 (zeI a).2 :=
  zCn_of (own := RX9) (lv := [some (.ref (zb w + o0)), some (.long q1), none, none, none]) (by decide +kernel) rfl (Nat.le_of_ble_eq_true rfl) rfl (fun x hr => by
    unfold m_X9_lineOf
    refine zj_iconst dX9_lineOf_0 zic_m1 ?_
    refine zj_istore_n (lv' := [some (.ref (zb w + o0)), some (.long q1), none, some (.int (-1)), none]) dX9_lineOf_1 rfl (by decide) rfl rfl ?_
    refine zj_iconst dX9_lineOf_2 zic_0 ?_
    refine zj_istore (lv' := [some (.ref (zb w + o0)), some (.long q1), none, some (.int (-1)), some (.int 0)]) dX9_lineOf_3 (by decide) rfl rfl ?_
    exact jl_X9_lineOf_5 hr h_o0 zFuel _ _ _) hm
def m_X9_unit_175 (o0 : Nat) (t0 : Nat) (t1 : Int32) (t2 : Int32) (s : zSt) : Option (Int32 × zSt) :=
  zcv (m_X9_note t0 t1 t2 s) (fun s9 => zcv (m_X9_token o0 s9) (fun s10 => some (0, s10)))
set_option maxRecDepth 100000 in
theorem j_X9_unit_175 {o0 : Nat} {t0 : Nat} {t1 : Int32} {t2 : Int32} {s : zSt} {w : zWC} {x : zCX} (hr : zrt x = (some .boolean))  (h_o0 : zC o0 = 9) (ht0 : zC t0 = 9) : zJ (zQf w x zeI) w x RX9 cX9_unit 2 2 (m_X9_unit_175 o0 t0 t1 t2 s) 175 [some (.ref (zb w + o0)), none] [.int t2, .int t1, .ref (zb w + t0)] s := by
  unfold m_X9_unit_175
  refine zj_cVV2 ml_X9_430 (fun a h => c_X9_note ht0 h) ht0 rfl (Nat.le_of_ble_eq_true rfl) (Nat.le_of_ble_eq_true rfl) dX9_unit_175 (fun s9 => ?_)
  refine zj_aload_n dX9_unit_178 rfl ?_
  refine zj_cVV0 ml_X9_195 (fun a h => c_X9_token h_o0 h) h_o0 rfl (Nat.le_of_ble_eq_true rfl) (Nat.le_of_ble_eq_true rfl) dX9_unit_179 (fun s10 => ?_)
  refine zj_iconst dX9_unit_182 zic_0 ?_
  exact zj_zret hr rfl dX9_unit_183
def m_X9_unit_156 (o0 : Nat) (l1 : Int32) (t0 : Nat) (t1 : Int32) (s : zSt) : Option (Int32 × zSt) :=
  (if l1 = 0 then
  m_X9_unit_175 o0 t0 t1 (zI s o0 8) s
  else
  zcl (m_X9_lineOf o0 (zL s o0 9) s) (fun r12 s11 => m_X9_unit_175 o0 t0 t1 r12 s11))
set_option maxRecDepth 100000 in
theorem j_X9_unit_156 {o0 : Nat} {l1 : Int32} {t0 : Nat} {t1 : Int32} {s : zSt} {w : zWC} {x : zCX} (hr : zrt x = (some .boolean))  (h_o0 : zC o0 = 9) (ht0 : zC t0 = 9) : zJ (zQf w x zeI) w x RX9 cX9_unit 2 2 (m_X9_unit_156 o0 l1 t0 t1 s) 156 [some (.ref (zb w + o0)), some (.int l1)] [.int t1, .ref (zb w + t0)] s := by
  unfold m_X9_unit_156
  refine zj_iload_n dX9_unit_156 rfl ?_
  refine zj_if_eq (tgt := 171) dX9_unit_157 (by decide) ?_ ?_
  · refine zj_aload_n dX9_unit_171 rfl ?_
    refine zj_getI dX9_unit_172 fl_X9_176 rfl h_o0 ?_
    refine zj_weak [true, false] rfl ?_
    exact j_X9_unit_175 hr h_o0 ht0
  · refine zj_aload_n dX9_unit_160 rfl ?_
    refine zj_aload_n dX9_unit_161 rfl ?_
    refine zj_getL dX9_unit_162 fl_X9_172 rfl h_o0 ?_
    refine zj_cVI1 ml_X9_442 (fun a h => c_X9_lineOf h_o0 h) h_o0 rfl (Nat.le_of_ble_eq_true rfl) (Nat.le_of_ble_eq_true rfl) dX9_unit_165 (fun r12 s11 => ?_)
    refine zj_goto (tgt := 175) dX9_unit_168 (by decide) ?_
    refine zj_weak [true, false] rfl ?_
    exact j_X9_unit_175 hr h_o0 ht0
def m_X9_unit_81 (o0 : Nat) (l1 : Int32) (s : zSt) : Option (Int32 × zSt) :=
  (if 0 < zI s o0 2 then
  some (1, s)
  else
  zlt (zsI s o0 63 ((zI s o0 63) + 1)) (fun s4 => (if zI s4 o0 6 = 40 then
    (if zI s4 o0 67 < 0 ∨ zN (zT o0 59) ≤ Int32.toNatClampNeg (zI s4 o0 67) then none else zlt (zsI s4 (zT o0 59) (Int32.toNatClampNeg (zI s4 o0 67)) 30) (fun s5 => zlt (zsI s5 o0 67 ((zI s5 o0 67) + 1)) (fun s6 => zlt (zsI s6 o0 68 ((zI s6 o0 68) + 1)) (fun s7 => zcv (m_X9_token o0 s7) (fun s8 => some (1, s8))))))
    else
    (if l1 = 0 then
      m_X9_unit_156 o0 l1 o0 0 s4
      else
      m_X9_unit_156 o0 l1 o0 1 s4))))
set_option maxRecDepth 100000 in
theorem j_X9_unit_81 {o0 : Nat} {l1 : Int32} {s : zSt} {w : zWC} {x : zCX} (hr : zrt x = (some .boolean))  (h_o0 : zC o0 = 9) : zJ (zQf w x zeI) w x RX9 cX9_unit 2 2 (m_X9_unit_81 o0 l1 s) 81 [some (.ref (zb w + o0)), some (.int l1)] [] s := by
  unfold m_X9_unit_81
  refine zj_aload_n dX9_unit_81 rfl ?_
  refine zj_getI dX9_unit_82 fl_X9_192 rfl h_o0 ?_
  refine zj_if_le (tgt := 90) dX9_unit_85 (by decide) ?_ ?_
  · refine zj_iconst dX9_unit_88 zic_1 ?_
    exact zj_zret hr rfl dX9_unit_89
  · refine zj_aload_n dX9_unit_90 rfl ?_
    refine zj_dup dX9_unit_91 rfl ?_
    refine zj_getI dX9_unit_92 fl_X9_439 rfl h_o0 ?_
    refine zj_iconst dX9_unit_95 zic_1 ?_
    refine zj_iadd dX9_unit_96 ?_
    refine zj_putI dX9_unit_97 fl_X9_439 rfl h_o0 pd_9_63 rfl rfl (fun s4 => ?_)
    refine zj_aload_n dX9_unit_100 rfl ?_
    refine zj_getI dX9_unit_101 fl_X9_179 rfl h_o0 ?_
    refine zj_bipush dX9_unit_104 zbi_40 ?_
    refine zj_icmp_ne (tgt := 146) dX9_unit_106 (by decide) ?_ ?_
    · refine zj_aload_n dX9_unit_109 rfl ?_
      refine zj_getT dX9_unit_110 fl_X9_127 rfl h_o0 ?_
      refine zj_aload_n dX9_unit_113 rfl ?_
      refine zj_getI dX9_unit_114 fl_X9_421 rfl h_o0 ?_
      refine zj_bipush dX9_unit_117 zbi_30 ?_
      refine zj_iast dX9_unit_119 (zt_9_59 _ h_o0) (fun s5 => ?_)
      refine zj_aload_n dX9_unit_120 rfl ?_
      refine zj_dup dX9_unit_121 rfl ?_
      refine zj_getI dX9_unit_122 fl_X9_421 rfl h_o0 ?_
      refine zj_iconst dX9_unit_125 zic_1 ?_
      refine zj_iadd dX9_unit_126 ?_
      refine zj_putI dX9_unit_127 fl_X9_421 rfl h_o0 pd_9_67 rfl rfl (fun s6 => ?_)
      refine zj_aload_n dX9_unit_130 rfl ?_
      refine zj_dup dX9_unit_131 rfl ?_
      refine zj_getI dX9_unit_132 fl_X9_433 rfl h_o0 ?_
      refine zj_iconst dX9_unit_135 zic_1 ?_
      refine zj_iadd dX9_unit_136 ?_
      refine zj_putI dX9_unit_137 fl_X9_433 rfl h_o0 pd_9_68 rfl rfl (fun s7 => ?_)
      refine zj_aload_n dX9_unit_140 rfl ?_
      refine zj_cVV0 ml_X9_195 (fun a h => c_X9_token h_o0 h) h_o0 rfl (Nat.le_of_ble_eq_true rfl) (Nat.le_of_ble_eq_true rfl) dX9_unit_141 (fun s8 => ?_)
      refine zj_iconst dX9_unit_144 zic_1 ?_
      exact zj_zret hr rfl dX9_unit_145
    · refine zj_aload_n dX9_unit_146 rfl ?_
      refine zj_iload_n dX9_unit_147 rfl ?_
      refine zj_if_eq (tgt := 155) dX9_unit_148 (by decide) ?_ ?_
      · refine zj_iconst dX9_unit_155 zic_0 ?_
        exact j_X9_unit_156 hr h_o0 h_o0
      · refine zj_iconst dX9_unit_151 zic_1 ?_
        refine zj_goto (tgt := 156) dX9_unit_152 (by decide) ?_
        exact j_X9_unit_156 hr h_o0 h_o0
def m_X9_unit_53 (o0 : Nat) (l1 : Int32) (s : zSt) : Option (Int32 × zSt) :=
  zcv (m_X9_wrong o0 2 s) (fun s3 => m_X9_unit_81 o0 l1 s3)
set_option maxRecDepth 100000 in
theorem j_X9_unit_53 {o0 : Nat} {l1 : Int32} {s : zSt} {w : zWC} {x : zCX} (hr : zrt x = (some .boolean))  (h_o0 : zC o0 = 9) : zJ (zQf w x zeI) w x RX9 cX9_unit 2 2 (m_X9_unit_53 o0 l1 s) 53 [some (.ref (zb w + o0)), some (.int l1)] [] s := by
  unfold m_X9_unit_53
  refine zj_aload_n dX9_unit_53 rfl ?_
  refine zj_iconst dX9_unit_54 zic_2 ?_
  refine zj_cVV1 ml_X9_242 (fun a h => c_X9_wrong h_o0 h) h_o0 rfl (Nat.le_of_ble_eq_true rfl) (Nat.le_of_ble_eq_true rfl) dX9_unit_55 (fun s3 => ?_)
  refine zj_goto (tgt := 81) dX9_unit_58 (by decide) ?_
  exact j_X9_unit_81 hr h_o0
def m_X9_unit_61 (o0 : Nat) (l1 : Int32) (s : zSt) : Option (Int32 × zSt) :=
  (if l1 = 0 then
  m_X9_unit_81 o0 l1 s
  else
  zcl (m_X9_lineOf o0 (zL s o0 9) s) (fun r14 s13 => (if r14 < 0 then
    zcv (m_X9_wrong o0 5 s13) (fun s15 => m_X9_unit_81 o0 l1 s15)
    else
    m_X9_unit_81 o0 l1 s13)))
set_option maxRecDepth 100000 in
theorem j_X9_unit_61 {o0 : Nat} {l1 : Int32} {s : zSt} {w : zWC} {x : zCX} (hr : zrt x = (some .boolean))  (h_o0 : zC o0 = 9) : zJ (zQf w x zeI) w x RX9 cX9_unit 2 2 (m_X9_unit_61 o0 l1 s) 61 [some (.ref (zb w + o0)), some (.int l1)] [] s := by
  unfold m_X9_unit_61
  refine zj_iload_n dX9_unit_61 rfl ?_
  refine zj_if_eq (tgt := 81) dX9_unit_62 (by decide) ?_ ?_
  · exact j_X9_unit_81 hr h_o0
  · refine zj_aload_n dX9_unit_65 rfl ?_
    refine zj_aload_n dX9_unit_66 rfl ?_
    refine zj_getL dX9_unit_67 fl_X9_172 rfl h_o0 ?_
    refine zj_cVI1 ml_X9_442 (fun a h => c_X9_lineOf h_o0 h) h_o0 rfl (Nat.le_of_ble_eq_true rfl) (Nat.le_of_ble_eq_true rfl) dX9_unit_70 (fun r14 s13 => ?_)
    refine zj_if_ge (tgt := 81) dX9_unit_73 (by decide) ?_ ?_
    · refine zj_aload_n dX9_unit_76 rfl ?_
      refine zj_iconst dX9_unit_77 zic_5 ?_
      refine zj_cVV1 ml_X9_242 (fun a h => c_X9_wrong h_o0 h) h_o0 rfl (Nat.le_of_ble_eq_true rfl) (Nat.le_of_ble_eq_true rfl) dX9_unit_78 (fun s15 => ?_)
      exact j_X9_unit_81 hr h_o0
    · exact j_X9_unit_81 hr h_o0
def m_X9_unit_26 (o0 : Nat) (l1 : Int32) (s : zSt) : Option (Int32 × zSt) :=
  (if zI s o0 63 = 60 then
  m_X9_unit_53 o0 l1 s
  else
  (if zI s o0 6 = 40 then
    (if zI s o0 68 < 7 then
      m_X9_unit_61 o0 l1 s
      else
      m_X9_unit_53 o0 l1 s)
    else
    m_X9_unit_61 o0 l1 s))
set_option maxRecDepth 100000 in
theorem j_X9_unit_26 {o0 : Nat} {l1 : Int32} {s : zSt} {w : zWC} {x : zCX} (hr : zrt x = (some .boolean))  (h_o0 : zC o0 = 9) : zJ (zQf w x zeI) w x RX9 cX9_unit 2 2 (m_X9_unit_26 o0 l1 s) 26 [some (.ref (zb w + o0)), some (.int l1)] [] s := by
  unfold m_X9_unit_26
  refine zj_aload_n dX9_unit_26 rfl ?_
  refine zj_getI dX9_unit_27 fl_X9_439 rfl h_o0 ?_
  refine zj_bipush dX9_unit_30 zbi_60 ?_
  refine zj_icmp_eq (tgt := 53) dX9_unit_32 (by decide) ?_ ?_
  · exact j_X9_unit_53 hr h_o0
  · refine zj_aload_n dX9_unit_35 rfl ?_
    refine zj_getI dX9_unit_36 fl_X9_179 rfl h_o0 ?_
    refine zj_bipush dX9_unit_39 zbi_40 ?_
    refine zj_icmp_ne (tgt := 61) dX9_unit_41 (by decide) ?_ ?_
    · refine zj_aload_n dX9_unit_44 rfl ?_
      refine zj_getI dX9_unit_45 fl_X9_433 rfl h_o0 ?_
      refine zj_bipush dX9_unit_48 zbi_7 ?_
      refine zj_icmp_lt (tgt := 61) dX9_unit_50 (by decide) ?_ ?_
      · exact j_X9_unit_61 hr h_o0
      · exact j_X9_unit_53 hr h_o0
    · exact j_X9_unit_61 hr h_o0
def m_X9_unit (o0 : Nat) (s : zSt) : Option (Int32 × zSt) :=
  zcl (m_X9_isName o0 s) (fun r2 s1 => (if zI s1 o0 6 = 2 then
  m_X9_unit_26 o0 r2 s1
  else
  (if zI s1 o0 6 = 40 then
    m_X9_unit_26 o0 r2 s1
    else
    (if r2 = 0 then
      m_X9_unit_53 o0 r2 s1
      else
      m_X9_unit_26 o0 r2 s1))))
set_option maxRecDepth 100000 in
theorem c_X9_unit {w : zWC} {o0 : Nat} {s : zSt} (h_o0 : zC o0 = 9) {a : Int32 × zSt} (hm : m_X9_unit o0 s = some a) : zCn w 2 yX9_unit cX9_unit 2 (some .boolean) [.ref (zb w + o0)] s (zeI a).1 (zeI a).2 :=
  zCn_of (own := RX9) (lv := [some (.ref (zb w + o0)), none]) (by decide +kernel) rfl (Nat.le_of_ble_eq_true rfl) rfl (fun x hr => by
    unfold m_X9_unit
    refine zj_aload_n dX9_unit_0 rfl ?_
    refine zj_cVI0 ml_X9_245 (fun a h => c_X9_isName h_o0 h) h_o0 rfl (Nat.le_of_ble_eq_true rfl) (Nat.le_of_ble_eq_true rfl) dX9_unit_1 (fun r2 s1 => ?_)
    refine zj_istore_n (lv' := [some (.ref (zb w + o0)), some (.int r2)]) dX9_unit_4 rfl (by decide) rfl rfl ?_
    refine zj_aload_n dX9_unit_5 rfl ?_
    refine zj_getI dX9_unit_6 fl_X9_179 rfl h_o0 ?_
    refine zj_iconst dX9_unit_9 zic_2 ?_
    refine zj_icmp_eq (tgt := 26) dX9_unit_10 (by decide) ?_ ?_
    · exact j_X9_unit_26 hr h_o0
    · refine zj_aload_n dX9_unit_13 rfl ?_
      refine zj_getI dX9_unit_14 fl_X9_179 rfl h_o0 ?_
      refine zj_bipush dX9_unit_17 zbi_40 ?_
      refine zj_icmp_eq (tgt := 26) dX9_unit_19 (by decide) ?_ ?_
      · exact j_X9_unit_26 hr h_o0
      · refine zj_iload_n dX9_unit_22 rfl ?_
        refine zj_if_eq (tgt := 53) dX9_unit_23 (by decide) ?_ ?_
        · exact j_X9_unit_53 hr h_o0
        · exact j_X9_unit_26 hr h_o0) hm
def m_X9_sign_105 (o0 : Nat) (l1 : Int32) (s : zSt) : Option (Int32 × zSt) :=
  (if l1 < 0 then
  zcv (m_X9_wrong o0 2 s) (fun s3 => some (0, s3))
  else
  zcl (m_X9_rank l1 s) (fun r5 s4 => zcv (m_X9_settle o0 r5 s4) (fun s6 => (if zI s6 o0 67 < 0 ∨ zN (zT o0 59) ≤ Int32.toNatClampNeg (zI s6 o0 67) then none else zlt (zsI s6 (zT o0 59) (Int32.toNatClampNeg (zI s6 o0 67)) l1) (fun s7 => zlt (zsI s7 o0 67 ((zI s7 o0 67) + 1)) (fun s8 => zcv (m_X9_token o0 s8) (fun s9 => some (1, s9))))))))
set_option maxRecDepth 100000 in
theorem j_X9_sign_105 {o0 : Nat} {l1 : Int32} {s : zSt} {w : zWC} {x : zCX} (hr : zrt x = (some .boolean))  (h_o0 : zC o0 = 9) : zJ (zQf w x zeI) w x RX9 cX9_sign 2 2 (m_X9_sign_105 o0 l1 s) 105 [some (.ref (zb w + o0)), some (.int l1)] [] s := by
  unfold m_X9_sign_105
  refine zj_iload_n dX9_sign_105 rfl ?_
  refine zj_if_ge (tgt := 116) dX9_sign_106 (by decide) ?_ ?_
  · refine zj_aload_n dX9_sign_109 rfl ?_
    refine zj_iconst dX9_sign_110 zic_2 ?_
    refine zj_cVV1 ml_X9_242 (fun a h => c_X9_wrong h_o0 h) h_o0 rfl (Nat.le_of_ble_eq_true rfl) (Nat.le_of_ble_eq_true rfl) dX9_sign_111 (fun s3 => ?_)
    refine zj_iconst dX9_sign_114 zic_0 ?_
    exact zj_zret hr rfl dX9_sign_115
  · refine zj_aload_n dX9_sign_116 rfl ?_
    refine zj_iload_n dX9_sign_117 rfl ?_
    refine zj_cSI1 ml_X9_427 (fun a h => c_X9_rank  h) (Nat.le_of_ble_eq_true rfl) (Nat.le_of_ble_eq_true rfl) dX9_sign_118 (fun r5 s4 => ?_)
    refine zj_cVV1 ml_X9_448 (fun a h => c_X9_settle h_o0 h) h_o0 rfl (Nat.le_of_ble_eq_true rfl) (Nat.le_of_ble_eq_true rfl) dX9_sign_121 (fun s6 => ?_)
    refine zj_aload_n dX9_sign_124 rfl ?_
    refine zj_getT dX9_sign_125 fl_X9_127 rfl h_o0 ?_
    refine zj_aload_n dX9_sign_128 rfl ?_
    refine zj_getI dX9_sign_129 fl_X9_421 rfl h_o0 ?_
    refine zj_iload_n dX9_sign_132 rfl ?_
    refine zj_iast dX9_sign_133 (zt_9_59 _ h_o0) (fun s7 => ?_)
    refine zj_aload_n dX9_sign_134 rfl ?_
    refine zj_dup dX9_sign_135 rfl ?_
    refine zj_getI dX9_sign_136 fl_X9_421 rfl h_o0 ?_
    refine zj_iconst dX9_sign_139 zic_1 ?_
    refine zj_iadd dX9_sign_140 ?_
    refine zj_putI dX9_sign_141 fl_X9_421 rfl h_o0 pd_9_67 rfl rfl (fun s8 => ?_)
    refine zj_aload_n dX9_sign_144 rfl ?_
    refine zj_cVV0 ml_X9_195 (fun a h => c_X9_token h_o0 h) h_o0 rfl (Nat.le_of_ble_eq_true rfl) (Nat.le_of_ble_eq_true rfl) dX9_sign_145 (fun s9 => ?_)
    refine zj_iconst dX9_sign_148 zic_1 ?_
    exact zj_zret hr rfl dX9_sign_149
def m_X9_sign_57 (o0 : Nat) (t0 : Int32) (s : zSt) : Option (Int32 × zSt) :=
  (if zI s o0 6 = 41 then
  zcl (m_X9_isOpen o0 s) (fun r2 s1 => (if r2 = 0 then
    m_X9_sign_105 o0 t0 s1
    else
    zcv (m_X9_settle o0 0 s1) (fun s10 => zlt (zsI s10 o0 67 ((zI s10 o0 67) - 1)) (fun s11 => zlt (zsI s11 o0 68 ((zI s11 o0 68) - 1)) (fun s12 => zcv (m_X9_token o0 s12) (fun s13 => some (0, s13)))))))
  else
  m_X9_sign_105 o0 t0 s)
set_option maxRecDepth 100000 in
theorem j_X9_sign_57 {o0 : Nat} {t0 : Int32} {s : zSt} {w : zWC} {x : zCX} (hr : zrt x = (some .boolean))  (h_o0 : zC o0 = 9) : zJ (zQf w x zeI) w x RX9 cX9_sign 2 2 (m_X9_sign_57 o0 t0 s) 57 [some (.ref (zb w + o0)), none] [.int t0] s := by
  unfold m_X9_sign_57
  refine zj_istore_n (lv' := [some (.ref (zb w + o0)), some (.int t0)]) dX9_sign_57 rfl (by decide) rfl rfl ?_
  refine zj_aload_n dX9_sign_58 rfl ?_
  refine zj_getI dX9_sign_59 fl_X9_179 rfl h_o0 ?_
  refine zj_bipush dX9_sign_62 zbi_41 ?_
  refine zj_icmp_ne (tgt := 105) dX9_sign_64 (by decide) ?_ ?_
  · refine zj_aload_n dX9_sign_67 rfl ?_
    refine zj_cVI0 ml_X9_445 (fun a h => c_X9_isOpen h_o0 h) h_o0 rfl (Nat.le_of_ble_eq_true rfl) (Nat.le_of_ble_eq_true rfl) dX9_sign_68 (fun r2 s1 => ?_)
    refine zj_if_eq (tgt := 105) dX9_sign_71 (by decide) ?_ ?_
    · exact j_X9_sign_105 hr h_o0
    · refine zj_aload_n dX9_sign_74 rfl ?_
      refine zj_iconst dX9_sign_75 zic_0 ?_
      refine zj_cVV1 ml_X9_448 (fun a h => c_X9_settle h_o0 h) h_o0 rfl (Nat.le_of_ble_eq_true rfl) (Nat.le_of_ble_eq_true rfl) dX9_sign_76 (fun s10 => ?_)
      refine zj_aload_n dX9_sign_79 rfl ?_
      refine zj_dup dX9_sign_80 rfl ?_
      refine zj_getI dX9_sign_81 fl_X9_421 rfl h_o0 ?_
      refine zj_iconst dX9_sign_84 zic_1 ?_
      refine zj_isub dX9_sign_85 ?_
      refine zj_putI dX9_sign_86 fl_X9_421 rfl h_o0 pd_9_67 rfl rfl (fun s11 => ?_)
      refine zj_aload_n dX9_sign_89 rfl ?_
      refine zj_dup dX9_sign_90 rfl ?_
      refine zj_getI dX9_sign_91 fl_X9_433 rfl h_o0 ?_
      refine zj_iconst dX9_sign_94 zic_1 ?_
      refine zj_isub dX9_sign_95 ?_
      refine zj_putI dX9_sign_96 fl_X9_433 rfl h_o0 pd_9_68 rfl rfl (fun s12 => ?_)
      refine zj_aload_n dX9_sign_99 rfl ?_
      refine zj_cVV0 ml_X9_195 (fun a h => c_X9_token h_o0 h) h_o0 rfl (Nat.le_of_ble_eq_true rfl) (Nat.le_of_ble_eq_true rfl) dX9_sign_100 (fun s13 => ?_)
      refine zj_iconst dX9_sign_103 zic_0 ?_
      exact zj_zret hr rfl dX9_sign_104
  · exact j_X9_sign_105 hr h_o0
def m_X9_sign (o0 : Nat) (s : zSt) : Option (Int32 × zSt) :=
  (if zI s o0 6 = 43 then
  m_X9_sign_57 o0 20 s
  else
  (if zI s o0 6 = 45 then
    m_X9_sign_57 o0 21 s
    else
    (if zI s o0 6 = 42 then
      m_X9_sign_57 o0 22 s
      else
      (if zI s o0 6 = 47 then
        m_X9_sign_57 o0 23 s
        else
        m_X9_sign_57 o0 (-1) s))))
set_option maxRecDepth 100000 in
theorem c_X9_sign {w : zWC} {o0 : Nat} {s : zSt} (h_o0 : zC o0 = 9) {a : Int32 × zSt} (hm : m_X9_sign o0 s = some a) : zCn w 2 yX9_sign cX9_sign 2 (some .boolean) [.ref (zb w + o0)] s (zeI a).1 (zeI a).2 :=
  zCn_of (own := RX9) (lv := [some (.ref (zb w + o0)), none]) (by decide +kernel) rfl (Nat.le_of_ble_eq_true rfl) rfl (fun x hr => by
    unfold m_X9_sign
    refine zj_aload_n dX9_sign_0 rfl ?_
    refine zj_getI dX9_sign_1 fl_X9_179 rfl h_o0 ?_
    refine zj_bipush dX9_sign_4 zbi_43 ?_
    refine zj_icmp_ne (tgt := 14) dX9_sign_6 (by decide) ?_ ?_
    · refine zj_bipush dX9_sign_9 zbi_20 ?_
      refine zj_goto (tgt := 57) dX9_sign_11 (by decide) ?_
      exact j_X9_sign_57 hr h_o0
    · refine zj_aload_n dX9_sign_14 rfl ?_
      refine zj_getI dX9_sign_15 fl_X9_179 rfl h_o0 ?_
      refine zj_bipush dX9_sign_18 zbi_45 ?_
      refine zj_icmp_ne (tgt := 28) dX9_sign_20 (by decide) ?_ ?_
      · refine zj_bipush dX9_sign_23 zbi_21 ?_
        refine zj_goto (tgt := 57) dX9_sign_25 (by decide) ?_
        exact j_X9_sign_57 hr h_o0
      · refine zj_aload_n dX9_sign_28 rfl ?_
        refine zj_getI dX9_sign_29 fl_X9_179 rfl h_o0 ?_
        refine zj_bipush dX9_sign_32 zbi_42 ?_
        refine zj_icmp_ne (tgt := 42) dX9_sign_34 (by decide) ?_ ?_
        · refine zj_bipush dX9_sign_37 zbi_22 ?_
          refine zj_goto (tgt := 57) dX9_sign_39 (by decide) ?_
          exact j_X9_sign_57 hr h_o0
        · refine zj_aload_n dX9_sign_42 rfl ?_
          refine zj_getI dX9_sign_43 fl_X9_179 rfl h_o0 ?_
          refine zj_bipush dX9_sign_46 zbi_47 ?_
          refine zj_icmp_ne (tgt := 56) dX9_sign_48 (by decide) ?_ ?_
          · refine zj_bipush dX9_sign_51 zbi_23 ?_
            refine zj_goto (tgt := 57) dX9_sign_53 (by decide) ?_
            exact j_X9_sign_57 hr h_o0
          · refine zj_iconst dX9_sign_56 zic_m1 ?_
            exact j_X9_sign_57 hr h_o0) hm
def m_X9_readLine_126 (o0 : Nat) (rec83 : Int64 → Int32 → zSt → Option (zSt)) (k130 : Int64 → zSt → Option (zSt)) (l1 : Int64) (t0 : Int32) (s : zSt) : Option (zSt) :=
  rec83 l1 t0 s
set_option maxRecDepth 100000 in
theorem j_X9_readLine_126 {o0 : Nat} {rec83 : Int64 → Int32 → zSt → Option (zSt)} {k130 : Int64 → zSt → Option (zSt)} {l1 : Int64} {t0 : Int32} {s : zSt} {w : zWC} {x : zCX} (hr : zrt x = none)  (h_o0 : zC o0 = 9) (h_rec83 : ∀ (l1 : Int64) (l3 : Int32) (s : zSt), zJ (zQf w x zeV) w x RX9 cX9_readLine 5 3 (rec83 l1 l3 s) 83 [some (.ref (zb w + o0)), some (.long l1), none, some (.int l3), none] [] s) (h_k130 : ∀ (l1 : Int64) (s : zSt), zJ (zQf w x zeV) w x RX9 cX9_readLine 5 3 (k130 l1 s) 130 [some (.ref (zb w + o0)), some (.long l1), none, none, none] [] s) : zJ (zQf w x zeV) w x RX9 cX9_readLine 5 3 (m_X9_readLine_126 o0 rec83 k130 l1 t0 s) 126 [some (.ref (zb w + o0)), some (.long l1), none, none, none] [.int t0] s := by
  unfold m_X9_readLine_126
  refine zj_istore_n (lv' := [some (.ref (zb w + o0)), some (.long l1), none, some (.int t0), none]) dX9_readLine_126 rfl (by decide) rfl rfl ?_
  refine zj_goto (tgt := 83) dX9_readLine_127 (by decide) ?_
  exact h_rec83 _ _ _
def m_X9_readLine_111 (o0 : Nat) (rec83 : Int64 → Int32 → zSt → Option (zSt)) (k130 : Int64 → zSt → Option (zSt)) (l1 : Int64) (l3 : Int32) (s : zSt) : Option (zSt) :=
  (if l3 = 0 then
  zcl (m_X9_sign o0 s) (fun r15 s14 => m_X9_readLine_126 o0 rec83 k130 l1 r15 s14)
  else
  zcl (m_X9_unit o0 s) (fun r17 s16 => m_X9_readLine_126 o0 rec83 k130 l1 r17 s16))
set_option maxRecDepth 100000 in
theorem j_X9_readLine_111 {o0 : Nat} {rec83 : Int64 → Int32 → zSt → Option (zSt)} {k130 : Int64 → zSt → Option (zSt)} {l1 : Int64} {l3 : Int32} {s : zSt} {w : zWC} {x : zCX} (hr : zrt x = none)  (h_o0 : zC o0 = 9) (h_rec83 : ∀ (l1 : Int64) (l3 : Int32) (s : zSt), zJ (zQf w x zeV) w x RX9 cX9_readLine 5 3 (rec83 l1 l3 s) 83 [some (.ref (zb w + o0)), some (.long l1), none, some (.int l3), none] [] s) (h_k130 : ∀ (l1 : Int64) (s : zSt), zJ (zQf w x zeV) w x RX9 cX9_readLine 5 3 (k130 l1 s) 130 [some (.ref (zb w + o0)), some (.long l1), none, none, none] [] s) : zJ (zQf w x zeV) w x RX9 cX9_readLine 5 3 (m_X9_readLine_111 o0 rec83 k130 l1 l3 s) 111 [some (.ref (zb w + o0)), some (.long l1), none, some (.int l3), none] [] s := by
  unfold m_X9_readLine_111
  refine zj_iload_n dX9_readLine_111 rfl ?_
  refine zj_if_eq (tgt := 122) dX9_readLine_112 (by decide) ?_ ?_
  · refine zj_aload_n dX9_readLine_122 rfl ?_
    refine zj_cVI0 ml_X9_454 (fun a h => c_X9_sign h_o0 h) h_o0 rfl (Nat.le_of_ble_eq_true rfl) (Nat.le_of_ble_eq_true rfl) dX9_readLine_123 (fun r15 s14 => ?_)
    refine zj_weak [true, true, false, false, false] rfl ?_
    exact j_X9_readLine_126 hr h_o0 h_rec83 h_k130
  · refine zj_aload_n dX9_readLine_115 rfl ?_
    refine zj_cVI0 ml_X9_451 (fun a h => c_X9_unit h_o0 h) h_o0 rfl (Nat.le_of_ble_eq_true rfl) (Nat.le_of_ble_eq_true rfl) dX9_readLine_116 (fun r17 s16 => ?_)
    refine zj_goto (tgt := 126) dX9_readLine_119 (by decide) ?_
    refine zj_weak [true, true, false, false, false] rfl ?_
    exact j_X9_readLine_126 hr h_o0 h_rec83 h_k130
def bd_X9_readLine_83 (o0 : Nat) (rec83 : Int64 → Int32 → zSt → Option (zSt)) (k130 : Int64 → zSt → Option (zSt)) (l1 : Int64) (l3 : Int32) (s : zSt) : Option (zSt) :=
  (if zI s o0 2 = 0 then
  (if l3 = 0 then
    zcl (m_X9_isOpen o0 s) (fun r11 s10 => (if r11 = 0 then
      zcl (m_X9_isWord o0 123636697429107 s10) (fun r13 s12 => (if r13 = 0 then
        m_X9_readLine_111 o0 rec83 k130 l1 l3 s12
        else
        k130 l1 s12))
      else
      m_X9_readLine_111 o0 rec83 k130 l1 l3 s10))
    else
    m_X9_readLine_111 o0 rec83 k130 l1 l3 s)
  else
  k130 l1 s)
def lp_X9_readLine_83 (o0 : Nat) (k130 : Int64 → zSt → Option (zSt)) : Nat → Int64 → Int32 → zSt → Option (zSt)
  | 0, _, _, _ => none
  | n + 1, l1, l3, s => bd_X9_readLine_83 o0 (fun l1 l3 s => lp_X9_readLine_83 o0 k130 n l1 l3 s) k130 l1 l3 s
set_option maxRecDepth 100000 in
theorem jb_X9_readLine_83 {o0 : Nat} {rec83 : Int64 → Int32 → zSt → Option (zSt)} {k130 : Int64 → zSt → Option (zSt)} {l1 : Int64} {l3 : Int32} {s : zSt} {w : zWC} {x : zCX} (hr : zrt x = none)  (h_o0 : zC o0 = 9) (h_rec83 : ∀ (l1 : Int64) (l3 : Int32) (s : zSt), zJ (zQf w x zeV) w x RX9 cX9_readLine 5 3 (rec83 l1 l3 s) 83 [some (.ref (zb w + o0)), some (.long l1), none, some (.int l3), none] [] s) (h_k130 : ∀ (l1 : Int64) (s : zSt), zJ (zQf w x zeV) w x RX9 cX9_readLine 5 3 (k130 l1 s) 130 [some (.ref (zb w + o0)), some (.long l1), none, none, none] [] s) : zJ (zQf w x zeV) w x RX9 cX9_readLine 5 3 (bd_X9_readLine_83 o0 rec83 k130 l1 l3 s) 83 [some (.ref (zb w + o0)), some (.long l1), none, some (.int l3), none] [] s := by
  unfold bd_X9_readLine_83
  refine zj_aload_n dX9_readLine_83 rfl ?_
  refine zj_getI dX9_readLine_84 fl_X9_192 rfl h_o0 ?_
  refine zj_if_ne (tgt := 130) dX9_readLine_87 (by decide) ?_ ?_
  · refine zj_iload_n dX9_readLine_90 rfl ?_
    refine zj_if_ne (tgt := 111) dX9_readLine_91 (by decide) ?_ ?_
    · refine zj_aload_n dX9_readLine_94 rfl ?_
      refine zj_cVI0 ml_X9_445 (fun a h => c_X9_isOpen h_o0 h) h_o0 rfl (Nat.le_of_ble_eq_true rfl) (Nat.le_of_ble_eq_true rfl) dX9_readLine_95 (fun r11 s10 => ?_)
      refine zj_if_ne (tgt := 111) dX9_readLine_98 (by decide) ?_ ?_
      · refine zj_aload_n dX9_readLine_101 rfl ?_
        refine zj_ldc2 dX9_readLine_102 kcL_X9_236 ?_
        refine zj_cVI1 ml_X9_238 (fun a h => c_X9_isWord h_o0 h) h_o0 rfl (Nat.le_of_ble_eq_true rfl) (Nat.le_of_ble_eq_true rfl) dX9_readLine_105 (fun r13 s12 => ?_)
        refine zj_if_ne (tgt := 130) dX9_readLine_108 (by decide) ?_ ?_
        · exact j_X9_readLine_111 hr h_o0 h_rec83 h_k130
        · refine zj_weak [true, true, false, false, false] rfl ?_
          exact h_k130 _ _
      · exact j_X9_readLine_111 hr h_o0 h_rec83 h_k130
    · exact j_X9_readLine_111 hr h_o0 h_rec83 h_k130
  · refine zj_weak [true, true, false, false, false] rfl ?_
    exact h_k130 _ _
set_option maxRecDepth 100000 in
theorem jl_X9_readLine_83 {o0 : Nat} {k130 : Int64 → zSt → Option (zSt)} {w : zWC} {x : zCX} (hr : zrt x = none)  (h_o0 : zC o0 = 9) (h_k130 : ∀ (l1 : Int64) (s : zSt), zJ (zQf w x zeV) w x RX9 cX9_readLine 5 3 (k130 l1 s) 130 [some (.ref (zb w + o0)), some (.long l1), none, none, none] [] s) : ∀ (n : Nat) (l1 : Int64) (l3 : Int32) (s : zSt), zJ (zQf w x zeV) w x RX9 cX9_readLine 5 3 (lp_X9_readLine_83 o0 k130 n l1 l3 s) 83 [some (.ref (zb w + o0)), some (.long l1), none, some (.int l3), none] [] s := by
  intro n
  induction n with
  | zero => intro l1 l3 s; exact zj_none
  | succ n ih => intro l1 l3 s; exact jb_X9_readLine_83 hr h_o0 (fun l1 l3 s => ih l1 l3 s) h_k130
def m_X9_readLine_183 (o0 : Nat) (l1 : Int64) (l4 : Int32) (s : zSt) : Option (zSt) :=
  (if 0 < zI s o0 2 then
  some s
  else
  zcv (m_X9_token o0 s) (fun s23 => (if zI s23 o0 64 < 0 ∨ zN (zT o0 50) ≤ Int32.toNatClampNeg (zI s23 o0 64) then none else zlt (zsL s23 (zT o0 50) (Int32.toNatClampNeg (zI s23 o0 64)) l1) (fun s24 => (if zI s24 o0 64 < 0 ∨ zN (zT o0 54) ≤ Int32.toNatClampNeg (zI s24 o0 64) then none else zlt (zsI s24 (zT o0 54) (Int32.toNatClampNeg (zI s24 o0 64)) l4) (fun s25 => zlt (zsI s25 o0 64 ((zI s25 o0 64) + 1)) (fun s26 => (if zI s26 o0 64 < 0 ∨ zN (zT o0 53) ≤ Int32.toNatClampNeg (zI s26 o0 64) then none else zlt (zsI s26 (zT o0 53) (Int32.toNatClampNeg (zI s26 o0 64)) (zI s26 o0 62)) (fun s27 => some s27)))))))))
set_option maxRecDepth 100000 in
theorem j_X9_readLine_183 {o0 : Nat} {l1 : Int64} {l4 : Int32} {s : zSt} {w : zWC} {x : zCX} (hr : zrt x = none)  (h_o0 : zC o0 = 9) : zJ (zQf w x zeV) w x RX9 cX9_readLine 5 3 (m_X9_readLine_183 o0 l1 l4 s) 183 [some (.ref (zb w + o0)), some (.long l1), none, none, some (.int l4)] [] s := by
  unfold m_X9_readLine_183
  refine zj_aload_n dX9_readLine_183 rfl ?_
  refine zj_getI dX9_readLine_184 fl_X9_192 rfl h_o0 ?_
  refine zj_if_le (tgt := 191) dX9_readLine_187 (by decide) ?_ ?_
  · exact zj_vret hr dX9_readLine_190
  · refine zj_aload_n dX9_readLine_191 rfl ?_
    refine zj_cVV0 ml_X9_195 (fun a h => c_X9_token h_o0 h) h_o0 rfl (Nat.le_of_ble_eq_true rfl) (Nat.le_of_ble_eq_true rfl) dX9_readLine_192 (fun s23 => ?_)
    refine zj_aload_n dX9_readLine_195 rfl ?_
    refine zj_getT dX9_readLine_196 fl_X9_100 rfl h_o0 ?_
    refine zj_aload_n dX9_readLine_199 rfl ?_
    refine zj_getI dX9_readLine_200 fl_X9_436 rfl h_o0 ?_
    refine zj_lload_n dX9_readLine_203 rfl ?_
    refine zj_last dX9_readLine_204 (zt_9_50 _ h_o0) (fun s24 => ?_)
    refine zj_aload_n dX9_readLine_205 rfl ?_
    refine zj_getT dX9_readLine_206 fl_X9_112 rfl h_o0 ?_
    refine zj_aload_n dX9_readLine_209 rfl ?_
    refine zj_getI dX9_readLine_210 fl_X9_436 rfl h_o0 ?_
    refine zj_iload dX9_readLine_213 rfl ?_
    refine zj_iast dX9_readLine_215 (zt_9_54 _ h_o0) (fun s25 => ?_)
    refine zj_aload_n dX9_readLine_216 rfl ?_
    refine zj_dup dX9_readLine_217 rfl ?_
    refine zj_getI dX9_readLine_218 fl_X9_436 rfl h_o0 ?_
    refine zj_iconst dX9_readLine_221 zic_1 ?_
    refine zj_iadd dX9_readLine_222 ?_
    refine zj_putI dX9_readLine_223 fl_X9_436 rfl h_o0 pd_9_64 rfl rfl (fun s26 => ?_)
    refine zj_aload_n dX9_readLine_226 rfl ?_
    refine zj_getT dX9_readLine_227 fl_X9_109 rfl h_o0 ?_
    refine zj_aload_n dX9_readLine_230 rfl ?_
    refine zj_getI dX9_readLine_231 fl_X9_436 rfl h_o0 ?_
    refine zj_aload_n dX9_readLine_234 rfl ?_
    refine zj_getI dX9_readLine_235 fl_X9_418 rfl h_o0 ?_
    refine zj_iast dX9_readLine_238 (zt_9_53 _ h_o0) (fun s27 => ?_)
    exact zj_vret hr dX9_readLine_239
def m_X9_readLine_130 (o0 : Nat) (l1 : Int64) (s : zSt) : Option (zSt) :=
  (if 0 < zI s o0 2 then
  some s
  else
  zcv (m_X9_settle o0 0 s) (fun s19 => zcv (m_X9_want o0 123636697429107 s19) (fun s20 => zcl (m_X9_signed o0 (-9999) 9999 s20) (fun r22 s21 => (if zI s21 o0 2 = 0 then
    (if zI s21 o0 6 = 59 then
      m_X9_readLine_183 o0 l1 r22 s21
      else
      zcv (m_X9_wrong o0 2 s21) (fun s28 => m_X9_readLine_183 o0 l1 r22 s28))
    else
    m_X9_readLine_183 o0 l1 r22 s21)))))
set_option maxRecDepth 100000 in
theorem j_X9_readLine_130 {o0 : Nat} {l1 : Int64} {s : zSt} {w : zWC} {x : zCX} (hr : zrt x = none)  (h_o0 : zC o0 = 9) : zJ (zQf w x zeV) w x RX9 cX9_readLine 5 3 (m_X9_readLine_130 o0 l1 s) 130 [some (.ref (zb w + o0)), some (.long l1), none, none, none] [] s := by
  unfold m_X9_readLine_130
  refine zj_aload_n dX9_readLine_130 rfl ?_
  refine zj_getI dX9_readLine_131 fl_X9_192 rfl h_o0 ?_
  refine zj_if_le (tgt := 138) dX9_readLine_134 (by decide) ?_ ?_
  · exact zj_vret hr dX9_readLine_137
  · refine zj_aload_n dX9_readLine_138 rfl ?_
    refine zj_iconst dX9_readLine_139 zic_0 ?_
    refine zj_cVV1 ml_X9_448 (fun a h => c_X9_settle h_o0 h) h_o0 rfl (Nat.le_of_ble_eq_true rfl) (Nat.le_of_ble_eq_true rfl) dX9_readLine_140 (fun s19 => ?_)
    refine zj_aload_n dX9_readLine_143 rfl ?_
    refine zj_ldc2 dX9_readLine_144 kcL_X9_236 ?_
    refine zj_cVV1 ml_X9_262 (fun a h => c_X9_want h_o0 h) h_o0 rfl (Nat.le_of_ble_eq_true rfl) (Nat.le_of_ble_eq_true rfl) dX9_readLine_147 (fun s20 => ?_)
    refine zj_aload_n dX9_readLine_150 rfl ?_
    refine zj_sipush dX9_readLine_151 zsi_m9999 ?_
    refine zj_sipush dX9_readLine_154 zsi_9999 ?_
    refine zj_cVI2 ml_X9_255 (fun a h => c_X9_signed h_o0 h) h_o0 rfl (Nat.le_of_ble_eq_true rfl) (Nat.le_of_ble_eq_true rfl) dX9_readLine_157 (fun r22 s21 => ?_)
    refine zj_istore (lv' := [some (.ref (zb w + o0)), some (.long l1), none, none, some (.int r22)]) dX9_readLine_160 (by decide) rfl rfl ?_
    refine zj_aload_n dX9_readLine_162 rfl ?_
    refine zj_getI dX9_readLine_163 fl_X9_192 rfl h_o0 ?_
    refine zj_if_ne (tgt := 183) dX9_readLine_166 (by decide) ?_ ?_
    · refine zj_aload_n dX9_readLine_169 rfl ?_
      refine zj_getI dX9_readLine_170 fl_X9_179 rfl h_o0 ?_
      refine zj_bipush dX9_readLine_173 zbi_59 ?_
      refine zj_icmp_eq (tgt := 183) dX9_readLine_175 (by decide) ?_ ?_
      · exact j_X9_readLine_183 hr h_o0
      · refine zj_aload_n dX9_readLine_178 rfl ?_
        refine zj_iconst dX9_readLine_179 zic_2 ?_
        refine zj_cVV1 ml_X9_242 (fun a h => c_X9_wrong h_o0 h) h_o0 rfl (Nat.le_of_ble_eq_true rfl) (Nat.le_of_ble_eq_true rfl) dX9_readLine_180 (fun s28 => ?_)
        exact j_X9_readLine_183 hr h_o0
    · exact j_X9_readLine_183 hr h_o0
def m_X9_readLine_47 (o0 : Nat) (t0 : Nat) (t1 : Int32) (s : zSt) : Option (zSt) :=
  zcl (m_X9_named t0 t1 s) (fun r5 s4 => zcv (m_X9_want o0 26995 s4) (fun s6 => zlt (zsI s6 o0 67 0) (fun s7 => zlt (zsI s7 o0 68 0) (fun s8 => (if zI s8 o0 64 < 0 ∨ zN (zT o0 53) ≤ Int32.toNatClampNeg (zI s8 o0 64) then none else zlt (zsI s8 (zT o0 53) (Int32.toNatClampNeg (zI s8 o0 64)) (zI s8 o0 62)) (fun s9 => lp_X9_readLine_83 o0 (fun l1_18 s_18 => m_X9_readLine_130 o0 l1_18 s_18) zFuel r5 1 s9))))))
set_option maxRecDepth 100000 in
theorem j_X9_readLine_47 {o0 : Nat} {t0 : Nat} {t1 : Int32} {s : zSt} {w : zWC} {x : zCX} (hr : zrt x = none)  (h_o0 : zC o0 = 9) (ht0 : zC t0 = 9) : zJ (zQf w x zeV) w x RX9 cX9_readLine 5 3 (m_X9_readLine_47 o0 t0 t1 s) 47 [some (.ref (zb w + o0)), none, none, none, none] [.int t1, .ref (zb w + t0)] s := by
  unfold m_X9_readLine_47
  refine zj_cVL1 ml_X9_270 (fun a h => c_X9_named ht0 h) ht0 rfl (Nat.le_of_ble_eq_true rfl) (Nat.le_of_ble_eq_true rfl) dX9_readLine_47 (fun r5 s4 => ?_)
  refine zj_lstore_n (lv' := [some (.ref (zb w + o0)), some (.long r5), none, none, none]) dX9_readLine_50 rfl (by decide) rfl rfl ?_
  refine zj_aload_n dX9_readLine_51 rfl ?_
  refine zj_ldc2 dX9_readLine_52 kcL_X9_234 ?_
  refine zj_cVV1 ml_X9_262 (fun a h => c_X9_want h_o0 h) h_o0 rfl (Nat.le_of_ble_eq_true rfl) (Nat.le_of_ble_eq_true rfl) dX9_readLine_55 (fun s6 => ?_)
  refine zj_aload_n dX9_readLine_58 rfl ?_
  refine zj_iconst dX9_readLine_59 zic_0 ?_
  refine zj_putI dX9_readLine_60 fl_X9_421 rfl h_o0 pd_9_67 rfl rfl (fun s7 => ?_)
  refine zj_aload_n dX9_readLine_63 rfl ?_
  refine zj_iconst dX9_readLine_64 zic_0 ?_
  refine zj_putI dX9_readLine_65 fl_X9_433 rfl h_o0 pd_9_68 rfl rfl (fun s8 => ?_)
  refine zj_aload_n dX9_readLine_68 rfl ?_
  refine zj_getT dX9_readLine_69 fl_X9_109 rfl h_o0 ?_
  refine zj_aload_n dX9_readLine_72 rfl ?_
  refine zj_getI dX9_readLine_73 fl_X9_436 rfl h_o0 ?_
  refine zj_aload_n dX9_readLine_76 rfl ?_
  refine zj_getI dX9_readLine_77 fl_X9_418 rfl h_o0 ?_
  refine zj_iast dX9_readLine_80 (zt_9_53 _ h_o0) (fun s9 => ?_)
  refine zj_iconst dX9_readLine_81 zic_1 ?_
  refine zj_istore_n (lv' := [some (.ref (zb w + o0)), some (.long r5), none, some (.int 1), none]) dX9_readLine_82 rfl (by decide) rfl rfl ?_
  refine jl_X9_readLine_83 hr h_o0 (fun l1_18 s_18 => ?_) zFuel _ _ _
  exact j_X9_readLine_130 hr h_o0
def m_X9_readLine_46 (o0 : Nat) (t0 : Nat) (s : zSt) : Option (zSt) :=
  m_X9_readLine_47 o0 t0 0 s
set_option maxRecDepth 100000 in
theorem j_X9_readLine_46 {o0 : Nat} {t0 : Nat} {s : zSt} {w : zWC} {x : zCX} (hr : zrt x = none)  (h_o0 : zC o0 = 9) (ht0 : zC t0 = 9) : zJ (zQf w x zeV) w x RX9 cX9_readLine 5 3 (m_X9_readLine_46 o0 t0 s) 46 [some (.ref (zb w + o0)), none, none, none, none] [.ref (zb w + t0)] s := by
  unfold m_X9_readLine_46
  refine zj_iconst dX9_readLine_46 zic_0 ?_
  exact j_X9_readLine_47 hr h_o0 ht0
def m_X9_readLine_14 (o0 : Nat) (s : zSt) : Option (zSt) :=
  (if 0 < zI s o0 2 then
  some s
  else
  (if zI s o0 6 = 1 then
    zcl (m_X9_lineOf o0 (zL s o0 9) s) (fun r3 s2 => (if r3 < 0 then
      m_X9_readLine_46 o0 o0 s2
      else
      m_X9_readLine_47 o0 o0 1 s2))
    else
    m_X9_readLine_46 o0 o0 s))
set_option maxRecDepth 100000 in
theorem j_X9_readLine_14 {o0 : Nat} {s : zSt} {w : zWC} {x : zCX} (hr : zrt x = none)  (h_o0 : zC o0 = 9) : zJ (zQf w x zeV) w x RX9 cX9_readLine 5 3 (m_X9_readLine_14 o0 s) 14 [some (.ref (zb w + o0)), none, none, none, none] [] s := by
  unfold m_X9_readLine_14
  refine zj_aload_n dX9_readLine_14 rfl ?_
  refine zj_getI dX9_readLine_15 fl_X9_192 rfl h_o0 ?_
  refine zj_if_le (tgt := 22) dX9_readLine_18 (by decide) ?_ ?_
  · exact zj_vret hr dX9_readLine_21
  · refine zj_aload_n dX9_readLine_22 rfl ?_
    refine zj_aload_n dX9_readLine_23 rfl ?_
    refine zj_getI dX9_readLine_24 fl_X9_179 rfl h_o0 ?_
    refine zj_iconst dX9_readLine_27 zic_1 ?_
    refine zj_icmp_ne (tgt := 46) dX9_readLine_28 (by decide) ?_ ?_
    · refine zj_aload_n dX9_readLine_31 rfl ?_
      refine zj_aload_n dX9_readLine_32 rfl ?_
      refine zj_getL dX9_readLine_33 fl_X9_172 rfl h_o0 ?_
      refine zj_cVI1 ml_X9_442 (fun a h => c_X9_lineOf h_o0 h) h_o0 rfl (Nat.le_of_ble_eq_true rfl) (Nat.le_of_ble_eq_true rfl) dX9_readLine_36 (fun r3 s2 => ?_)
      refine zj_if_lt (tgt := 46) dX9_readLine_39 (by decide) ?_ ?_
      · exact j_X9_readLine_46 hr h_o0 h_o0
      · refine zj_iconst dX9_readLine_42 zic_1 ?_
        refine zj_goto (tgt := 47) dX9_readLine_43 (by decide) ?_
        exact j_X9_readLine_47 hr h_o0 h_o0
    · exact j_X9_readLine_46 hr h_o0 h_o0
def m_X9_readLine (o0 : Nat) (s : zSt) : Option (zSt) :=
  (if zI s o0 64 = 12 then
  zcv (m_X9_wrong o0 2 s) (fun s1 => m_X9_readLine_14 o0 s1)
  else
  m_X9_readLine_14 o0 s)
set_option maxRecDepth 100000 in
theorem c_X9_readLine {w : zWC} {o0 : Nat} {s : zSt} (h_o0 : zC o0 = 9) {a : zSt} (hm : m_X9_readLine o0 s = some a) : zCn w 3 yX9_readLine cX9_readLine 5 none [.ref (zb w + o0)] s (zeV a).1 (zeV a).2 :=
  zCn_of (own := RX9) (lv := [some (.ref (zb w + o0)), none, none, none, none]) (by decide +kernel) rfl (Nat.le_of_ble_eq_true rfl) rfl (fun x hr => by
    unfold m_X9_readLine
    refine zj_aload_n dX9_readLine_0 rfl ?_
    refine zj_getI dX9_readLine_1 fl_X9_436 rfl h_o0 ?_
    refine zj_bipush dX9_readLine_4 zbi_12 ?_
    refine zj_icmp_ne (tgt := 14) dX9_readLine_6 (by decide) ?_ ?_
    · refine zj_aload_n dX9_readLine_9 rfl ?_
      refine zj_iconst dX9_readLine_10 zic_2 ?_
      refine zj_cVV1 ml_X9_242 (fun a h => c_X9_wrong h_o0 h) h_o0 rfl (Nat.le_of_ble_eq_true rfl) (Nat.le_of_ble_eq_true rfl) dX9_readLine_11 (fun s1 => ?_)
      exact j_X9_readLine_14 hr h_o0
    · exact j_X9_readLine_14 hr h_o0) hm
def bd_X9_sum_20 (o0 : Nat) (rec20 : zSt → Option (Int32 × zSt)) (k41 : zSt → Option (Int32 × zSt)) (s : zSt) : Option (Int32 × zSt) :=
  (if zI s o0 2 = 0 then
  (if zI s o0 6 = 0 then
    k41  s
    else
    zcv (m_X9_readLine o0 s) (fun s5 => rec20  s5))
  else
  k41  s)
def lp_X9_sum_20 (o0 : Nat) (k41 : zSt → Option (Int32 × zSt)) : Nat → zSt → Option (Int32 × zSt)
  | 0, _ => none
  | n + 1, s => bd_X9_sum_20 o0 (fun s => lp_X9_sum_20 o0 k41 n s) k41 s
set_option maxRecDepth 100000 in
theorem jb_X9_sum_20 {o0 : Nat} {rec20 : zSt → Option (Int32 × zSt)} {k41 : zSt → Option (Int32 × zSt)} {s : zSt} {w : zWC} {x : zCX} (hr : zrt x = (some .int))  (h_o0 : zC o0 = 9) (h_rec20 : ∀  (s : zSt), zJ (zQf w x zeI) w x RX9 cX9_sum 2 4 (rec20  s) 20 [some (.ref (zb w + o0)), none] [] s) (h_k41 : ∀  (s : zSt), zJ (zQf w x zeI) w x RX9 cX9_sum 2 4 (k41  s) 41 [some (.ref (zb w + o0)), none] [] s) : zJ (zQf w x zeI) w x RX9 cX9_sum 2 4 (bd_X9_sum_20 o0 rec20 k41 s) 20 [some (.ref (zb w + o0)), none] [] s := by
  unfold bd_X9_sum_20
  refine zj_aload_n dX9_sum_20 rfl ?_
  refine zj_getI dX9_sum_21 fl_X9_192 rfl h_o0 ?_
  refine zj_if_ne (tgt := 41) dX9_sum_24 (by decide) ?_ ?_
  · refine zj_aload_n dX9_sum_27 rfl ?_
    refine zj_getI dX9_sum_28 fl_X9_179 rfl h_o0 ?_
    refine zj_if_eq (tgt := 41) dX9_sum_31 (by decide) ?_ ?_
    · exact h_k41 _
    · refine zj_aload_n dX9_sum_34 rfl ?_
      refine zj_cVV0 ml_X9_457 (fun a h => c_X9_readLine h_o0 h) h_o0 rfl (Nat.le_of_ble_eq_true rfl) (Nat.le_of_ble_eq_true rfl) dX9_sum_35 (fun s5 => ?_)
      refine zj_goto (tgt := 20) dX9_sum_38 (by decide) ?_
      exact h_rec20 _
  · exact h_k41 _
set_option maxRecDepth 100000 in
theorem jl_X9_sum_20 {o0 : Nat} {k41 : zSt → Option (Int32 × zSt)} {w : zWC} {x : zCX} (hr : zrt x = (some .int))  (h_o0 : zC o0 = 9) (h_k41 : ∀  (s : zSt), zJ (zQf w x zeI) w x RX9 cX9_sum 2 4 (k41  s) 41 [some (.ref (zb w + o0)), none] [] s) : ∀ (n : Nat)  (s : zSt), zJ (zQf w x zeI) w x RX9 cX9_sum 2 4 (lp_X9_sum_20 o0 k41 n s) 20 [some (.ref (zb w + o0)), none] [] s := by
  intro n
  induction n with
  | zero => intro s; exact zj_none
  | succ n ih => intro s; exact jb_X9_sum_20 hr h_o0 (fun s => ih s) h_k41
def bd_X9_sum_52 (o0 : Nat) (rec52 : Int32 → zSt → Option (Int32 × zSt)) (k90 : zSt → Option (Int32 × zSt)) (l1 : Int32) (s : zSt) : Option (Int32 × zSt) :=
  (if l1 < zI s o0 62 then
  (if l1 < 0 ∨ zN (zT o0 51) ≤ Int32.toNatClampNeg l1 then none else (if l1 < 0 ∨ zN (zT o0 55) ≤ Int32.toNatClampNeg l1 then none else zlt (zsI s (zT o0 55) (Int32.toNatClampNeg l1) (zI s (zT o0 51) (Int32.toNatClampNeg l1))) (fun s7 => (if l1 < 0 ∨ zN (zT o0 52) ≤ Int32.toNatClampNeg l1 then none else (if l1 < 0 ∨ zN (zT o0 56) ≤ Int32.toNatClampNeg l1 then none else zlt (zsI s7 (zT o0 56) (Int32.toNatClampNeg l1) (zI s7 (zT o0 52) (Int32.toNatClampNeg l1))) (fun s8 => rec52 (l1 + 1) s8))))))
  else
  k90  s)
def lp_X9_sum_52 (o0 : Nat) (k90 : zSt → Option (Int32 × zSt)) : Nat → Int32 → zSt → Option (Int32 × zSt)
  | 0, _, _ => none
  | n + 1, l1, s => bd_X9_sum_52 o0 (fun l1 s => lp_X9_sum_52 o0 k90 n l1 s) k90 l1 s
set_option maxRecDepth 100000 in
theorem jb_X9_sum_52 {o0 : Nat} {rec52 : Int32 → zSt → Option (Int32 × zSt)} {k90 : zSt → Option (Int32 × zSt)} {l1 : Int32} {s : zSt} {w : zWC} {x : zCX} (hr : zrt x = (some .int))  (h_o0 : zC o0 = 9) (h_rec52 : ∀ (l1 : Int32) (s : zSt), zJ (zQf w x zeI) w x RX9 cX9_sum 2 4 (rec52 l1 s) 52 [some (.ref (zb w + o0)), some (.int l1)] [] s) (h_k90 : ∀  (s : zSt), zJ (zQf w x zeI) w x RX9 cX9_sum 2 4 (k90  s) 90 [some (.ref (zb w + o0)), none] [] s) : zJ (zQf w x zeI) w x RX9 cX9_sum 2 4 (bd_X9_sum_52 o0 rec52 k90 l1 s) 52 [some (.ref (zb w + o0)), some (.int l1)] [] s := by
  unfold bd_X9_sum_52
  refine zj_iload_n dX9_sum_52 rfl ?_
  refine zj_aload_n dX9_sum_53 rfl ?_
  refine zj_getI dX9_sum_54 fl_X9_418 rfl h_o0 ?_
  refine zj_icmp_ge (tgt := 90) dX9_sum_57 (by decide) ?_ ?_
  · refine zj_aload_n dX9_sum_60 rfl ?_
    refine zj_getT dX9_sum_61 fl_X9_115 rfl h_o0 ?_
    refine zj_iload_n dX9_sum_64 rfl ?_
    refine zj_aload_n dX9_sum_65 rfl ?_
    refine zj_getT dX9_sum_66 fl_X9_103 rfl h_o0 ?_
    refine zj_iload_n dX9_sum_69 rfl ?_
    refine zj_iald dX9_sum_70 (zt_9_51 _ h_o0) ?_
    refine zj_iast dX9_sum_71 (zt_9_55 _ h_o0) (fun s7 => ?_)
    refine zj_aload_n dX9_sum_72 rfl ?_
    refine zj_getT dX9_sum_73 fl_X9_118 rfl h_o0 ?_
    refine zj_iload_n dX9_sum_76 rfl ?_
    refine zj_aload_n dX9_sum_77 rfl ?_
    refine zj_getT dX9_sum_78 fl_X9_106 rfl h_o0 ?_
    refine zj_iload_n dX9_sum_81 rfl ?_
    refine zj_iald dX9_sum_82 (zt_9_52 _ h_o0) ?_
    refine zj_iast dX9_sum_83 (zt_9_56 _ h_o0) (fun s8 => ?_)
    refine zj_iinc (v2 := l1 + 1) (lv' := [some (.ref (zb w + o0)), some (.int (l1 + 1))]) dX9_sum_84 rfl (by rw [zic_1]) (by decide) rfl rfl ?_
    refine zj_goto (tgt := 52) dX9_sum_87 (by decide) ?_
    exact h_rec52 _ _
  · refine zj_weak [true, false] rfl ?_
    exact h_k90 _
set_option maxRecDepth 100000 in
theorem jl_X9_sum_52 {o0 : Nat} {k90 : zSt → Option (Int32 × zSt)} {w : zWC} {x : zCX} (hr : zrt x = (some .int))  (h_o0 : zC o0 = 9) (h_k90 : ∀  (s : zSt), zJ (zQf w x zeI) w x RX9 cX9_sum 2 4 (k90  s) 90 [some (.ref (zb w + o0)), none] [] s) : ∀ (n : Nat) (l1 : Int32) (s : zSt), zJ (zQf w x zeI) w x RX9 cX9_sum 2 4 (lp_X9_sum_52 o0 k90 n l1 s) 52 [some (.ref (zb w + o0)), some (.int l1)] [] s := by
  intro n
  induction n with
  | zero => intro l1 s; exact zj_none
  | succ n ih => intro l1 s; exact jb_X9_sum_52 hr h_o0 (fun l1 s => ih l1 s) h_k90
def bd_X9_sum_92 (o0 : Nat) (rec92 : Int32 → zSt → Option (Int32 × zSt)) (k146 : zSt → Option (Int32 × zSt)) (l1 : Int32) (s : zSt) : Option (Int32 × zSt) :=
  (if l1 < zI s o0 64 then
  (if l1 < 0 ∨ zN (zT o0 54) ≤ Int32.toNatClampNeg l1 then none else (if l1 < 0 ∨ zN (zT o0 58) ≤ Int32.toNatClampNeg l1 then none else zlt (zsI s (zT o0 58) (Int32.toNatClampNeg l1) (zI s (zT o0 54) (Int32.toNatClampNeg l1))) (fun s10 => (if l1 < 0 ∨ zN (zT o0 53) ≤ Int32.toNatClampNeg l1 then none else (if l1 < 0 ∨ zN (zT o0 57) ≤ Int32.toNatClampNeg l1 then none else zlt (zsI s10 (zT o0 57) (Int32.toNatClampNeg l1) (zI s10 (zT o0 53) (Int32.toNatClampNeg l1))) (fun s11 => (if l1 + 1 < 0 ∨ zN (zT o0 53) ≤ Int32.toNatClampNeg (l1 + 1) then none else (if l1 + 1 < 0 ∨ zN (zT o0 57) ≤ Int32.toNatClampNeg (l1 + 1) then none else zlt (zsI s11 (zT o0 57) (Int32.toNatClampNeg (l1 + 1)) (zI s11 (zT o0 53) (Int32.toNatClampNeg (l1 + 1)))) (fun s12 => rec92 (l1 + 1) s12)))))))))
  else
  k146  s)
def lp_X9_sum_92 (o0 : Nat) (k146 : zSt → Option (Int32 × zSt)) : Nat → Int32 → zSt → Option (Int32 × zSt)
  | 0, _, _ => none
  | n + 1, l1, s => bd_X9_sum_92 o0 (fun l1 s => lp_X9_sum_92 o0 k146 n l1 s) k146 l1 s
set_option maxRecDepth 100000 in
theorem jb_X9_sum_92 {o0 : Nat} {rec92 : Int32 → zSt → Option (Int32 × zSt)} {k146 : zSt → Option (Int32 × zSt)} {l1 : Int32} {s : zSt} {w : zWC} {x : zCX} (hr : zrt x = (some .int))  (h_o0 : zC o0 = 9) (h_rec92 : ∀ (l1 : Int32) (s : zSt), zJ (zQf w x zeI) w x RX9 cX9_sum 2 4 (rec92 l1 s) 92 [some (.ref (zb w + o0)), some (.int l1)] [] s) (h_k146 : ∀  (s : zSt), zJ (zQf w x zeI) w x RX9 cX9_sum 2 4 (k146  s) 146 [some (.ref (zb w + o0)), none] [] s) : zJ (zQf w x zeI) w x RX9 cX9_sum 2 4 (bd_X9_sum_92 o0 rec92 k146 l1 s) 92 [some (.ref (zb w + o0)), some (.int l1)] [] s := by
  unfold bd_X9_sum_92
  refine zj_iload_n dX9_sum_92 rfl ?_
  refine zj_aload_n dX9_sum_93 rfl ?_
  refine zj_getI dX9_sum_94 fl_X9_436 rfl h_o0 ?_
  refine zj_icmp_ge (tgt := 146) dX9_sum_97 (by decide) ?_ ?_
  · refine zj_aload_n dX9_sum_100 rfl ?_
    refine zj_getT dX9_sum_101 fl_X9_124 rfl h_o0 ?_
    refine zj_iload_n dX9_sum_104 rfl ?_
    refine zj_aload_n dX9_sum_105 rfl ?_
    refine zj_getT dX9_sum_106 fl_X9_112 rfl h_o0 ?_
    refine zj_iload_n dX9_sum_109 rfl ?_
    refine zj_iald dX9_sum_110 (zt_9_54 _ h_o0) ?_
    refine zj_iast dX9_sum_111 (zt_9_58 _ h_o0) (fun s10 => ?_)
    refine zj_aload_n dX9_sum_112 rfl ?_
    refine zj_getT dX9_sum_113 fl_X9_121 rfl h_o0 ?_
    refine zj_iload_n dX9_sum_116 rfl ?_
    refine zj_aload_n dX9_sum_117 rfl ?_
    refine zj_getT dX9_sum_118 fl_X9_109 rfl h_o0 ?_
    refine zj_iload_n dX9_sum_121 rfl ?_
    refine zj_iald dX9_sum_122 (zt_9_53 _ h_o0) ?_
    refine zj_iast dX9_sum_123 (zt_9_57 _ h_o0) (fun s11 => ?_)
    refine zj_aload_n dX9_sum_124 rfl ?_
    refine zj_getT dX9_sum_125 fl_X9_121 rfl h_o0 ?_
    refine zj_iload_n dX9_sum_128 rfl ?_
    refine zj_iconst dX9_sum_129 zic_1 ?_
    refine zj_iadd dX9_sum_130 ?_
    refine zj_aload_n dX9_sum_131 rfl ?_
    refine zj_getT dX9_sum_132 fl_X9_109 rfl h_o0 ?_
    refine zj_iload_n dX9_sum_135 rfl ?_
    refine zj_iconst dX9_sum_136 zic_1 ?_
    refine zj_iadd dX9_sum_137 ?_
    refine zj_iald dX9_sum_138 (zt_9_53 _ h_o0) ?_
    refine zj_iast dX9_sum_139 (zt_9_57 _ h_o0) (fun s12 => ?_)
    refine zj_iinc (v2 := l1 + 1) (lv' := [some (.ref (zb w + o0)), some (.int (l1 + 1))]) dX9_sum_140 rfl (by rw [zic_1]) (by decide) rfl rfl ?_
    refine zj_goto (tgt := 92) dX9_sum_143 (by decide) ?_
    exact h_rec92 _ _
  · refine zj_weak [true, false] rfl ?_
    exact h_k146 _
set_option maxRecDepth 100000 in
theorem jl_X9_sum_92 {o0 : Nat} {k146 : zSt → Option (Int32 × zSt)} {w : zWC} {x : zCX} (hr : zrt x = (some .int))  (h_o0 : zC o0 = 9) (h_k146 : ∀  (s : zSt), zJ (zQf w x zeI) w x RX9 cX9_sum 2 4 (k146  s) 146 [some (.ref (zb w + o0)), none] [] s) : ∀ (n : Nat) (l1 : Int32) (s : zSt), zJ (zQf w x zeI) w x RX9 cX9_sum 2 4 (lp_X9_sum_92 o0 k146 n l1 s) 92 [some (.ref (zb w + o0)), some (.int l1)] [] s := by
  intro n
  induction n with
  | zero => intro l1 s; exact zj_none
  | succ n ih => intro l1 s; exact jb_X9_sum_92 hr h_o0 (fun l1 s => ih l1 s) h_k146
def m_X9_sum_41 (o0 : Nat) (s : zSt) : Option (Int32 × zSt) :=
  (if 0 < zI s o0 2 then
  some ((-1), s)
  else
  lp_X9_sum_52 o0 (fun s_9 => lp_X9_sum_92 o0 (fun s_13 => zlt (zsI s_13 o0 65 (zI s_13 o0 63)) (fun s14 => zlt (zsI s14 o0 66 (zI s14 o0 64)) (fun s15 => some (zI s15 o0 66, s15)))) zFuel 0 s_9) zFuel 0 s)
set_option maxRecDepth 100000 in
theorem j_X9_sum_41 {o0 : Nat} {s : zSt} {w : zWC} {x : zCX} (hr : zrt x = (some .int))  (h_o0 : zC o0 = 9) : zJ (zQf w x zeI) w x RX9 cX9_sum 2 4 (m_X9_sum_41 o0 s) 41 [some (.ref (zb w + o0)), none] [] s := by
  unfold m_X9_sum_41
  refine zj_aload_n dX9_sum_41 rfl ?_
  refine zj_getI dX9_sum_42 fl_X9_192 rfl h_o0 ?_
  refine zj_if_le (tgt := 50) dX9_sum_45 (by decide) ?_ ?_
  · refine zj_iconst dX9_sum_48 zic_m1 ?_
    exact zj_iret hr dX9_sum_49
  · refine zj_iconst dX9_sum_50 zic_0 ?_
    refine zj_istore_n (lv' := [some (.ref (zb w + o0)), some (.int 0)]) dX9_sum_51 rfl (by decide) rfl rfl ?_
    refine jl_X9_sum_52 hr h_o0 (fun s_9 => ?_) zFuel _ _
    refine zj_iconst dX9_sum_90 zic_0 ?_
    refine zj_istore_n (lv' := [some (.ref (zb w + o0)), some (.int 0)]) dX9_sum_91 rfl (by decide) rfl rfl ?_
    refine jl_X9_sum_92 hr h_o0 (fun s_13 => ?_) zFuel _ _
    refine zj_aload_n dX9_sum_146 rfl ?_
    refine zj_aload_n dX9_sum_147 rfl ?_
    refine zj_getI dX9_sum_148 fl_X9_439 rfl h_o0 ?_
    refine zj_putI dX9_sum_151 fl_X9_460 rfl h_o0 pd_9_65 rfl rfl (fun s14 => ?_)
    refine zj_aload_n dX9_sum_154 rfl ?_
    refine zj_aload_n dX9_sum_155 rfl ?_
    refine zj_getI dX9_sum_156 fl_X9_436 rfl h_o0 ?_
    refine zj_putI dX9_sum_159 fl_X9_463 rfl h_o0 pd_9_66 rfl rfl (fun s15 => ?_)
    refine zj_aload_n dX9_sum_162 rfl ?_
    refine zj_getI dX9_sum_163 fl_X9_463 rfl h_o0 ?_
    exact zj_iret hr dX9_sum_166
def m_X9_sum (o0 : Nat) (s : zSt) : Option (Int32 × zSt) :=
  zlt (zsI s o0 62 0) (fun s1 => zlt (zsI s1 o0 63 0) (fun s2 => zlt (zsI s2 o0 64 0) (fun s3 => zcv (m_X9_start o0 1 s3) (fun s4 => lp_X9_sum_20 o0 (fun s_6 => m_X9_sum_41 o0 s_6) zFuel s4))))
set_option maxRecDepth 100000 in
theorem c_X9_sum {w : zWC} {o0 : Nat} {s : zSt} (h_o0 : zC o0 = 9) {a : Int32 × zSt} (hm : m_X9_sum o0 s = some a) : zCn w 4 yX9_sum cX9_sum 2 (some .int) [.ref (zb w + o0)] s (zeI a).1 (zeI a).2 :=
  zCn_of (own := RX9) (lv := [some (.ref (zb w + o0)), none]) (by decide +kernel) rfl (Nat.le_of_ble_eq_true rfl) rfl (fun x hr => by
    unfold m_X9_sum
    refine zj_aload_n dX9_sum_0 rfl ?_
    refine zj_iconst dX9_sum_1 zic_0 ?_
    refine zj_putI dX9_sum_2 fl_X9_418 rfl h_o0 pd_9_62 rfl rfl (fun s1 => ?_)
    refine zj_aload_n dX9_sum_5 rfl ?_
    refine zj_iconst dX9_sum_6 zic_0 ?_
    refine zj_putI dX9_sum_7 fl_X9_439 rfl h_o0 pd_9_63 rfl rfl (fun s2 => ?_)
    refine zj_aload_n dX9_sum_10 rfl ?_
    refine zj_iconst dX9_sum_11 zic_0 ?_
    refine zj_putI dX9_sum_12 fl_X9_436 rfl h_o0 pd_9_64 rfl rfl (fun s3 => ?_)
    refine zj_aload_n dX9_sum_15 rfl ?_
    refine zj_iconst dX9_sum_16 zic_1 ?_
    refine zj_cVV1 ml_X9_280 (fun a h => c_X9_start h_o0 h) h_o0 rfl (Nat.le_of_ble_eq_true rfl) (Nat.le_of_ble_eq_true rfl) dX9_sum_17 (fun s4 => ?_)
    refine jl_X9_sum_20 hr h_o0 (fun s_6 => ?_) zFuel _
    exact j_X9_sum_41 hr h_o0) hm
def m_X9_worked (p0 : Int32) (p1 : Int32) (p2 : Int32) (s : zSt) : Option (Int32 × zSt) :=
  (if p0 = 20 then
  some (p1 + p2, s)
  else
  (if p0 = 21 then
    some (p1 - p2, s)
    else
    (if p0 = 22 then
      some (p1 * p2, s)
      else
      (if p2 = 0 then
        some (0, s)
        else
        (if p2 = 0 then none else some (p1 / p2, s))))))
set_option maxRecDepth 100000 in
theorem c_X9_worked {w : zWC} {p0 : Int32} {p1 : Int32} {p2 : Int32} {s : zSt}  {a : Int32 × zSt} (hm : m_X9_worked p0 p1 p2 s = some a) : zCn w 0 yX9_worked cX9_worked 3 (some .int) [.int p0, .int p1, .int p2] s (zeI a).1 (zeI a).2 :=
  zCn_of (own := RX9) (lv := [some (.int p0), some (.int p1), some (.int p2)]) (by decide +kernel) rfl (Nat.le_of_ble_eq_true rfl) rfl (fun x hr => by
    unfold m_X9_worked
    refine zj_iload_n dX9_worked_0 rfl ?_
    refine zj_bipush dX9_worked_1 zbi_20 ?_
    refine zj_icmp_ne (tgt := 12) dX9_worked_3 (by decide) ?_ ?_
    · refine zj_iload_n dX9_worked_6 rfl ?_
      refine zj_iload_n dX9_worked_7 rfl ?_
      refine zj_iadd dX9_worked_8 ?_
      refine zj_goto (tgt := 47) dX9_worked_9 (by decide) ?_
      exact zj_iret hr dX9_worked_47
    · refine zj_iload_n dX9_worked_12 rfl ?_
      refine zj_bipush dX9_worked_13 zbi_21 ?_
      refine zj_icmp_ne (tgt := 24) dX9_worked_15 (by decide) ?_ ?_
      · refine zj_iload_n dX9_worked_18 rfl ?_
        refine zj_iload_n dX9_worked_19 rfl ?_
        refine zj_isub dX9_worked_20 ?_
        refine zj_goto (tgt := 47) dX9_worked_21 (by decide) ?_
        exact zj_iret hr dX9_worked_47
      · refine zj_iload_n dX9_worked_24 rfl ?_
        refine zj_bipush dX9_worked_25 zbi_22 ?_
        refine zj_icmp_ne (tgt := 36) dX9_worked_27 (by decide) ?_ ?_
        · refine zj_iload_n dX9_worked_30 rfl ?_
          refine zj_iload_n dX9_worked_31 rfl ?_
          refine zj_imul dX9_worked_32 ?_
          refine zj_goto (tgt := 47) dX9_worked_33 (by decide) ?_
          exact zj_iret hr dX9_worked_47
        · refine zj_iload_n dX9_worked_36 rfl ?_
          refine zj_if_ne (tgt := 44) dX9_worked_37 (by decide) ?_ ?_
          · refine zj_iconst dX9_worked_40 zic_0 ?_
            refine zj_goto (tgt := 47) dX9_worked_41 (by decide) ?_
            exact zj_iret hr dX9_worked_47
          · refine zj_iload_n dX9_worked_44 rfl ?_
            refine zj_iload_n dX9_worked_45 rfl ?_
            refine zj_idiv dX9_worked_46 ?_
            exact zj_iret hr dX9_worked_47) hm
