def bd_X1_addRow_12 (o0 : Nat) (rec12 : Int32 → Int32 → zSt → Option (zSt)) (k51 : Int32 → zSt → Option (zSt)) (l1 : Int32) (l2 : Int32) (s : zSt) : Option (zSt) :=
  (if l2 < 5 then
  (if (l1 * 5) + l2 < 0 ∨ zN (zT o0 3) ≤ Int32.toNatClampNeg ((l1 * 5) + l2) then none else (if l1 < 0 ∨ zN (zT o0 4) ≤ Int32.toNatClampNeg l1 then none else (if l2 < 0 ∨ zN (zT o0 4) ≤ Int32.toNatClampNeg l2 then none else (if (l1 * 5) + l2 < 0 ∨ zN (zT o0 3) ≤ Int32.toNatClampNeg ((l1 * 5) + l2) then none else zlt (zsL s (zT o0 3) (Int32.toNatClampNeg ((l1 * 5) + l2)) ((zL s (zT o0 3) (Int32.toNatClampNeg ((l1 * 5) + l2))) + (((zI s (zT o0 4) (Int32.toNatClampNeg l1)).toInt64) * ((zI s (zT o0 4) (Int32.toNatClampNeg l2)).toInt64)))) (fun s1 => rec12 l1 (l2 + 1) s1)))))
  else
  k51 l1 s)
def lp_X1_addRow_12 (o0 : Nat) (k51 : Int32 → zSt → Option (zSt)) : Nat → Int32 → Int32 → zSt → Option (zSt)
  | 0, _, _, _ => none
  | n + 1, l1, l2, s => bd_X1_addRow_12 o0 (fun l1 l2 s => lp_X1_addRow_12 o0 k51 n l1 l2 s) k51 l1 l2 s
set_option maxRecDepth 100000 in
theorem jb_X1_addRow_12 {o0 : Nat} {rec12 : Int32 → Int32 → zSt → Option (zSt)} {k51 : Int32 → zSt → Option (zSt)} {l1 : Int32} {l2 : Int32} {s : zSt} {w : zWC} {x : zCX} (hr : zrt x = none)  (h_o0 : zC o0 = 1) (h_rec12 : ∀ (l1 : Int32) (l2 : Int32) (s : zSt), zJ (zQf w x zeV) w x RX1 cX1_addRow 3 0 (rec12 l1 l2 s) 12 [some (.ref (zb w + o0)), some (.int l1), some (.int l2)] [] s) (h_k51 : ∀ (l1 : Int32) (s : zSt), zJ (zQf w x zeV) w x RX1 cX1_addRow 3 0 (k51 l1 s) 51 [some (.ref (zb w + o0)), some (.int l1), none] [] s) : zJ (zQf w x zeV) w x RX1 cX1_addRow 3 0 (bd_X1_addRow_12 o0 rec12 k51 l1 l2 s) 12 [some (.ref (zb w + o0)), some (.int l1), some (.int l2)] [] s := by
  unfold bd_X1_addRow_12
  refine zj_iload_n dX1_addRow_12 rfl ?_
  refine zj_iconst dX1_addRow_13 zic_5 ?_
  refine zj_icmp_ge (tgt := 51) dX1_addRow_14 (by decide) ?_ ?_
  · refine zj_aload_n dX1_addRow_17 rfl ?_
    refine zj_getT dX1_addRow_18 fl_X1_23 rfl h_o0 ?_
    refine zj_iload_n dX1_addRow_21 rfl ?_
    refine zj_iconst dX1_addRow_22 zic_5 ?_
    refine zj_imul dX1_addRow_23 ?_
    refine zj_iload_n dX1_addRow_24 rfl ?_
    refine zj_iadd dX1_addRow_25 ?_
    refine zj_dup2 dX1_addRow_26 rfl rfl ?_
    refine zj_lald dX1_addRow_27 (zt_1_3 _ h_o0) ?_
    refine zj_aload_n dX1_addRow_28 rfl ?_
    refine zj_getT dX1_addRow_29 fl_X1_26 rfl h_o0 ?_
    refine zj_iload_n dX1_addRow_32 rfl ?_
    refine zj_iald dX1_addRow_33 (zt_1_4 _ h_o0) ?_
    refine zj_i2l dX1_addRow_34 ?_
    refine zj_aload_n dX1_addRow_35 rfl ?_
    refine zj_getT dX1_addRow_36 fl_X1_26 rfl h_o0 ?_
    refine zj_iload_n dX1_addRow_39 rfl ?_
    refine zj_iald dX1_addRow_40 (zt_1_4 _ h_o0) ?_
    refine zj_i2l dX1_addRow_41 ?_
    refine zj_lmul dX1_addRow_42 ?_
    refine zj_ladd dX1_addRow_43 ?_
    refine zj_last dX1_addRow_44 (zt_1_3 _ h_o0) (fun s1 => ?_)
    refine zj_iinc (v2 := l2 + 1) (lv' := [some (.ref (zb w + o0)), some (.int l1), some (.int (l2 + 1))]) dX1_addRow_45 rfl (by rw [zic_1]) (by decide) rfl rfl ?_
    refine zj_goto (tgt := 12) dX1_addRow_48 (by decide) ?_
    exact h_rec12 _ _ _
  · refine zj_weak [true, true, false] rfl ?_
    exact h_k51 _ _
set_option maxRecDepth 100000 in
theorem jl_X1_addRow_12 {o0 : Nat} {k51 : Int32 → zSt → Option (zSt)} {w : zWC} {x : zCX} (hr : zrt x = none)  (h_o0 : zC o0 = 1) (h_k51 : ∀ (l1 : Int32) (s : zSt), zJ (zQf w x zeV) w x RX1 cX1_addRow 3 0 (k51 l1 s) 51 [some (.ref (zb w + o0)), some (.int l1), none] [] s) : ∀ (n : Nat) (l1 : Int32) (l2 : Int32) (s : zSt), zJ (zQf w x zeV) w x RX1 cX1_addRow 3 0 (lp_X1_addRow_12 o0 k51 n l1 l2 s) 12 [some (.ref (zb w + o0)), some (.int l1), some (.int l2)] [] s := by
  intro n
  induction n with
  | zero => intro l1 l2 s; exact zj_none
  | succ n ih => intro l1 l2 s; exact jb_X1_addRow_12 hr h_o0 (fun l1 l2 s => ih l1 l2 s) h_k51
def bd_X1_addRow_2 (o0 : Nat) (rec2 : Int32 → zSt → Option (zSt)) (l1 : Int32) (s : zSt) : Option (zSt) :=
  (if l1 < zI s o0 2 then
  lp_X1_addRow_12 o0 (fun l1_2 s_2 => rec2 (l1_2 + 1) s_2) zFuel l1 0 s
  else
  some s)
def lp_X1_addRow_2 (o0 : Nat) : Nat → Int32 → zSt → Option (zSt)
  | 0, _, _ => none
  | n + 1, l1, s => bd_X1_addRow_2 o0 (fun l1 s => lp_X1_addRow_2 o0 n l1 s) l1 s
set_option maxRecDepth 100000 in
theorem jb_X1_addRow_2 {o0 : Nat} {rec2 : Int32 → zSt → Option (zSt)} {l1 : Int32} {s : zSt} {w : zWC} {x : zCX} (hr : zrt x = none)  (h_o0 : zC o0 = 1) (h_rec2 : ∀ (l1 : Int32) (s : zSt), zJ (zQf w x zeV) w x RX1 cX1_addRow 3 0 (rec2 l1 s) 2 [some (.ref (zb w + o0)), some (.int l1), none] [] s) : zJ (zQf w x zeV) w x RX1 cX1_addRow 3 0 (bd_X1_addRow_2 o0 rec2 l1 s) 2 [some (.ref (zb w + o0)), some (.int l1), none] [] s := by
  unfold bd_X1_addRow_2
  refine zj_iload_n dX1_addRow_2 rfl ?_
  refine zj_aload_n dX1_addRow_3 rfl ?_
  refine zj_getI dX1_addRow_4 fl_X1_19 rfl h_o0 ?_
  refine zj_icmp_ge (tgt := 57) dX1_addRow_7 (by decide) ?_ ?_
  · refine zj_iconst dX1_addRow_10 zic_0 ?_
    refine zj_istore_n (lv' := [some (.ref (zb w + o0)), some (.int l1), some (.int 0)]) dX1_addRow_11 rfl (by decide) rfl rfl ?_
    refine jl_X1_addRow_12 hr h_o0 (fun l1_2 s_2 => ?_) zFuel _ _ _
    refine zj_iinc (v2 := l1_2 + 1) (lv' := [some (.ref (zb w + o0)), some (.int (l1_2 + 1)), none]) dX1_addRow_51 rfl (by rw [zic_1]) (by decide) rfl rfl ?_
    refine zj_goto (tgt := 2) dX1_addRow_54 (by decide) ?_
    exact h_rec2 _ _
  · exact zj_vret hr dX1_addRow_57
set_option maxRecDepth 100000 in
theorem jl_X1_addRow_2 {o0 : Nat} {w : zWC} {x : zCX} (hr : zrt x = none)  (h_o0 : zC o0 = 1) : ∀ (n : Nat) (l1 : Int32) (s : zSt), zJ (zQf w x zeV) w x RX1 cX1_addRow 3 0 (lp_X1_addRow_2 o0 n l1 s) 2 [some (.ref (zb w + o0)), some (.int l1), none] [] s := by
  intro n
  induction n with
  | zero => intro l1 s; exact zj_none
  | succ n ih => intro l1 s; exact jb_X1_addRow_2 hr h_o0 (fun l1 s => ih l1 s)
def m_X1_addRow (o0 : Nat) (s : zSt) : Option (zSt) :=
  lp_X1_addRow_2 o0 zFuel 0 s
set_option maxRecDepth 100000 in
theorem c_X1_addRow {w : zWC} {o0 : Nat} {s : zSt} (h_o0 : zC o0 = 1) {a : zSt} (hm : m_X1_addRow o0 s = some a) : zCn w 0 yX1_addRow cX1_addRow 3 none [.ref (zb w + o0)] s (zeV a).1 (zeV a).2 :=
  zCn_of (own := RX1) (lv := [some (.ref (zb w + o0)), none, none]) (by decide +kernel) rfl (Nat.le_of_ble_eq_true rfl) rfl (fun x hr => by
    unfold m_X1_addRow
    refine zj_iconst dX1_addRow_0 zic_0 ?_
    refine zj_istore_n (lv' := [some (.ref (zb w + o0)), some (.int 0), none]) dX1_addRow_1 rfl (by decide) rfl rfl ?_
    exact jl_X1_addRow_2 hr h_o0 zFuel _ _) hm
def m_X4_counts (o0 : Nat) (p1 : Int32) (p2 : Int32) (s : zSt) : Option (Int32 × zSt) :=
  (if p1 < 0 ∨ zN (zT o0 5) ≤ Int32.toNatClampNeg p1 then none else (if p2 < zI s (zT o0 5) (Int32.toNatClampNeg p1) then
  some (0, s)
  else
  (if p1 < 0 ∨ zN (zT o0 6) ≤ Int32.toNatClampNeg p1 then none else (if zI s (zT o0 6) (Int32.toNatClampNeg p1) = (-1) then
    some (1, s)
    else
    (if p1 < 0 ∨ zN (zT o0 6) ≤ Int32.toNatClampNeg p1 then none else (if p2 < zI s (zT o0 6) (Int32.toNatClampNeg p1) then
      some (1, s)
      else
      some (0, s)))))))
set_option maxRecDepth 100000 in
theorem c_X4_counts {w : zWC} {o0 : Nat} {p1 : Int32} {p2 : Int32} {s : zSt} (h_o0 : zC o0 = 4) {a : Int32 × zSt} (hm : m_X4_counts o0 p1 p2 s = some a) : zCn w 0 yX4_counts cX4_counts 3 (some .boolean) [.ref (zb w + o0), .int p1, .int p2] s (zeI a).1 (zeI a).2 :=
  zCn_of (own := RX4) (lv := [some (.ref (zb w + o0)), some (.int p1), some (.int p2)]) (by decide +kernel) rfl (Nat.le_of_ble_eq_true rfl) rfl (fun x hr => by
    unfold m_X4_counts
    refine zj_aload_n dX4_counts_0 rfl ?_
    refine zj_getT dX4_counts_1 fl_X4_28 rfl h_o0 ?_
    refine zj_iload_n dX4_counts_4 rfl ?_
    refine zj_iald dX4_counts_5 (zt_4_5 _ h_o0) ?_
    refine zj_iload_n dX4_counts_6 rfl ?_
    refine zj_icmp_gt (tgt := 34) dX4_counts_7 (by decide) ?_ ?_
    · refine zj_iconst dX4_counts_34 zic_0 ?_
      exact zj_zret hr rfl dX4_counts_35
    · refine zj_aload_n dX4_counts_10 rfl ?_
      refine zj_getT dX4_counts_11 fl_X4_31 rfl h_o0 ?_
      refine zj_iload_n dX4_counts_14 rfl ?_
      refine zj_iald dX4_counts_15 (zt_4_6 _ h_o0) ?_
      refine zj_iconst dX4_counts_16 zic_m1 ?_
      refine zj_icmp_eq (tgt := 30) dX4_counts_17 (by decide) ?_ ?_
      · refine zj_iconst dX4_counts_30 zic_1 ?_
        refine zj_goto (tgt := 35) dX4_counts_31 (by decide) ?_
        exact zj_zret hr rfl dX4_counts_35
      · refine zj_aload_n dX4_counts_20 rfl ?_
        refine zj_getT dX4_counts_21 fl_X4_31 rfl h_o0 ?_
        refine zj_iload_n dX4_counts_24 rfl ?_
        refine zj_iald dX4_counts_25 (zt_4_6 _ h_o0) ?_
        refine zj_iload_n dX4_counts_26 rfl ?_
        refine zj_icmp_le (tgt := 34) dX4_counts_27 (by decide) ?_ ?_
        · refine zj_iconst dX4_counts_30 zic_1 ?_
          refine zj_goto (tgt := 35) dX4_counts_31 (by decide) ?_
          exact zj_zret hr rfl dX4_counts_35
        · refine zj_iconst dX4_counts_34 zic_0 ?_
          exact zj_zret hr rfl dX4_counts_35) hm
def m_X4_row (o0 : Nat) (p1 : Int32) (o2 : Nat) (s : zSt) : Option (zSt) :=
  (if (0 : Int32) < 0 ∨ zN o2 ≤ Int32.toNatClampNeg 0 then none else zlt (zsI s o2 (Int32.toNatClampNeg 0) 1) (fun s1 => (if p1 < 0 ∨ zN (zT o0 3) ≤ Int32.toNatClampNeg p1 then none else (if (1 : Int32) < 0 ∨ zN o2 ≤ Int32.toNatClampNeg 1 then none else zlt (zsI s1 o2 (Int32.toNatClampNeg 1) (zI s1 (zT o0 3) (Int32.toNatClampNeg p1))) (fun s2 => (if p1 < 0 ∨ zN (zT o0 2) ≤ Int32.toNatClampNeg p1 then none else (if (2 : Int32) < 0 ∨ zN o2 ≤ Int32.toNatClampNeg 2 then none else zlt (zsI s2 o2 (Int32.toNatClampNeg 2) (zI s2 (zT o0 2) (Int32.toNatClampNeg p1))) (fun s3 => (if p1 < 0 ∨ zN (zT o0 3) ≤ Int32.toNatClampNeg p1 then none else (if p1 < 0 ∨ zN (zT o0 3) ≤ Int32.toNatClampNeg p1 then none else (if (3 : Int32) < 0 ∨ zN o2 ≤ Int32.toNatClampNeg 3 then none else zlt (zsI s3 o2 (Int32.toNatClampNeg 3) ((zI s3 (zT o0 3) (Int32.toNatClampNeg p1)) * (zI s3 (zT o0 3) (Int32.toNatClampNeg p1)))) (fun s4 => (if p1 < 0 ∨ zN (zT o0 4) ≤ Int32.toNatClampNeg p1 then none else (if (4 : Int32) < 0 ∨ zN o2 ≤ Int32.toNatClampNeg 4 then none else zlt (zsI s4 o2 (Int32.toNatClampNeg 4) (zI s4 (zT o0 4) (Int32.toNatClampNeg p1))) (fun s5 => some s5)))))))))))))))
set_option maxRecDepth 100000 in
theorem c_X4_row {w : zWC} {o0 : Nat} {p1 : Int32} {o2 : Nat} {s : zSt} (h_o0 : zC o0 = 4) (h_o2 : zC o2 = 11) {a : zSt} (hm : m_X4_row o0 p1 o2 s = some a) : zCn w 0 yX4_row cX4_row 3 none [.ref (zb w + o0), .int p1, .ref (zb w + o2)] s (zeV a).1 (zeV a).2 :=
  zCn_of (own := RX4) (lv := [some (.ref (zb w + o0)), some (.int p1), some (.ref (zb w + o2))]) (by decide +kernel) rfl (Nat.le_of_ble_eq_true rfl) rfl (fun x hr => by
    unfold m_X4_row
    refine zj_aload_n dX4_row_0 rfl ?_
    refine zj_iconst dX4_row_1 zic_0 ?_
    refine zj_iconst dX4_row_2 zic_1 ?_
    refine zj_iast dX4_row_3 h_o2 (fun s1 => ?_)
    refine zj_aload_n dX4_row_4 rfl ?_
    refine zj_iconst dX4_row_5 zic_1 ?_
    refine zj_aload_n dX4_row_6 rfl ?_
    refine zj_getT dX4_row_7 fl_X4_22 rfl h_o0 ?_
    refine zj_iload_n dX4_row_10 rfl ?_
    refine zj_iald dX4_row_11 (zt_4_3 _ h_o0) ?_
    refine zj_iast dX4_row_12 h_o2 (fun s2 => ?_)
    refine zj_aload_n dX4_row_13 rfl ?_
    refine zj_iconst dX4_row_14 zic_2 ?_
    refine zj_aload_n dX4_row_15 rfl ?_
    refine zj_getT dX4_row_16 fl_X4_18 rfl h_o0 ?_
    refine zj_iload_n dX4_row_19 rfl ?_
    refine zj_iald dX4_row_20 (zt_4_2 _ h_o0) ?_
    refine zj_iast dX4_row_21 h_o2 (fun s3 => ?_)
    refine zj_aload_n dX4_row_22 rfl ?_
    refine zj_iconst dX4_row_23 zic_3 ?_
    refine zj_aload_n dX4_row_24 rfl ?_
    refine zj_getT dX4_row_25 fl_X4_22 rfl h_o0 ?_
    refine zj_iload_n dX4_row_28 rfl ?_
    refine zj_iald dX4_row_29 (zt_4_3 _ h_o0) ?_
    refine zj_aload_n dX4_row_30 rfl ?_
    refine zj_getT dX4_row_31 fl_X4_22 rfl h_o0 ?_
    refine zj_iload_n dX4_row_34 rfl ?_
    refine zj_iald dX4_row_35 (zt_4_3 _ h_o0) ?_
    refine zj_imul dX4_row_36 ?_
    refine zj_iast dX4_row_37 h_o2 (fun s4 => ?_)
    refine zj_aload_n dX4_row_38 rfl ?_
    refine zj_iconst dX4_row_39 zic_4 ?_
    refine zj_aload_n dX4_row_40 rfl ?_
    refine zj_getT dX4_row_41 fl_X4_25 rfl h_o0 ?_
    refine zj_iload_n dX4_row_44 rfl ?_
    refine zj_iald dX4_row_45 (zt_4_4 _ h_o0) ?_
    refine zj_iast dX4_row_46 h_o2 (fun s5 => ?_)
    exact zj_vret hr dX4_row_47) hm
def bd_X1_gather_2 (o0 : Nat) (o1 : Nat) (p2 : Int32) (rec2 : Int32 → zSt → Option (zSt)) (k24 : zSt → Option (zSt)) (l3 : Int32) (s : zSt) : Option (zSt) :=
  (if l3 < Int32.ofNat (zN (zT o0 3)) then
  (if l3 < 0 ∨ zN (zT o0 3) ≤ Int32.toNatClampNeg l3 then none else zlt (zsL s (zT o0 3) (Int32.toNatClampNeg l3) 0) (fun s1 => rec2 (l3 + 1) s1))
  else
  k24  s)
def lp_X1_gather_2 (o0 : Nat) (o1 : Nat) (p2 : Int32) (k24 : zSt → Option (zSt)) : Nat → Int32 → zSt → Option (zSt)
  | 0, _, _ => none
  | n + 1, l3, s => bd_X1_gather_2 o0 o1 p2 (fun l3 s => lp_X1_gather_2 o0 o1 p2 k24 n l3 s) k24 l3 s
set_option maxRecDepth 100000 in
theorem jb_X1_gather_2 {o0 : Nat} {o1 : Nat} {p2 : Int32} {rec2 : Int32 → zSt → Option (zSt)} {k24 : zSt → Option (zSt)} {l3 : Int32} {s : zSt} {w : zWC} {x : zCX} (hr : zrt x = none)  (h_o0 : zC o0 = 1) (h_o1 : zC o1 = 4) (h_rec2 : ∀ (l3 : Int32) (s : zSt), zJ (zQf w x zeV) w x RX1 cX1_gather 4 1 (rec2 l3 s) 2 [some (.ref (zb w + o0)), some (.ref (zb w + o1)), some (.int p2), some (.int l3)] [] s) (h_k24 : ∀  (s : zSt), zJ (zQf w x zeV) w x RX1 cX1_gather 4 1 (k24  s) 24 [some (.ref (zb w + o0)), some (.ref (zb w + o1)), some (.int p2), none] [] s) : zJ (zQf w x zeV) w x RX1 cX1_gather 4 1 (bd_X1_gather_2 o0 o1 p2 rec2 k24 l3 s) 2 [some (.ref (zb w + o0)), some (.ref (zb w + o1)), some (.int p2), some (.int l3)] [] s := by
  unfold bd_X1_gather_2
  refine zj_iload_n dX1_gather_2 rfl ?_
  refine zj_aload_n dX1_gather_3 rfl ?_
  refine zj_getT dX1_gather_4 fl_X1_23 rfl h_o0 ?_
  refine zj_alen12 dX1_gather_7 (zt_1_3 _ h_o0) ?_
  refine zj_icmp_ge (tgt := 24) dX1_gather_8 (by decide) ?_ ?_
  · refine zj_aload_n dX1_gather_11 rfl ?_
    refine zj_getT dX1_gather_12 fl_X1_23 rfl h_o0 ?_
    refine zj_iload_n dX1_gather_15 rfl ?_
    refine zj_lconst (v := 0) dX1_gather_16 rfl ?_
    refine zj_last dX1_gather_17 (zt_1_3 _ h_o0) (fun s1 => ?_)
    refine zj_iinc (v2 := l3 + 1) (lv' := [some (.ref (zb w + o0)), some (.ref (zb w + o1)), some (.int p2), some (.int (l3 + 1))]) dX1_gather_18 rfl (by rw [zic_1]) (by decide) rfl rfl ?_
    refine zj_goto (tgt := 2) dX1_gather_21 (by decide) ?_
    exact h_rec2 _ _
  · refine zj_weak [true, true, true, false] rfl ?_
    exact h_k24 _
set_option maxRecDepth 100000 in
theorem jl_X1_gather_2 {o0 : Nat} {o1 : Nat} {p2 : Int32} {k24 : zSt → Option (zSt)} {w : zWC} {x : zCX} (hr : zrt x = none)  (h_o0 : zC o0 = 1) (h_o1 : zC o1 = 4) (h_k24 : ∀  (s : zSt), zJ (zQf w x zeV) w x RX1 cX1_gather 4 1 (k24  s) 24 [some (.ref (zb w + o0)), some (.ref (zb w + o1)), some (.int p2), none] [] s) : ∀ (n : Nat) (l3 : Int32) (s : zSt), zJ (zQf w x zeV) w x RX1 cX1_gather 4 1 (lp_X1_gather_2 o0 o1 p2 k24 n l3 s) 2 [some (.ref (zb w + o0)), some (.ref (zb w + o1)), some (.int p2), some (.int l3)] [] s := by
  intro n
  induction n with
  | zero => intro l3 s; exact zj_none
  | succ n ih => intro l3 s; exact jb_X1_gather_2 hr h_o0 h_o1 (fun l3 s => ih l3 s) h_k24
def m_X1_gather_56 (o0 : Nat) (o1 : Nat) (p2 : Int32) (rec26 : Int32 → zSt → Option (zSt)) (l3 : Int32) (s : zSt) : Option (zSt) :=
  rec26 (l3 + 1) s
set_option maxRecDepth 100000 in
theorem j_X1_gather_56 {o0 : Nat} {o1 : Nat} {p2 : Int32} {rec26 : Int32 → zSt → Option (zSt)} {l3 : Int32} {s : zSt} {w : zWC} {x : zCX} (hr : zrt x = none)  (h_o0 : zC o0 = 1) (h_o1 : zC o1 = 4) (h_rec26 : ∀ (l3 : Int32) (s : zSt), zJ (zQf w x zeV) w x RX1 cX1_gather 4 1 (rec26 l3 s) 26 [some (.ref (zb w + o0)), some (.ref (zb w + o1)), some (.int p2), some (.int l3)] [] s) : zJ (zQf w x zeV) w x RX1 cX1_gather 4 1 (m_X1_gather_56 o0 o1 p2 rec26 l3 s) 56 [some (.ref (zb w + o0)), some (.ref (zb w + o1)), some (.int p2), some (.int l3)] [] s := by
  unfold m_X1_gather_56
  refine zj_iinc (v2 := l3 + 1) (lv' := [some (.ref (zb w + o0)), some (.ref (zb w + o1)), some (.int p2), some (.int (l3 + 1))]) dX1_gather_56 rfl (by rw [zic_1]) (by decide) rfl rfl ?_
  refine zj_goto (tgt := 26) dX1_gather_59 (by decide) ?_
  exact h_rec26 _ _
def bd_X1_gather_26 (o0 : Nat) (o1 : Nat) (p2 : Int32) (rec26 : Int32 → zSt → Option (zSt)) (l3 : Int32) (s : zSt) : Option (zSt) :=
  (if l3 < zI s o1 0 then
  zcl (m_X4_counts o1 l3 p2 s) (fun r4 s3 => (if r4 = 0 then
    m_X1_gather_56 o0 o1 p2 rec26 l3 s3
    else
    zcv (m_X4_row o1 l3 (zT o0 4) s3) (fun s5 => zcv (m_X1_addRow o0 s5) (fun s6 => m_X1_gather_56 o0 o1 p2 rec26 l3 s6))))
  else
  some s)
def lp_X1_gather_26 (o0 : Nat) (o1 : Nat) (p2 : Int32) : Nat → Int32 → zSt → Option (zSt)
  | 0, _, _ => none
  | n + 1, l3, s => bd_X1_gather_26 o0 o1 p2 (fun l3 s => lp_X1_gather_26 o0 o1 p2 n l3 s) l3 s
set_option maxRecDepth 100000 in
theorem jb_X1_gather_26 {o0 : Nat} {o1 : Nat} {p2 : Int32} {rec26 : Int32 → zSt → Option (zSt)} {l3 : Int32} {s : zSt} {w : zWC} {x : zCX} (hr : zrt x = none)  (h_o0 : zC o0 = 1) (h_o1 : zC o1 = 4) (h_rec26 : ∀ (l3 : Int32) (s : zSt), zJ (zQf w x zeV) w x RX1 cX1_gather 4 1 (rec26 l3 s) 26 [some (.ref (zb w + o0)), some (.ref (zb w + o1)), some (.int p2), some (.int l3)] [] s) : zJ (zQf w x zeV) w x RX1 cX1_gather 4 1 (bd_X1_gather_26 o0 o1 p2 rec26 l3 s) 26 [some (.ref (zb w + o0)), some (.ref (zb w + o1)), some (.int p2), some (.int l3)] [] s := by
  unfold bd_X1_gather_26
  refine zj_iload_n dX1_gather_26 rfl ?_
  refine zj_aload_n dX1_gather_27 rfl ?_
  refine zj_getI dX1_gather_28 fl_X1_47 rfl h_o1 ?_
  refine zj_icmp_ge (tgt := 62) dX1_gather_31 (by decide) ?_ ?_
  · refine zj_aload_n dX1_gather_34 rfl ?_
    refine zj_iload_n dX1_gather_35 rfl ?_
    refine zj_iload_n dX1_gather_36 rfl ?_
    refine zj_cVI2 ml_X1_52 (fun a h => c_X4_counts h_o1 h) h_o1 rfl (Nat.le_of_ble_eq_true rfl) (Nat.le_of_ble_eq_true rfl) dX1_gather_37 (fun r4 s3 => ?_)
    refine zj_if_eq (tgt := 56) dX1_gather_40 (by decide) ?_ ?_
    · exact j_X1_gather_56 hr h_o0 h_o1 h_rec26
    · refine zj_aload_n dX1_gather_43 rfl ?_
      refine zj_iload_n dX1_gather_44 rfl ?_
      refine zj_aload_n dX1_gather_45 rfl ?_
      refine zj_getT dX1_gather_46 fl_X1_26 rfl h_o0 ?_
      refine zj_cVV2 ml_X1_56 (fun a h => c_X4_row h_o1 (zt_1_4 _ h_o0) h) h_o1 rfl (Nat.le_of_ble_eq_true rfl) (Nat.le_of_ble_eq_true rfl) dX1_gather_49 (fun s5 => ?_)
      refine zj_aload_n dX1_gather_52 rfl ?_
      refine zj_cVV0 ml_X1_60 (fun a h => c_X1_addRow h_o0 h) h_o0 rfl (Nat.le_of_ble_eq_true rfl) (Nat.le_of_ble_eq_true rfl) dX1_gather_53 (fun s6 => ?_)
      exact j_X1_gather_56 hr h_o0 h_o1 h_rec26
  · exact zj_vret hr dX1_gather_62
set_option maxRecDepth 100000 in
theorem jl_X1_gather_26 {o0 : Nat} {o1 : Nat} {p2 : Int32} {w : zWC} {x : zCX} (hr : zrt x = none)  (h_o0 : zC o0 = 1) (h_o1 : zC o1 = 4) : ∀ (n : Nat) (l3 : Int32) (s : zSt), zJ (zQf w x zeV) w x RX1 cX1_gather 4 1 (lp_X1_gather_26 o0 o1 p2 n l3 s) 26 [some (.ref (zb w + o0)), some (.ref (zb w + o1)), some (.int p2), some (.int l3)] [] s := by
  intro n
  induction n with
  | zero => intro l3 s; exact zj_none
  | succ n ih => intro l3 s; exact jb_X1_gather_26 hr h_o0 h_o1 (fun l3 s => ih l3 s)
def m_X1_gather (o0 : Nat) (o1 : Nat) (p2 : Int32) (s : zSt) : Option (zSt) :=
  lp_X1_gather_2 o0 o1 p2 (fun s_2 => lp_X1_gather_26 o0 o1 p2 zFuel 0 s_2) zFuel 0 s
set_option maxRecDepth 100000 in
theorem c_X1_gather {w : zWC} {o0 : Nat} {o1 : Nat} {p2 : Int32} {s : zSt} (h_o0 : zC o0 = 1) (h_o1 : zC o1 = 4) {a : zSt} (hm : m_X1_gather o0 o1 p2 s = some a) : zCn w 1 yX1_gather cX1_gather 4 none [.ref (zb w + o0), .ref (zb w + o1), .int p2] s (zeV a).1 (zeV a).2 :=
  zCn_of (own := RX1) (lv := [some (.ref (zb w + o0)), some (.ref (zb w + o1)), some (.int p2), none]) (by decide +kernel) rfl (Nat.le_of_ble_eq_true rfl) rfl (fun x hr => by
    unfold m_X1_gather
    refine zj_iconst dX1_gather_0 zic_0 ?_
    refine zj_istore_n (lv' := [some (.ref (zb w + o0)), some (.ref (zb w + o1)), some (.int p2), some (.int 0)]) dX1_gather_1 rfl (by decide) rfl rfl ?_
    refine jl_X1_gather_2 hr h_o0 h_o1 (fun s_2 => ?_) zFuel _ _
    refine zj_iconst dX1_gather_24 zic_0 ?_
    refine zj_istore_n (lv' := [some (.ref (zb w + o0)), some (.ref (zb w + o1)), some (.int p2), some (.int 0)]) dX1_gather_25 rfl (by decide) rfl rfl ?_
    exact jl_X1_gather_26 hr h_o0 h_o1 zFuel _ _) hm
def bd_X1_solve_51 (o0 : Nat) (o1 : Nat) (p2 : Int32) (p3 : Int32) (rec51 : Int32 → zSt → Option (Int32 × zSt)) (l4 : Int32) (s : zSt) : Option (Int32 × zSt) :=
  (if l4 < zI s o0 2 then
  zcl (m_X1_determinant 8 (zT o0 3) (zI s o0 2) 0 0 l4 s) (fun r11 s10 => (if l4 < 0 ∨ zN (zT o0 0) ≤ Int32.toNatClampNeg l4 then none else zlt (zsL s10 (zT o0 0) (Int32.toNatClampNeg l4) r11) (fun s12 => rec51 (l4 + 1) s12)))
  else
  some (1, s))
def lp_X1_solve_51 (o0 : Nat) (o1 : Nat) (p2 : Int32) (p3 : Int32) : Nat → Int32 → zSt → Option (Int32 × zSt)
  | 0, _, _ => none
  | n + 1, l4, s => bd_X1_solve_51 o0 o1 p2 p3 (fun l4 s => lp_X1_solve_51 o0 o1 p2 p3 n l4 s) l4 s
set_option maxRecDepth 100000 in
theorem jb_X1_solve_51 {o0 : Nat} {o1 : Nat} {p2 : Int32} {p3 : Int32} {rec51 : Int32 → zSt → Option (Int32 × zSt)} {l4 : Int32} {s : zSt} {w : zWC} {x : zCX} (hr : zrt x = (some .boolean))  (h_o0 : zC o0 = 1) (h_o1 : zC o1 = 4) (h_rec51 : ∀ (l4 : Int32) (s : zSt), zJ (zQf w x zeI) w x RX1 cX1_solve 5 9 (rec51 l4 s) 51 [some (.ref (zb w + o0)), none, none, none, some (.int l4)] [] s) : zJ (zQf w x zeI) w x RX1 cX1_solve 5 9 (bd_X1_solve_51 o0 o1 p2 p3 rec51 l4 s) 51 [some (.ref (zb w + o0)), none, none, none, some (.int l4)] [] s := by
  unfold bd_X1_solve_51
  refine zj_iload dX1_solve_51 rfl ?_
  refine zj_aload_n dX1_solve_53 rfl ?_
  refine zj_getI dX1_solve_54 fl_X1_19 rfl h_o0 ?_
  refine zj_icmp_ge (tgt := 88) dX1_solve_57 (by decide) ?_ ?_
  · refine zj_aload_n dX1_solve_60 rfl ?_
    refine zj_getT dX1_solve_61 fl_X1_11 rfl h_o0 ?_
    refine zj_iload dX1_solve_64 rfl ?_
    refine zj_aload_n dX1_solve_66 rfl ?_
    refine zj_getT dX1_solve_67 fl_X1_23 rfl h_o0 ?_
    refine zj_aload_n dX1_solve_70 rfl ?_
    refine zj_getI dX1_solve_71 fl_X1_19 rfl h_o0 ?_
    refine zj_iconst dX1_solve_74 zic_0 ?_
    refine zj_iconst dX1_solve_75 zic_0 ?_
    refine zj_iload dX1_solve_76 rfl ?_
    refine zj_cSL5 ml_X1_43 (fun a h => c_X1_determinant (zt_1_3 _ h_o0) h) (Nat.le_of_ble_eq_true rfl) (Nat.le_of_ble_eq_true rfl) dX1_solve_78 (fun r11 s10 => ?_)
    refine zj_last dX1_solve_81 (zt_1_0 _ h_o0) (fun s12 => ?_)
    refine zj_iinc (v2 := l4 + 1) (lv' := [some (.ref (zb w + o0)), none, none, none, some (.int (l4 + 1))]) dX1_solve_82 rfl (by rw [zic_1]) (by decide) rfl rfl ?_
    refine zj_goto (tgt := 51) dX1_solve_85 (by decide) ?_
    exact h_rec51 _ _
  · refine zj_iconst dX1_solve_88 zic_1 ?_
    exact zj_zret hr rfl dX1_solve_89
set_option maxRecDepth 100000 in
theorem jl_X1_solve_51 {o0 : Nat} {o1 : Nat} {p2 : Int32} {p3 : Int32} {w : zWC} {x : zCX} (hr : zrt x = (some .boolean))  (h_o0 : zC o0 = 1) (h_o1 : zC o1 = 4) : ∀ (n : Nat) (l4 : Int32) (s : zSt), zJ (zQf w x zeI) w x RX1 cX1_solve 5 9 (lp_X1_solve_51 o0 o1 p2 p3 n l4 s) 51 [some (.ref (zb w + o0)), none, none, none, some (.int l4)] [] s := by
  intro n
  induction n with
  | zero => intro l4 s; exact zj_none
  | succ n ih => intro l4 s; exact jb_X1_solve_51 hr h_o0 h_o1 (fun l4 s => ih l4 s)
def m_X1_solve (o0 : Nat) (o1 : Nat) (p2 : Int32) (p3 : Int32) (s : zSt) : Option (Int32 × zSt) :=
  zcl (m_J9_min_7cf53 p2 4 s) (fun r2 s1 => zcl (m_J9_max_7cf53 0 r2 s1) (fun r4 s3 => zlt (zsI s3 o0 2 r4) (fun s5 => zcv (m_X1_gather o0 o1 p3 s5) (fun s6 => zcl (m_X1_determinant 8 (zT o0 3) (zI s6 o0 2) 0 0 (-1) s6) (fun r8 s7 => zlt (zsL s7 o0 1 r8) (fun s9 => (if 0 < zL s9 o0 1 then
  lp_X1_solve_51 o0 o1 p2 p3 zFuel 0 s9
  else
  some (0, s9))))))))
set_option maxRecDepth 100000 in
theorem c_X1_solve {w : zWC} {o0 : Nat} {o1 : Nat} {p2 : Int32} {p3 : Int32} {s : zSt} (h_o0 : zC o0 = 1) (h_o1 : zC o1 = 4) {a : Int32 × zSt} (hm : m_X1_solve o0 o1 p2 p3 s = some a) : zCn w 9 yX1_solve cX1_solve 5 (some .boolean) [.ref (zb w + o0), .ref (zb w + o1), .int p2, .int p3] s (zeI a).1 (zeI a).2 :=
  zCn_of (own := RX1) (lv := [some (.ref (zb w + o0)), some (.ref (zb w + o1)), some (.int p2), some (.int p3), none]) (by decide +kernel) rfl (Nat.le_of_ble_eq_true rfl) rfl (fun x hr => by
    unfold m_X1_solve
    refine zj_aload_n dX1_solve_0 rfl ?_
    refine zj_iconst dX1_solve_1 zic_0 ?_
    refine zj_iload_n dX1_solve_2 rfl ?_
    refine zj_iconst dX1_solve_3 zic_4 ?_
    refine zj_cSI2 ml_X1_30 (fun a h => c_J9_min_7cf53  h) (Nat.le_of_ble_eq_true rfl) (Nat.le_of_ble_eq_true rfl) dX1_solve_4 (fun r2 s1 => ?_)
    refine zj_cSI2 ml_X1_36 (fun a h => c_J9_max_7cf53  h) (Nat.le_of_ble_eq_true rfl) (Nat.le_of_ble_eq_true rfl) dX1_solve_7 (fun r4 s3 => ?_)
    refine zj_putI dX1_solve_10 fl_X1_19 rfl h_o0 pd_1_2 rfl rfl (fun s5 => ?_)
    refine zj_aload_n dX1_solve_13 rfl ?_
    refine zj_aload_n dX1_solve_14 rfl ?_
    refine zj_iload_n dX1_solve_15 rfl ?_
    refine zj_cVV2 ml_X1_39 (fun a h => c_X1_gather h_o0 h_o1 h) h_o0 rfl (Nat.le_of_ble_eq_true rfl) (Nat.le_of_ble_eq_true rfl) dX1_solve_16 (fun s6 => ?_)
    refine zj_aload_n dX1_solve_19 rfl ?_
    refine zj_aload_n dX1_solve_20 rfl ?_
    refine zj_getT dX1_solve_21 fl_X1_23 rfl h_o0 ?_
    refine zj_aload_n dX1_solve_24 rfl ?_
    refine zj_getI dX1_solve_25 fl_X1_19 rfl h_o0 ?_
    refine zj_iconst dX1_solve_28 zic_0 ?_
    refine zj_iconst dX1_solve_29 zic_0 ?_
    refine zj_iconst dX1_solve_30 zic_m1 ?_
    refine zj_cSL5 ml_X1_43 (fun a h => c_X1_determinant (zt_1_3 _ h_o0) h) (Nat.le_of_ble_eq_true rfl) (Nat.le_of_ble_eq_true rfl) dX1_solve_31 (fun r8 s7 => ?_)
    refine zj_putL dX1_solve_34 fl_X1_15 rfl h_o0 pd_1_1 rfl rfl (fun s9 => ?_)
    refine zj_aload_n dX1_solve_37 rfl ?_
    refine zj_getL dX1_solve_38 fl_X1_15 rfl h_o0 ?_
    refine zj_lconst (v := 0) dX1_solve_41 rfl ?_
    refine zj_lcmp_gt (tgt := 48) dX1_solve_42 dX1_solve_43 (by decide) ?_ ?_
    · refine zj_iconst dX1_solve_48 zic_0 ?_
      refine zj_istore (lv' := [some (.ref (zb w + o0)), some (.ref (zb w + o1)), some (.int p2), some (.int p3), some (.int 0)]) dX1_solve_49 (by decide) rfl rfl ?_
      refine zj_weak [true, false, false, false, true] rfl ?_
      exact jl_X1_solve_51 hr h_o0 h_o1 zFuel _ _
    · refine zj_iconst dX1_solve_46 zic_0 ?_
      exact zj_zret hr rfl dX1_solve_47) hm
def m_J9_abs_067f4 (q0 : Int64) (s : zSt) : Option (Int64 × zSt) :=
  (if q0 < 0 then
  some (-q0, s)
  else
  some (q0, s))
set_option maxRecDepth 100000 in
theorem c_J9_abs_067f4 {w : zWC} {q0 : Int64} {s : zSt}  {a : Int64 × zSt} (hm : m_J9_abs_067f4 q0 s = some a) : zCn w 0 yJ9_abs_067f4 cJ9_abs_067f4 2 (some .long) [.long q0] s (zeL a).1 (zeL a).2 :=
  zCn_of (own := RJ9) (lv := [some (.long q0), none]) (by decide +kernel) rfl (Nat.le_of_ble_eq_true rfl) rfl (fun x hr => by
    unfold m_J9_abs_067f4
    refine zj_lload_n dJ9_abs_067f4_0 rfl ?_
    refine zj_lconst (v := 0) dJ9_abs_067f4_1 rfl ?_
    refine zj_lcmp_ge (tgt := 11) dJ9_abs_067f4_2 dJ9_abs_067f4_3 (by decide) ?_ ?_
    · refine zj_lload_n dJ9_abs_067f4_6 rfl ?_
      refine zj_lneg dJ9_abs_067f4_7 ?_
      refine zj_goto (tgt := 12) dJ9_abs_067f4_8 (by decide) ?_
      exact zj_lret hr dJ9_abs_067f4_12
    · refine zj_lload_n dJ9_abs_067f4_11 rfl ?_
      exact zj_lret hr dJ9_abs_067f4_12) hm
def m_J9_max_f86c9 (q0 : Int64) (q2 : Int64) (s : zSt) : Option (Int64 × zSt) :=
  (if q0 < q2 then
  some (q2, s)
  else
  some (q0, s))
set_option maxRecDepth 100000 in
theorem c_J9_max_f86c9 {w : zWC} {q0 : Int64} {q2 : Int64} {s : zSt}  {a : Int64 × zSt} (hm : m_J9_max_f86c9 q0 q2 s = some a) : zCn w 0 yJ9_max_f86c9 cJ9_max_f86c9 4 (some .long) [.long q0, .long q2] s (zeL a).1 (zeL a).2 :=
  zCn_of (own := RJ9) (lv := [some (.long q0), none, some (.long q2), none]) (by decide +kernel) rfl (Nat.le_of_ble_eq_true rfl) rfl (fun x hr => by
    unfold m_J9_max_f86c9
    refine zj_lload_n dJ9_max_f86c9_0 rfl ?_
    refine zj_lload_n dJ9_max_f86c9_1 rfl ?_
    refine zj_lcmp_lt (tgt := 10) dJ9_max_f86c9_2 dJ9_max_f86c9_3 (by decide) ?_ ?_
    · refine zj_lload_n dJ9_max_f86c9_10 rfl ?_
      exact zj_lret hr dJ9_max_f86c9_11
    · refine zj_lload_n dJ9_max_f86c9_6 rfl ?_
      refine zj_goto (tgt := 11) dJ9_max_f86c9_7 (by decide) ?_
      exact zj_lret hr dJ9_max_f86c9_11) hm
def m_X1_mostOff_97 (o0 : Nat) (o1 : Nat) (p2 : Int32) (rec5 : Int64 → Int32 → zSt → Option (Int64 × zSt)) (l3 : Int64) (l5 : Int32) (s : zSt) : Option (Int64 × zSt) :=
  rec5 l3 (l5 + 1) s
set_option maxRecDepth 100000 in
theorem j_X1_mostOff_97 {o0 : Nat} {o1 : Nat} {p2 : Int32} {rec5 : Int64 → Int32 → zSt → Option (Int64 × zSt)} {l3 : Int64} {l5 : Int32} {s : zSt} {w : zWC} {x : zCX} (hr : zrt x = (some .long))  (h_o0 : zC o0 = 1) (h_o1 : zC o1 = 4) (h_rec5 : ∀ (l3 : Int64) (l5 : Int32) (s : zSt), zJ (zQf w x zeL) w x RX1 cX1_mostOff 9 1 (rec5 l3 l5 s) 5 [some (.ref (zb w + o0)), some (.ref (zb w + o1)), some (.int p2), some (.long l3), none, some (.int l5), none, none, none] [] s) : zJ (zQf w x zeL) w x RX1 cX1_mostOff 9 1 (m_X1_mostOff_97 o0 o1 p2 rec5 l3 l5 s) 97 [some (.ref (zb w + o0)), some (.ref (zb w + o1)), some (.int p2), some (.long l3), none, some (.int l5), none, none, none] [] s := by
  unfold m_X1_mostOff_97
  refine zj_iinc (v2 := l5 + 1) (lv' := [some (.ref (zb w + o0)), some (.ref (zb w + o1)), some (.int p2), some (.long l3), none, some (.int (l5 + 1)), none, none, none]) dX1_mostOff_97 rfl (by rw [zic_1]) (by decide) rfl rfl ?_
  refine zj_goto (tgt := 5) dX1_mostOff_100 (by decide) ?_
  exact h_rec5 _ _ _
def bd_X1_mostOff_51 (o0 : Nat) (o1 : Nat) (p2 : Int32) (rec51 : Int64 → Int32 → Int64 → Int32 → zSt → Option (Int64 × zSt)) (k87 : Int64 → Int32 → Int64 → zSt → Option (Int64 × zSt)) (l3 : Int64) (l5 : Int32) (l6 : Int64) (l8 : Int32) (s : zSt) : Option (Int64 × zSt) :=
  (if l8 < zI s o0 2 then
  (if l8 < 0 ∨ zN (zT o0 4) ≤ Int32.toNatClampNeg l8 then none else (if l8 < 0 ∨ zN (zT o0 0) ≤ Int32.toNatClampNeg l8 then none else rec51 l3 l5 (l6 - (((zI s (zT o0 4) (Int32.toNatClampNeg l8)).toInt64) * (zL s (zT o0 0) (Int32.toNatClampNeg l8)))) (l8 + 1) s))
  else
  k87 l3 l5 l6 s)
def lp_X1_mostOff_51 (o0 : Nat) (o1 : Nat) (p2 : Int32) (k87 : Int64 → Int32 → Int64 → zSt → Option (Int64 × zSt)) : Nat → Int64 → Int32 → Int64 → Int32 → zSt → Option (Int64 × zSt)
  | 0, _, _, _, _, _ => none
  | n + 1, l3, l5, l6, l8, s => bd_X1_mostOff_51 o0 o1 p2 (fun l3 l5 l6 l8 s => lp_X1_mostOff_51 o0 o1 p2 k87 n l3 l5 l6 l8 s) k87 l3 l5 l6 l8 s
set_option maxRecDepth 100000 in
theorem jb_X1_mostOff_51 {o0 : Nat} {o1 : Nat} {p2 : Int32} {rec51 : Int64 → Int32 → Int64 → Int32 → zSt → Option (Int64 × zSt)} {k87 : Int64 → Int32 → Int64 → zSt → Option (Int64 × zSt)} {l3 : Int64} {l5 : Int32} {l6 : Int64} {l8 : Int32} {s : zSt} {w : zWC} {x : zCX} (hr : zrt x = (some .long))  (h_o0 : zC o0 = 1) (h_o1 : zC o1 = 4) (h_rec51 : ∀ (l3 : Int64) (l5 : Int32) (l6 : Int64) (l8 : Int32) (s : zSt), zJ (zQf w x zeL) w x RX1 cX1_mostOff 9 1 (rec51 l3 l5 l6 l8 s) 51 [some (.ref (zb w + o0)), some (.ref (zb w + o1)), some (.int p2), some (.long l3), none, some (.int l5), some (.long l6), none, some (.int l8)] [] s) (h_k87 : ∀ (l3 : Int64) (l5 : Int32) (l6 : Int64) (s : zSt), zJ (zQf w x zeL) w x RX1 cX1_mostOff 9 1 (k87 l3 l5 l6 s) 87 [some (.ref (zb w + o0)), some (.ref (zb w + o1)), some (.int p2), some (.long l3), none, some (.int l5), some (.long l6), none, none] [] s) : zJ (zQf w x zeL) w x RX1 cX1_mostOff 9 1 (bd_X1_mostOff_51 o0 o1 p2 rec51 k87 l3 l5 l6 l8 s) 51 [some (.ref (zb w + o0)), some (.ref (zb w + o1)), some (.int p2), some (.long l3), none, some (.int l5), some (.long l6), none, some (.int l8)] [] s := by
  unfold bd_X1_mostOff_51
  refine zj_iload dX1_mostOff_51 rfl ?_
  refine zj_aload_n dX1_mostOff_53 rfl ?_
  refine zj_getI dX1_mostOff_54 fl_X1_19 rfl h_o0 ?_
  refine zj_icmp_ge (tgt := 87) dX1_mostOff_57 (by decide) ?_ ?_
  · refine zj_lload dX1_mostOff_60 rfl ?_
    refine zj_aload_n dX1_mostOff_62 rfl ?_
    refine zj_getT dX1_mostOff_63 fl_X1_26 rfl h_o0 ?_
    refine zj_iload dX1_mostOff_66 rfl ?_
    refine zj_iald dX1_mostOff_68 (zt_1_4 _ h_o0) ?_
    refine zj_i2l dX1_mostOff_69 ?_
    refine zj_aload_n dX1_mostOff_70 rfl ?_
    refine zj_getT dX1_mostOff_71 fl_X1_11 rfl h_o0 ?_
    refine zj_iload dX1_mostOff_74 rfl ?_
    refine zj_lald dX1_mostOff_76 (zt_1_0 _ h_o0) ?_
    refine zj_lmul dX1_mostOff_77 ?_
    refine zj_lsub dX1_mostOff_78 ?_
    refine zj_lstore (lv' := [some (.ref (zb w + o0)), some (.ref (zb w + o1)), some (.int p2), some (.long l3), none, some (.int l5), some (.long (l6 - (((zI s (zT o0 4) (Int32.toNatClampNeg l8)).toInt64) * (zL s (zT o0 0) (Int32.toNatClampNeg l8))))), none, some (.int l8)]) dX1_mostOff_79 (by decide) rfl rfl ?_
    refine zj_iinc (v2 := l8 + 1) (lv' := [some (.ref (zb w + o0)), some (.ref (zb w + o1)), some (.int p2), some (.long l3), none, some (.int l5), some (.long (l6 - (((zI s (zT o0 4) (Int32.toNatClampNeg l8)).toInt64) * (zL s (zT o0 0) (Int32.toNatClampNeg l8))))), none, some (.int (l8 + 1))]) dX1_mostOff_81 rfl (by rw [zic_1]) (by decide) rfl rfl ?_
    refine zj_goto (tgt := 51) dX1_mostOff_84 (by decide) ?_
    exact h_rec51 _ _ _ _ _
  · refine zj_weak [true, true, true, true, false, true, true, false, false] rfl ?_
    exact h_k87 _ _ _ _
set_option maxRecDepth 100000 in
theorem jl_X1_mostOff_51 {o0 : Nat} {o1 : Nat} {p2 : Int32} {k87 : Int64 → Int32 → Int64 → zSt → Option (Int64 × zSt)} {w : zWC} {x : zCX} (hr : zrt x = (some .long))  (h_o0 : zC o0 = 1) (h_o1 : zC o1 = 4) (h_k87 : ∀ (l3 : Int64) (l5 : Int32) (l6 : Int64) (s : zSt), zJ (zQf w x zeL) w x RX1 cX1_mostOff 9 1 (k87 l3 l5 l6 s) 87 [some (.ref (zb w + o0)), some (.ref (zb w + o1)), some (.int p2), some (.long l3), none, some (.int l5), some (.long l6), none, none] [] s) : ∀ (n : Nat) (l3 : Int64) (l5 : Int32) (l6 : Int64) (l8 : Int32) (s : zSt), zJ (zQf w x zeL) w x RX1 cX1_mostOff 9 1 (lp_X1_mostOff_51 o0 o1 p2 k87 n l3 l5 l6 l8 s) 51 [some (.ref (zb w + o0)), some (.ref (zb w + o1)), some (.int p2), some (.long l3), none, some (.int l5), some (.long l6), none, some (.int l8)] [] s := by
  intro n
  induction n with
  | zero => intro l3 l5 l6 l8 s; exact zj_none
  | succ n ih => intro l3 l5 l6 l8 s; exact jb_X1_mostOff_51 hr h_o0 h_o1 (fun l3 l5 l6 l8 s => ih l3 l5 l6 l8 s) h_k87
def bd_X1_mostOff_5 (o0 : Nat) (o1 : Nat) (p2 : Int32) (rec5 : Int64 → Int32 → zSt → Option (Int64 × zSt)) (l3 : Int64) (l5 : Int32) (s : zSt) : Option (Int64 × zSt) :=
  (if l5 < zI s o1 0 then
  zcl (m_X4_counts o1 l5 p2 s) (fun r2 s1 => (if r2 = 0 then
    m_X1_mostOff_97 o0 o1 p2 rec5 l3 l5 s1
    else
    zcv (m_X4_row o1 l5 (zT o0 4) s1) (fun s3 => (if (4 : Int32) < 0 ∨ zN (zT o0 4) ≤ Int32.toNatClampNeg 4 then none else lp_X1_mostOff_51 o0 o1 p2 (fun l3_4 l5_4 l6_4 s_4 => zcl (m_J9_abs_067f4 l6_4 s_4) (fun r6 s5 => zcl (m_J9_max_f86c9 l3_4 r6 s5) (fun r8 s7 => m_X1_mostOff_97 o0 o1 p2 rec5 r8 l5_4 s7))) zFuel l3 l5 (((zI s3 (zT o0 4) (Int32.toNatClampNeg 4)).toInt64) * (zL s3 o0 1)) 0 s3))))
  else
  some (l3, s))
def lp_X1_mostOff_5 (o0 : Nat) (o1 : Nat) (p2 : Int32) : Nat → Int64 → Int32 → zSt → Option (Int64 × zSt)
  | 0, _, _, _ => none
  | n + 1, l3, l5, s => bd_X1_mostOff_5 o0 o1 p2 (fun l3 l5 s => lp_X1_mostOff_5 o0 o1 p2 n l3 l5 s) l3 l5 s
set_option maxRecDepth 100000 in
theorem jb_X1_mostOff_5 {o0 : Nat} {o1 : Nat} {p2 : Int32} {rec5 : Int64 → Int32 → zSt → Option (Int64 × zSt)} {l3 : Int64} {l5 : Int32} {s : zSt} {w : zWC} {x : zCX} (hr : zrt x = (some .long))  (h_o0 : zC o0 = 1) (h_o1 : zC o1 = 4) (h_rec5 : ∀ (l3 : Int64) (l5 : Int32) (s : zSt), zJ (zQf w x zeL) w x RX1 cX1_mostOff 9 1 (rec5 l3 l5 s) 5 [some (.ref (zb w + o0)), some (.ref (zb w + o1)), some (.int p2), some (.long l3), none, some (.int l5), none, none, none] [] s) : zJ (zQf w x zeL) w x RX1 cX1_mostOff 9 1 (bd_X1_mostOff_5 o0 o1 p2 rec5 l3 l5 s) 5 [some (.ref (zb w + o0)), some (.ref (zb w + o1)), some (.int p2), some (.long l3), none, some (.int l5), none, none, none] [] s := by
  unfold bd_X1_mostOff_5
  refine zj_iload dX1_mostOff_5 rfl ?_
  refine zj_aload_n dX1_mostOff_7 rfl ?_
  refine zj_getI dX1_mostOff_8 fl_X1_47 rfl h_o1 ?_
  refine zj_icmp_ge (tgt := 103) dX1_mostOff_11 (by decide) ?_ ?_
  · refine zj_aload_n dX1_mostOff_14 rfl ?_
    refine zj_iload dX1_mostOff_15 rfl ?_
    refine zj_iload_n dX1_mostOff_17 rfl ?_
    refine zj_cVI2 ml_X1_52 (fun a h => c_X4_counts h_o1 h) h_o1 rfl (Nat.le_of_ble_eq_true rfl) (Nat.le_of_ble_eq_true rfl) dX1_mostOff_18 (fun r2 s1 => ?_)
    refine zj_if_eq (tgt := 97) dX1_mostOff_21 (by decide) ?_ ?_
    · exact j_X1_mostOff_97 hr h_o0 h_o1 h_rec5
    · refine zj_aload_n dX1_mostOff_24 rfl ?_
      refine zj_iload dX1_mostOff_25 rfl ?_
      refine zj_aload_n dX1_mostOff_27 rfl ?_
      refine zj_getT dX1_mostOff_28 fl_X1_26 rfl h_o0 ?_
      refine zj_cVV2 ml_X1_56 (fun a h => c_X4_row h_o1 (zt_1_4 _ h_o0) h) h_o1 rfl (Nat.le_of_ble_eq_true rfl) (Nat.le_of_ble_eq_true rfl) dX1_mostOff_31 (fun s3 => ?_)
      refine zj_aload_n dX1_mostOff_34 rfl ?_
      refine zj_getT dX1_mostOff_35 fl_X1_26 rfl h_o0 ?_
      refine zj_iconst dX1_mostOff_38 zic_4 ?_
      refine zj_iald dX1_mostOff_39 (zt_1_4 _ h_o0) ?_
      refine zj_i2l dX1_mostOff_40 ?_
      refine zj_aload_n dX1_mostOff_41 rfl ?_
      refine zj_getL dX1_mostOff_42 fl_X1_15 rfl h_o0 ?_
      refine zj_lmul dX1_mostOff_45 ?_
      refine zj_lstore (lv' := [some (.ref (zb w + o0)), some (.ref (zb w + o1)), some (.int p2), some (.long l3), none, some (.int l5), some (.long (((zI s3 (zT o0 4) (Int32.toNatClampNeg 4)).toInt64) * (zL s3 o0 1))), none, none]) dX1_mostOff_46 (by decide) rfl rfl ?_
      refine zj_iconst dX1_mostOff_48 zic_0 ?_
      refine zj_istore (lv' := [some (.ref (zb w + o0)), some (.ref (zb w + o1)), some (.int p2), some (.long l3), none, some (.int l5), some (.long (((zI s3 (zT o0 4) (Int32.toNatClampNeg 4)).toInt64) * (zL s3 o0 1))), none, some (.int 0)]) dX1_mostOff_49 (by decide) rfl rfl ?_
      refine jl_X1_mostOff_51 hr h_o0 h_o1 (fun l3_4 l5_4 l6_4 s_4 => ?_) zFuel _ _ _ _ _
      refine zj_lload_n dX1_mostOff_87 rfl ?_
      refine zj_lload dX1_mostOff_88 rfl ?_
      refine zj_cSL1 ml_X1_63 (fun a h => c_J9_abs_067f4  h) (Nat.le_of_ble_eq_true rfl) (Nat.le_of_ble_eq_true rfl) dX1_mostOff_90 (fun r6 s5 => ?_)
      refine zj_cSL2 ml_X1_67 (fun a h => c_J9_max_f86c9  h) (Nat.le_of_ble_eq_true rfl) (Nat.le_of_ble_eq_true rfl) dX1_mostOff_93 (fun r8 s7 => ?_)
      refine zj_lstore_n (lv' := [some (.ref (zb w + o0)), some (.ref (zb w + o1)), some (.int p2), some (.long r8), none, some (.int l5_4), some (.long l6_4), none, none]) dX1_mostOff_96 rfl (by decide) rfl rfl ?_
      refine zj_weak [true, true, true, true, false, true, false, false, false] rfl ?_
      exact j_X1_mostOff_97 hr h_o0 h_o1 h_rec5
  · refine zj_lload_n dX1_mostOff_103 rfl ?_
    exact zj_lret hr dX1_mostOff_104
set_option maxRecDepth 100000 in
theorem jl_X1_mostOff_5 {o0 : Nat} {o1 : Nat} {p2 : Int32} {w : zWC} {x : zCX} (hr : zrt x = (some .long))  (h_o0 : zC o0 = 1) (h_o1 : zC o1 = 4) : ∀ (n : Nat) (l3 : Int64) (l5 : Int32) (s : zSt), zJ (zQf w x zeL) w x RX1 cX1_mostOff 9 1 (lp_X1_mostOff_5 o0 o1 p2 n l3 l5 s) 5 [some (.ref (zb w + o0)), some (.ref (zb w + o1)), some (.int p2), some (.long l3), none, some (.int l5), none, none, none] [] s := by
  intro n
  induction n with
  | zero => intro l3 l5 s; exact zj_none
  | succ n ih => intro l3 l5 s; exact jb_X1_mostOff_5 hr h_o0 h_o1 (fun l3 l5 s => ih l3 l5 s)
def m_X1_mostOff (o0 : Nat) (o1 : Nat) (p2 : Int32) (s : zSt) : Option (Int64 × zSt) :=
  lp_X1_mostOff_5 o0 o1 p2 zFuel 0 0 s
set_option maxRecDepth 100000 in
theorem c_X1_mostOff {w : zWC} {o0 : Nat} {o1 : Nat} {p2 : Int32} {s : zSt} (h_o0 : zC o0 = 1) (h_o1 : zC o1 = 4) {a : Int64 × zSt} (hm : m_X1_mostOff o0 o1 p2 s = some a) : zCn w 1 yX1_mostOff cX1_mostOff 9 (some .long) [.ref (zb w + o0), .ref (zb w + o1), .int p2] s (zeL a).1 (zeL a).2 :=
  zCn_of (own := RX1) (lv := [some (.ref (zb w + o0)), some (.ref (zb w + o1)), some (.int p2), none, none, none, none, none, none]) (by decide +kernel) rfl (Nat.le_of_ble_eq_true rfl) rfl (fun x hr => by
    unfold m_X1_mostOff
    refine zj_lconst (v := 0) dX1_mostOff_0 rfl ?_
    refine zj_lstore_n (lv' := [some (.ref (zb w + o0)), some (.ref (zb w + o1)), some (.int p2), some (.long 0), none, none, none, none, none]) dX1_mostOff_1 rfl (by decide) rfl rfl ?_
    refine zj_iconst dX1_mostOff_2 zic_0 ?_
    refine zj_istore (lv' := [some (.ref (zb w + o0)), some (.ref (zb w + o1)), some (.int p2), some (.long 0), none, some (.int 0), none, none, none]) dX1_mostOff_3 (by decide) rfl rfl ?_
    exact jl_X1_mostOff_5 hr h_o0 h_o1 zFuel _ _ _) hm
def m_X3_takeName (o0 : Nat) (s : zSt) : Option (Int32 × zSt) :=
  (if zI s o0 4 = 2 then
  zlt (zsL s o0 9 (zL s o0 7)) (fun s1 => zcv (m_X3_advance o0 s1) (fun s2 => some (1, s2)))
  else
  zcl (m_X3_refuse o0 2 s) (fun r4 s3 => (if r4 = 0 ∨ r4 = 1 then some (r4, s3) else none)))
set_option maxRecDepth 100000 in
theorem c_X3_takeName {w : zWC} {o0 : Nat} {s : zSt} (h_o0 : zC o0 = 3) {a : Int32 × zSt} (hm : m_X3_takeName o0 s = some a) : zCn w 2 yX3_takeName cX3_takeName 1 (some .boolean) [.ref (zb w + o0)] s (zeI a).1 (zeI a).2 :=
  zCn_of (own := RX3) (lv := [some (.ref (zb w + o0))]) (by decide +kernel) rfl (Nat.le_of_ble_eq_true rfl) rfl (fun x hr => by
    unfold m_X3_takeName
    refine zj_aload_n dX3_takeName_0 rfl ?_
    refine zj_getI dX3_takeName_1 fl_X3_61 rfl h_o0 ?_
    refine zj_iconst dX3_takeName_4 zic_2 ?_
    refine zj_icmp_eq (tgt := 14) dX3_takeName_5 (by decide) ?_ ?_
    · refine zj_aload_n dX3_takeName_14 rfl ?_
      refine zj_aload_n dX3_takeName_15 rfl ?_
      refine zj_getL dX3_takeName_16 fl_X3_74 rfl h_o0 ?_
      refine zj_putL dX3_takeName_19 fl_X3_88 rfl h_o0 pd_3_9 rfl rfl (fun s1 => ?_)
      refine zj_aload_n dX3_takeName_22 rfl ?_
      refine zj_cVV0 ml_X3_47 (fun a h => c_X3_advance h_o0 h) h_o0 rfl (Nat.le_of_ble_eq_true rfl) (Nat.le_of_ble_eq_true rfl) dX3_takeName_23 (fun s2 => ?_)
      refine zj_iconst dX3_takeName_26 zic_1 ?_
      exact zj_zret hr rfl dX3_takeName_27
    · refine zj_aload_n dX3_takeName_8 rfl ?_
      refine zj_iconst dX3_takeName_9 zic_2 ?_
      refine zj_cVI1 ml_X3_85 (fun a h => c_X3_refuse h_o0 h) h_o0 rfl (Nat.le_of_ble_eq_true rfl) (Nat.le_of_ble_eq_true rfl) dX3_takeName_10 (fun r4 s3 => ?_)
      exact zj_zretG hr dX3_takeName_13) hm
def m_X3_takeNumber (o0 : Nat) (p1 : Int32) (p2 : Int32) (s : zSt) : Option (Int32 × zSt) :=
  (if zI s o0 4 = 3 then
  zcl (m_X8_within (zI s o0 6) p1 p2 s) (fun r2 s1 => (if r2 = 0 then
    zcl (m_X3_refuse o0 4 s1) (fun r4 s3 => (if r4 = 0 ∨ r4 = 1 then some (r4, s3) else none))
    else
    zlt (zsI s1 o0 8 (zI s1 o0 6)) (fun s5 => zcv (m_X3_advance o0 s5) (fun s6 => some (1, s6)))))
  else
  zcl (m_X3_refuse o0 2 s) (fun r8 s7 => (if r8 = 0 ∨ r8 = 1 then some (r8, s7) else none)))
set_option maxRecDepth 100000 in
theorem c_X3_takeNumber {w : zWC} {o0 : Nat} {p1 : Int32} {p2 : Int32} {s : zSt} (h_o0 : zC o0 = 3) {a : Int32 × zSt} (hm : m_X3_takeNumber o0 p1 p2 s = some a) : zCn w 2 yX3_takeNumber cX3_takeNumber 3 (some .boolean) [.ref (zb w + o0), .int p1, .int p2] s (zeI a).1 (zeI a).2 :=
  zCn_of (own := RX3) (lv := [some (.ref (zb w + o0)), some (.int p1), some (.int p2)]) (by decide +kernel) rfl (Nat.le_of_ble_eq_true rfl) rfl (fun x hr => by
    unfold m_X3_takeNumber
    refine zj_aload_n dX3_takeNumber_0 rfl ?_
    refine zj_getI dX3_takeNumber_1 fl_X3_61 rfl h_o0 ?_
    refine zj_iconst dX3_takeNumber_4 zic_3 ?_
    refine zj_icmp_eq (tgt := 14) dX3_takeNumber_5 (by decide) ?_ ?_
    · refine zj_aload_n dX3_takeNumber_14 rfl ?_
      refine zj_getI dX3_takeNumber_15 fl_X3_78 rfl h_o0 ?_
      refine zj_iload_n dX3_takeNumber_18 rfl ?_
      refine zj_iload_n dX3_takeNumber_19 rfl ?_
      refine zj_cNI3 ml_X3_95 (fun a h => c_X8_within  h) (Nat.le_of_ble_eq_true rfl) (Nat.le_of_ble_eq_true rfl) dX3_takeNumber_20 (fun r2 s1 => ?_)
      refine zj_if_ne (tgt := 32) dX3_takeNumber_23 (by decide) ?_ ?_
      · refine zj_aload_n dX3_takeNumber_26 rfl ?_
        refine zj_iconst dX3_takeNumber_27 zic_4 ?_
        refine zj_cVI1 ml_X3_85 (fun a h => c_X3_refuse h_o0 h) h_o0 rfl (Nat.le_of_ble_eq_true rfl) (Nat.le_of_ble_eq_true rfl) dX3_takeNumber_28 (fun r4 s3 => ?_)
        exact zj_zretG hr dX3_takeNumber_31
      · refine zj_aload_n dX3_takeNumber_32 rfl ?_
        refine zj_aload_n dX3_takeNumber_33 rfl ?_
        refine zj_getI dX3_takeNumber_34 fl_X3_78 rfl h_o0 ?_
        refine zj_putI dX3_takeNumber_37 fl_X3_99 rfl h_o0 pd_3_8 rfl rfl (fun s5 => ?_)
        refine zj_aload_n dX3_takeNumber_40 rfl ?_
        refine zj_cVV0 ml_X3_47 (fun a h => c_X3_advance h_o0 h) h_o0 rfl (Nat.le_of_ble_eq_true rfl) (Nat.le_of_ble_eq_true rfl) dX3_takeNumber_41 (fun s6 => ?_)
        refine zj_iconst dX3_takeNumber_44 zic_1 ?_
        exact zj_zret hr rfl dX3_takeNumber_45
    · refine zj_aload_n dX3_takeNumber_8 rfl ?_
      refine zj_iconst dX3_takeNumber_9 zic_2 ?_
      refine zj_cVI1 ml_X3_85 (fun a h => c_X3_refuse h_o0 h) h_o0 rfl (Nat.le_of_ble_eq_true rfl) (Nat.le_of_ble_eq_true rfl) dX3_takeNumber_10 (fun r8 s7 => ?_)
      exact zj_zretG hr dX3_takeNumber_13) hm
def m_X2_readHouse (o0 : Nat) (o1 : Nat) (s : zSt) : Option (Int32 × zSt) :=
  (if zI s o0 0 < 12 then
  zcl (m_X3_take o1 270 s) (fun r2 s1 => (if r2 = 0 then
    some (0, s1)
    else
    zcl (m_X3_takeNewName o1 (zT o0 1) (zI s1 o0 0) s1) (fun r4 s3 => (if r4 = 0 then
      some (0, s3)
      else
      zcl (m_X3_take o1 271 s3) (fun r6 s5 => (if r6 = 0 then
        some (0, s5)
        else
        zcl (m_X3_takeNumber o1 0 9999 s5) (fun r8 s7 => (if r8 = 0 then
          some (0, s7)
          else
          zcl (m_X3_take o1 272 s7) (fun r10 s9 => (if r10 = 0 then
            some (0, s9)
            else
            zcl (m_X3_takeNumber o1 0 999 s9) (fun r12 s11 => (if r12 = 0 then
              some (0, s11)
              else
              (if zI s11 o0 0 < 0 ∨ zN (zT o0 4) ≤ Int32.toNatClampNeg (zI s11 o0 0) then none else zlt (zsI s11 (zT o0 4) (Int32.toNatClampNeg (zI s11 o0 0)) ((zI s7 o1 8) - (zI s11 o1 8))) (fun s13 => (if zI s13 o0 0 < 0 ∨ zN (zT o0 5) ≤ Int32.toNatClampNeg (zI s13 o0 0) then none else zlt (zsI s13 (zT o0 5) (Int32.toNatClampNeg (zI s13 o0 0)) ((zI s7 o1 8) + (zI s13 o1 8))) (fun s14 => zcl (m_X3_take o1 260 s14) (fun r16 s15 => (if r16 = 0 then
                some (0, s15)
                else
                zcl (m_X3_takeName o1 s15) (fun r18 s17 => (if r18 = 0 then
                  some (0, s17)
                  else
                  (if zI s17 o0 0 < 0 ∨ zN (zT o0 2) ≤ Int32.toNatClampNeg (zI s17 o0 0) then none else zlt (zsL s17 (zT o0 2) (Int32.toNatClampNeg (zI s17 o0 0)) (zL s17 o1 9)) (fun s19 => zcl (m_X3_take o1 273 s19) (fun r21 s20 => (if r21 = 0 then
                    some (0, s20)
                    else
                    zcl (m_X3_takeName o1 s20) (fun r23 s22 => (if r23 = 0 then
                      some (0, s22)
                      else
                      (if zI s22 o0 0 < 0 ∨ zN (zT o0 3) ≤ Int32.toNatClampNeg (zI s22 o0 0) then none else zlt (zsL s22 (zT o0 3) (Int32.toNatClampNeg (zI s22 o0 0)) (zL s22 o1 9)) (fun s24 => zcl (m_X3_take o1 59 s24) (fun r26 s25 => (if r26 = 0 ∨ r26 = 1 then some (r26, s25) else none))))))))))))))))))))))))))))))
  else
  zcl (m_X3_refuse o1 2 s) (fun r28 s27 => (if r28 = 0 ∨ r28 = 1 then some (r28, s27) else none)))
set_option maxRecDepth 100000 in
theorem c_X2_readHouse {w : zWC} {o0 : Nat} {o1 : Nat} {s : zSt} (h_o0 : zC o0 = 2) (h_o1 : zC o1 = 3) {a : Int32 × zSt} (hm : m_X2_readHouse o0 o1 s = some a) : zCn w 3 yX2_readHouse cX2_readHouse 3 (some .boolean) [.ref (zb w + o0), .ref (zb w + o1)] s (zeI a).1 (zeI a).2 :=
  zCn_of (own := RX2) (lv := [some (.ref (zb w + o0)), some (.ref (zb w + o1)), none]) (by decide +kernel) rfl (Nat.le_of_ble_eq_true rfl) rfl (fun x hr => by
    unfold m_X2_readHouse
    refine zj_aload_n dX2_readHouse_0 rfl ?_
    refine zj_getI dX2_readHouse_1 fl_X2_9 rfl h_o0 ?_
    refine zj_bipush dX2_readHouse_4 zbi_12 ?_
    refine zj_icmp_lt (tgt := 15) dX2_readHouse_6 (by decide) ?_ ?_
    · refine zj_aload_n dX2_readHouse_15 rfl ?_
      refine zj_sipush dX2_readHouse_16 zsi_270 ?_
      refine zj_cVI1 ml_X2_48 (fun a h => c_X3_take h_o1 h) h_o1 rfl (Nat.le_of_ble_eq_true rfl) (Nat.le_of_ble_eq_true rfl) dX2_readHouse_19 (fun r2 s1 => ?_)
      refine zj_if_eq (tgt := 40) dX2_readHouse_22 (by decide) ?_ ?_
      · refine zj_iconst dX2_readHouse_40 zic_0 ?_
        exact zj_zret hr rfl dX2_readHouse_41
      · refine zj_aload_n dX2_readHouse_25 rfl ?_
        refine zj_aload_n dX2_readHouse_26 rfl ?_
        refine zj_getT dX2_readHouse_27 fl_X2_15 rfl h_o0 ?_
        refine zj_aload_n dX2_readHouse_30 rfl ?_
        refine zj_getI dX2_readHouse_31 fl_X2_9 rfl h_o0 ?_
        refine zj_cVI2 ml_X2_51 (fun a h => c_X3_takeNewName h_o1 (zt_2_1 _ h_o0) h) h_o1 rfl (Nat.le_of_ble_eq_true rfl) (Nat.le_of_ble_eq_true rfl) dX2_readHouse_34 (fun r4 s3 => ?_)
        refine zj_if_ne (tgt := 42) dX2_readHouse_37 (by decide) ?_ ?_
        · refine zj_iconst dX2_readHouse_40 zic_0 ?_
          exact zj_zret hr rfl dX2_readHouse_41
        · refine zj_aload_n dX2_readHouse_42 rfl ?_
          refine zj_sipush dX2_readHouse_43 zsi_271 ?_
          refine zj_cVI1 ml_X2_48 (fun a h => c_X3_take h_o1 h) h_o1 rfl (Nat.le_of_ble_eq_true rfl) (Nat.le_of_ble_eq_true rfl) dX2_readHouse_46 (fun r6 s5 => ?_)
          refine zj_if_eq (tgt := 63) dX2_readHouse_49 (by decide) ?_ ?_
          · refine zj_iconst dX2_readHouse_63 zic_0 ?_
            exact zj_zret hr rfl dX2_readHouse_64
          · refine zj_aload_n dX2_readHouse_52 rfl ?_
            refine zj_iconst dX2_readHouse_53 zic_0 ?_
            refine zj_sipush dX2_readHouse_54 zsi_9999 ?_
            refine zj_cVI2 ml_X2_55 (fun a h => c_X3_takeNumber h_o1 h) h_o1 rfl (Nat.le_of_ble_eq_true rfl) (Nat.le_of_ble_eq_true rfl) dX2_readHouse_57 (fun r8 s7 => ?_)
            refine zj_if_ne (tgt := 65) dX2_readHouse_60 (by decide) ?_ ?_
            · refine zj_iconst dX2_readHouse_63 zic_0 ?_
              exact zj_zret hr rfl dX2_readHouse_64
            · refine zj_aload_n dX2_readHouse_65 rfl ?_
              refine zj_getI dX2_readHouse_66 fl_X2_59 rfl h_o1 ?_
              refine zj_istore_n (lv' := [some (.ref (zb w + o0)), some (.ref (zb w + o1)), some (.int (zI s7 o1 8))]) dX2_readHouse_69 rfl (by decide) rfl rfl ?_
              refine zj_aload_n dX2_readHouse_70 rfl ?_
              refine zj_sipush dX2_readHouse_71 zsi_272 ?_
              refine zj_cVI1 ml_X2_48 (fun a h => c_X3_take h_o1 h) h_o1 rfl (Nat.le_of_ble_eq_true rfl) (Nat.le_of_ble_eq_true rfl) dX2_readHouse_74 (fun r10 s9 => ?_)
              refine zj_if_eq (tgt := 91) dX2_readHouse_77 (by decide) ?_ ?_
              · refine zj_iconst dX2_readHouse_91 zic_0 ?_
                exact zj_zret hr rfl dX2_readHouse_92
              · refine zj_aload_n dX2_readHouse_80 rfl ?_
                refine zj_iconst dX2_readHouse_81 zic_0 ?_
                refine zj_sipush dX2_readHouse_82 zsi_999 ?_
                refine zj_cVI2 ml_X2_55 (fun a h => c_X3_takeNumber h_o1 h) h_o1 rfl (Nat.le_of_ble_eq_true rfl) (Nat.le_of_ble_eq_true rfl) dX2_readHouse_85 (fun r12 s11 => ?_)
                refine zj_if_ne (tgt := 93) dX2_readHouse_88 (by decide) ?_ ?_
                · refine zj_iconst dX2_readHouse_91 zic_0 ?_
                  exact zj_zret hr rfl dX2_readHouse_92
                · refine zj_aload_n dX2_readHouse_93 rfl ?_
                  refine zj_getT dX2_readHouse_94 fl_X2_25 rfl h_o0 ?_
                  refine zj_aload_n dX2_readHouse_97 rfl ?_
                  refine zj_getI dX2_readHouse_98 fl_X2_9 rfl h_o0 ?_
                  refine zj_iload_n dX2_readHouse_101 rfl ?_
                  refine zj_aload_n dX2_readHouse_102 rfl ?_
                  refine zj_getI dX2_readHouse_103 fl_X2_59 rfl h_o1 ?_
                  refine zj_isub dX2_readHouse_106 ?_
                  refine zj_iast dX2_readHouse_107 (zt_2_4 _ h_o0) (fun s13 => ?_)
                  refine zj_aload_n dX2_readHouse_108 rfl ?_
                  refine zj_getT dX2_readHouse_109 fl_X2_29 rfl h_o0 ?_
                  refine zj_aload_n dX2_readHouse_112 rfl ?_
                  refine zj_getI dX2_readHouse_113 fl_X2_9 rfl h_o0 ?_
                  refine zj_iload_n dX2_readHouse_116 rfl ?_
                  refine zj_aload_n dX2_readHouse_117 rfl ?_
                  refine zj_getI dX2_readHouse_118 fl_X2_59 rfl h_o1 ?_
                  refine zj_iadd dX2_readHouse_121 ?_
                  refine zj_iast dX2_readHouse_122 (zt_2_5 _ h_o0) (fun s14 => ?_)
                  refine zj_aload_n dX2_readHouse_123 rfl ?_
                  refine zj_sipush dX2_readHouse_124 zsi_260 ?_
                  refine zj_cVI1 ml_X2_48 (fun a h => c_X3_take h_o1 h) h_o1 rfl (Nat.le_of_ble_eq_true rfl) (Nat.le_of_ble_eq_true rfl) dX2_readHouse_127 (fun r16 s15 => ?_)
                  refine zj_if_eq (tgt := 140) dX2_readHouse_130 (by decide) ?_ ?_
                  · refine zj_iconst dX2_readHouse_140 zic_0 ?_
                    exact zj_zret hr rfl dX2_readHouse_141
                  · refine zj_aload_n dX2_readHouse_133 rfl ?_
                    refine zj_cVI0 ml_X2_62 (fun a h => c_X3_takeName h_o1 h) h_o1 rfl (Nat.le_of_ble_eq_true rfl) (Nat.le_of_ble_eq_true rfl) dX2_readHouse_134 (fun r18 s17 => ?_)
                    refine zj_if_ne (tgt := 142) dX2_readHouse_137 (by decide) ?_ ?_
                    · refine zj_iconst dX2_readHouse_140 zic_0 ?_
                      exact zj_zret hr rfl dX2_readHouse_141
                    · refine zj_aload_n dX2_readHouse_142 rfl ?_
                      refine zj_getT dX2_readHouse_143 fl_X2_19 rfl h_o0 ?_
                      refine zj_aload_n dX2_readHouse_146 rfl ?_
                      refine zj_getI dX2_readHouse_147 fl_X2_9 rfl h_o0 ?_
                      refine zj_aload_n dX2_readHouse_150 rfl ?_
                      refine zj_getL dX2_readHouse_151 fl_X2_66 rfl h_o1 ?_
                      refine zj_last dX2_readHouse_154 (zt_2_2 _ h_o0) (fun s19 => ?_)
                      refine zj_aload_n dX2_readHouse_155 rfl ?_
                      refine zj_sipush dX2_readHouse_156 zsi_273 ?_
                      refine zj_cVI1 ml_X2_48 (fun a h => c_X3_take h_o1 h) h_o1 rfl (Nat.le_of_ble_eq_true rfl) (Nat.le_of_ble_eq_true rfl) dX2_readHouse_159 (fun r21 s20 => ?_)
                      refine zj_if_eq (tgt := 172) dX2_readHouse_162 (by decide) ?_ ?_
                      · refine zj_iconst dX2_readHouse_172 zic_0 ?_
                        exact zj_zret hr rfl dX2_readHouse_173
                      · refine zj_aload_n dX2_readHouse_165 rfl ?_
                        refine zj_cVI0 ml_X2_62 (fun a h => c_X3_takeName h_o1 h) h_o1 rfl (Nat.le_of_ble_eq_true rfl) (Nat.le_of_ble_eq_true rfl) dX2_readHouse_166 (fun r23 s22 => ?_)
                        refine zj_if_ne (tgt := 174) dX2_readHouse_169 (by decide) ?_ ?_
                        · refine zj_iconst dX2_readHouse_172 zic_0 ?_
                          exact zj_zret hr rfl dX2_readHouse_173
                        · refine zj_aload_n dX2_readHouse_174 rfl ?_
                          refine zj_getT dX2_readHouse_175 fl_X2_22 rfl h_o0 ?_
                          refine zj_aload_n dX2_readHouse_178 rfl ?_
                          refine zj_getI dX2_readHouse_179 fl_X2_9 rfl h_o0 ?_
                          refine zj_aload_n dX2_readHouse_182 rfl ?_
                          refine zj_getL dX2_readHouse_183 fl_X2_66 rfl h_o1 ?_
                          refine zj_last dX2_readHouse_186 (zt_2_3 _ h_o0) (fun s24 => ?_)
                          refine zj_aload_n dX2_readHouse_187 rfl ?_
                          refine zj_bipush dX2_readHouse_188 zbi_59 ?_
                          refine zj_cVI1 ml_X2_48 (fun a h => c_X3_take h_o1 h) h_o1 rfl (Nat.le_of_ble_eq_true rfl) (Nat.le_of_ble_eq_true rfl) dX2_readHouse_190 (fun r26 s25 => ?_)
                          exact zj_zretG hr dX2_readHouse_193
    · refine zj_aload_n dX2_readHouse_9 rfl ?_
      refine zj_iconst dX2_readHouse_10 zic_2 ?_
      refine zj_cVI1 ml_X2_44 (fun a h => c_X3_refuse h_o1 h) h_o1 rfl (Nat.le_of_ble_eq_true rfl) (Nat.le_of_ble_eq_true rfl) dX2_readHouse_11 (fun r28 s27 => ?_)
      exact zj_zretG hr dX2_readHouse_14) hm
def bd_X2_read_7 (o0 : Nat) (o1 : Nat) (rec7 : Int32 → zSt → Option (Int32 × zSt)) (l2 : Int32) (s : zSt) : Option (Int32 × zSt) :=
  (if 12 < l2 then
  some (0, s)
  else
  (if zI s o1 4 = 0 then
    some (1, s)
    else
    zcl (m_X2_readHouse o0 o1 s) (fun r3 s2 => (if r3 = 0 then
      some (0, s2)
      else
      zlt (zsI s2 o0 0 ((zI s2 o0 0) + 1)) (fun s4 => rec7 (l2 + 1) s4)))))
def lp_X2_read_7 (o0 : Nat) (o1 : Nat) : Nat → Int32 → zSt → Option (Int32 × zSt)
  | 0, _, _ => none
  | n + 1, l2, s => bd_X2_read_7 o0 o1 (fun l2 s => lp_X2_read_7 o0 o1 n l2 s) l2 s
set_option maxRecDepth 100000 in
theorem jb_X2_read_7 {o0 : Nat} {o1 : Nat} {rec7 : Int32 → zSt → Option (Int32 × zSt)} {l2 : Int32} {s : zSt} {w : zWC} {x : zCX} (hr : zrt x = (some .boolean))  (h_o0 : zC o0 = 2) (h_o1 : zC o1 = 3) (h_rec7 : ∀ (l2 : Int32) (s : zSt), zJ (zQf w x zeI) w x RX2 cX2_read 3 4 (rec7 l2 s) 7 [some (.ref (zb w + o0)), some (.ref (zb w + o1)), some (.int l2)] [] s) : zJ (zQf w x zeI) w x RX2 cX2_read 3 4 (bd_X2_read_7 o0 o1 rec7 l2 s) 7 [some (.ref (zb w + o0)), some (.ref (zb w + o1)), some (.int l2)] [] s := by
  unfold bd_X2_read_7
  refine zj_iload_n dX2_read_7 rfl ?_
  refine zj_bipush dX2_read_8 zbi_12 ?_
  refine zj_icmp_gt (tgt := 48) dX2_read_10 (by decide) ?_ ?_
  · refine zj_iconst dX2_read_48 zic_0 ?_
    exact zj_zret hr rfl dX2_read_49
  · refine zj_aload_n dX2_read_13 rfl ?_
    refine zj_getI dX2_read_14 fl_X2_35 rfl h_o1 ?_
    refine zj_if_ne (tgt := 22) dX2_read_17 (by decide) ?_ ?_
    · refine zj_iconst dX2_read_20 zic_1 ?_
      exact zj_zret hr rfl dX2_read_21
    · refine zj_aload_n dX2_read_22 rfl ?_
      refine zj_aload_n dX2_read_23 rfl ?_
      refine zj_cVI1 ml_X2_40 (fun a h => c_X2_readHouse h_o0 h_o1 h) h_o0 rfl (Nat.le_of_ble_eq_true rfl) (Nat.le_of_ble_eq_true rfl) dX2_read_24 (fun r3 s2 => ?_)
      refine zj_if_ne (tgt := 32) dX2_read_27 (by decide) ?_ ?_
      · refine zj_iconst dX2_read_30 zic_0 ?_
        exact zj_zret hr rfl dX2_read_31
      · refine zj_aload_n dX2_read_32 rfl ?_
        refine zj_dup dX2_read_33 rfl ?_
        refine zj_getI dX2_read_34 fl_X2_9 rfl h_o0 ?_
        refine zj_iconst dX2_read_37 zic_1 ?_
        refine zj_iadd dX2_read_38 ?_
        refine zj_putI dX2_read_39 fl_X2_9 rfl h_o0 pd_2_0 rfl rfl (fun s4 => ?_)
        refine zj_iinc (v2 := l2 + 1) (lv' := [some (.ref (zb w + o0)), some (.ref (zb w + o1)), some (.int (l2 + 1))]) dX2_read_42 rfl (by rw [zic_1]) (by decide) rfl rfl ?_
        refine zj_goto (tgt := 7) dX2_read_45 (by decide) ?_
        exact h_rec7 _ _
set_option maxRecDepth 100000 in
theorem jl_X2_read_7 {o0 : Nat} {o1 : Nat} {w : zWC} {x : zCX} (hr : zrt x = (some .boolean))  (h_o0 : zC o0 = 2) (h_o1 : zC o1 = 3) : ∀ (n : Nat) (l2 : Int32) (s : zSt), zJ (zQf w x zeI) w x RX2 cX2_read 3 4 (lp_X2_read_7 o0 o1 n l2 s) 7 [some (.ref (zb w + o0)), some (.ref (zb w + o1)), some (.int l2)] [] s := by
  intro n
  induction n with
  | zero => intro l2 s; exact zj_none
  | succ n ih => intro l2 s; exact jb_X2_read_7 hr h_o0 h_o1 (fun l2 s => ih l2 s)
def m_X2_read (o0 : Nat) (o1 : Nat) (s : zSt) : Option (Int32 × zSt) :=
  zlt (zsI s o0 0 0) (fun s1 => lp_X2_read_7 o0 o1 zFuel 0 s1)
set_option maxRecDepth 100000 in
theorem c_X2_read {w : zWC} {o0 : Nat} {o1 : Nat} {s : zSt} (h_o0 : zC o0 = 2) (h_o1 : zC o1 = 3) {a : Int32 × zSt} (hm : m_X2_read o0 o1 s = some a) : zCn w 4 yX2_read cX2_read 3 (some .boolean) [.ref (zb w + o0), .ref (zb w + o1)] s (zeI a).1 (zeI a).2 :=
  zCn_of (own := RX2) (lv := [some (.ref (zb w + o0)), some (.ref (zb w + o1)), none]) (by decide +kernel) rfl (Nat.le_of_ble_eq_true rfl) rfl (fun x hr => by
    unfold m_X2_read
    refine zj_aload_n dX2_read_0 rfl ?_
    refine zj_iconst dX2_read_1 zic_0 ?_
    refine zj_putI dX2_read_2 fl_X2_9 rfl h_o0 pd_2_0 rfl rfl (fun s1 => ?_)
    refine zj_iconst dX2_read_5 zic_0 ?_
    refine zj_istore_n (lv' := [some (.ref (zb w + o0)), some (.ref (zb w + o1)), some (.int 0)]) dX2_read_6 rfl (by decide) rfl rfl ?_
    exact jl_X2_read_7 hr h_o0 h_o1 zFuel _ _) hm
def bd_X2_more_16 (o0 : Nat) (rec16 : Int32 → Int32 → Int32 → zSt → Option (Int32 × zSt)) (k52 : Int32 → Int32 → zSt → Option (Int32 × zSt)) (l1 : Int32) (l2 : Int32) (l3 : Int32) (s : zSt) : Option (Int32 × zSt) :=
  (if l3 < zI s o0 0 then
  (if l3 < 0 ∨ zN (zT o0 4) ≤ Int32.toNatClampNeg l3 then none else zcl (m_J9_max_7cf53 l1 (zI s (zT o0 4) (Int32.toNatClampNeg l3)) s) (fun r2 s1 => (if l3 < 0 ∨ zN (zT o0 5) ≤ Int32.toNatClampNeg l3 then none else zcl (m_J9_min_7cf53 l2 (zI s1 (zT o0 5) (Int32.toNatClampNeg l3)) s1) (fun r4 s3 => rec16 r2 r4 (l3 + 1) s3))))
  else
  k52 l1 l2 s)
def lp_X2_more_16 (o0 : Nat) (k52 : Int32 → Int32 → zSt → Option (Int32 × zSt)) : Nat → Int32 → Int32 → Int32 → zSt → Option (Int32 × zSt)
  | 0, _, _, _, _ => none
  | n + 1, l1, l2, l3, s => bd_X2_more_16 o0 (fun l1 l2 l3 s => lp_X2_more_16 o0 k52 n l1 l2 l3 s) k52 l1 l2 l3 s
set_option maxRecDepth 100000 in
theorem jb_X2_more_16 {o0 : Nat} {rec16 : Int32 → Int32 → Int32 → zSt → Option (Int32 × zSt)} {k52 : Int32 → Int32 → zSt → Option (Int32 × zSt)} {l1 : Int32} {l2 : Int32} {l3 : Int32} {s : zSt} {w : zWC} {x : zCX} (hr : zrt x = (some .int))  (h_o0 : zC o0 = 2) (h_rec16 : ∀ (l1 : Int32) (l2 : Int32) (l3 : Int32) (s : zSt), zJ (zQf w x zeI) w x RX2 cX2_more 4 1 (rec16 l1 l2 l3 s) 16 [some (.ref (zb w + o0)), some (.int l1), some (.int l2), some (.int l3)] [] s) (h_k52 : ∀ (l1 : Int32) (l2 : Int32) (s : zSt), zJ (zQf w x zeI) w x RX2 cX2_more 4 1 (k52 l1 l2 s) 52 [none, some (.int l1), some (.int l2), none] [] s) : zJ (zQf w x zeI) w x RX2 cX2_more 4 1 (bd_X2_more_16 o0 rec16 k52 l1 l2 l3 s) 16 [some (.ref (zb w + o0)), some (.int l1), some (.int l2), some (.int l3)] [] s := by
  unfold bd_X2_more_16
  refine zj_iload_n dX2_more_16 rfl ?_
  refine zj_aload_n dX2_more_17 rfl ?_
  refine zj_getI dX2_more_18 fl_X2_9 rfl h_o0 ?_
  refine zj_icmp_ge (tgt := 52) dX2_more_21 (by decide) ?_ ?_
  · refine zj_iload_n dX2_more_24 rfl ?_
    refine zj_aload_n dX2_more_25 rfl ?_
    refine zj_getT dX2_more_26 fl_X2_25 rfl h_o0 ?_
    refine zj_iload_n dX2_more_29 rfl ?_
    refine zj_iald dX2_more_30 (zt_2_4 _ h_o0) ?_
    refine zj_cSI2 ml_X2_70 (fun a h => c_J9_max_7cf53  h) (Nat.le_of_ble_eq_true rfl) (Nat.le_of_ble_eq_true rfl) dX2_more_31 (fun r2 s1 => ?_)
    refine zj_istore_n (lv' := [some (.ref (zb w + o0)), some (.int r2), some (.int l2), some (.int l3)]) dX2_more_34 rfl (by decide) rfl rfl ?_
    refine zj_iload_n dX2_more_35 rfl ?_
    refine zj_aload_n dX2_more_36 rfl ?_
    refine zj_getT dX2_more_37 fl_X2_29 rfl h_o0 ?_
    refine zj_iload_n dX2_more_40 rfl ?_
    refine zj_iald dX2_more_41 (zt_2_5 _ h_o0) ?_
    refine zj_cSI2 ml_X2_76 (fun a h => c_J9_min_7cf53  h) (Nat.le_of_ble_eq_true rfl) (Nat.le_of_ble_eq_true rfl) dX2_more_42 (fun r4 s3 => ?_)
    refine zj_istore_n (lv' := [some (.ref (zb w + o0)), some (.int r2), some (.int r4), some (.int l3)]) dX2_more_45 rfl (by decide) rfl rfl ?_
    refine zj_iinc (v2 := l3 + 1) (lv' := [some (.ref (zb w + o0)), some (.int r2), some (.int r4), some (.int (l3 + 1))]) dX2_more_46 rfl (by rw [zic_1]) (by decide) rfl rfl ?_
    refine zj_goto (tgt := 16) dX2_more_49 (by decide) ?_
    exact h_rec16 _ _ _ _
  · refine zj_weak [false, true, true, false] rfl ?_
    exact h_k52 _ _ _
set_option maxRecDepth 100000 in
theorem jl_X2_more_16 {o0 : Nat} {k52 : Int32 → Int32 → zSt → Option (Int32 × zSt)} {w : zWC} {x : zCX} (hr : zrt x = (some .int))  (h_o0 : zC o0 = 2) (h_k52 : ∀ (l1 : Int32) (l2 : Int32) (s : zSt), zJ (zQf w x zeI) w x RX2 cX2_more 4 1 (k52 l1 l2 s) 52 [none, some (.int l1), some (.int l2), none] [] s) : ∀ (n : Nat) (l1 : Int32) (l2 : Int32) (l3 : Int32) (s : zSt), zJ (zQf w x zeI) w x RX2 cX2_more 4 1 (lp_X2_more_16 o0 k52 n l1 l2 l3 s) 16 [some (.ref (zb w + o0)), some (.int l1), some (.int l2), some (.int l3)] [] s := by
  intro n
  induction n with
  | zero => intro l1 l2 l3 s; exact zj_none
  | succ n ih => intro l1 l2 l3 s; exact jb_X2_more_16 hr h_o0 (fun l1 l2 l3 s => ih l1 l2 l3 s) h_k52
def m_X2_more (o0 : Nat) (s : zSt) : Option (Int32 × zSt) :=
  (if (0 : Int32) < 0 ∨ zN (zT o0 4) ≤ Int32.toNatClampNeg 0 then none else (if (0 : Int32) < 0 ∨ zN (zT o0 5) ≤ Int32.toNatClampNeg 0 then none else lp_X2_more_16 o0 (fun l1_5 l2_5 s_5 => zcl (m_J9_max_7cf53 0 (((l1_5 - l2_5) + 1) >>> ((1 : Int32) &&& 31)) s_5) (fun r7 s6 => some (r7, s6))) zFuel (zI s (zT o0 4) (Int32.toNatClampNeg 0)) (zI s (zT o0 5) (Int32.toNatClampNeg 0)) 1 s))
set_option maxRecDepth 100000 in
theorem c_X2_more {w : zWC} {o0 : Nat} {s : zSt} (h_o0 : zC o0 = 2) {a : Int32 × zSt} (hm : m_X2_more o0 s = some a) : zCn w 1 yX2_more cX2_more 4 (some .int) [.ref (zb w + o0)] s (zeI a).1 (zeI a).2 :=
  zCn_of (own := RX2) (lv := [some (.ref (zb w + o0)), none, none, none]) (by decide +kernel) rfl (Nat.le_of_ble_eq_true rfl) rfl (fun x hr => by
    unfold m_X2_more
    refine zj_aload_n dX2_more_0 rfl ?_
    refine zj_getT dX2_more_1 fl_X2_25 rfl h_o0 ?_
    refine zj_iconst dX2_more_4 zic_0 ?_
    refine zj_iald dX2_more_5 (zt_2_4 _ h_o0) ?_
    refine zj_istore_n (lv' := [some (.ref (zb w + o0)), some (.int (zI s (zT o0 4) (Int32.toNatClampNeg 0))), none, none]) dX2_more_6 rfl (by decide) rfl rfl ?_
    refine zj_aload_n dX2_more_7 rfl ?_
    refine zj_getT dX2_more_8 fl_X2_29 rfl h_o0 ?_
    refine zj_iconst dX2_more_11 zic_0 ?_
    refine zj_iald dX2_more_12 (zt_2_5 _ h_o0) ?_
    refine zj_istore_n (lv' := [some (.ref (zb w + o0)), some (.int (zI s (zT o0 4) (Int32.toNatClampNeg 0))), some (.int (zI s (zT o0 5) (Int32.toNatClampNeg 0))), none]) dX2_more_13 rfl (by decide) rfl rfl ?_
    refine zj_iconst dX2_more_14 zic_1 ?_
    refine zj_istore_n (lv' := [some (.ref (zb w + o0)), some (.int (zI s (zT o0 4) (Int32.toNatClampNeg 0))), some (.int (zI s (zT o0 5) (Int32.toNatClampNeg 0))), some (.int 1)]) dX2_more_15 rfl (by decide) rfl rfl ?_
    refine jl_X2_more_16 hr h_o0 (fun l1_5 l2_5 s_5 => ?_) zFuel _ _ _ _
    refine zj_iconst dX2_more_52 zic_0 ?_
    refine zj_iload_n dX2_more_53 rfl ?_
    refine zj_iload_n dX2_more_54 rfl ?_
    refine zj_isub dX2_more_55 ?_
    refine zj_iconst dX2_more_56 zic_1 ?_
    refine zj_iadd dX2_more_57 ?_
    refine zj_iconst dX2_more_58 zic_1 ?_
    refine zj_ishr dX2_more_59 ?_
    refine zj_cSI2 ml_X2_70 (fun a h => c_J9_max_7cf53  h) (Nat.le_of_ble_eq_true rfl) (Nat.le_of_ble_eq_true rfl) dX2_more_60 (fun r7 s6 => ?_)
    exact zj_iret hr dX2_more_63) hm
