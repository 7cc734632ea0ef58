theorem ml_J0_335 : zMV RJ0 335 RJ0 yJ0_coder_7d493 cJ0_coder_7d493 1 (some .byte) 0 := ⟨zmem 121 (by decide +kernel) rfl, zmem 122 (by decide +kernel) rfl, zmem 123 (by decide +kernel) rfl, zmem 71 (by decide +kernel) rfl, zmem 124 (by decide +kernel) rfl, by decide +kernel, by decide⟩
theorem ml_J0_492 : zMV RJ0 492 RJ0 yJ0_isLatin1_aae02 cJ0_isLatin1_aae02 1 (some .boolean) 0 := ⟨zmem 131 (by decide +kernel) rfl, zmem 132 (by decide +kernel) rfl, zmem 133 (by decide +kernel) rfl, zmem 71 (by decide +kernel) rfl, zmem 134 (by decide +kernel) rfl, by decide +kernel, by decide⟩
theorem ml_J0_495 : zMS RJ0 495 yJ1_charAt_3b067 cJ1_charAt_3b067 2 (some .char) 2 := ⟨zmem 135 (by decide +kernel) rfl, zmem 136 (by decide +kernel) rfl, zmem 72 (by decide +kernel) rfl, zmem 137 (by decide +kernel) rfl, by decide +kernel, by decide⟩
theorem ml_J1_9 : zMS RJ1 9 yJ0_checkIndex_df160 cJ0_checkIndex_df160 2 none 2 := ⟨zmem 138 (by decide +kernel) rfl, zmem 139 (by decide +kernel) rfl, zmem 71 (by decide +kernel) rfl, zmem 140 (by decide +kernel) rfl, by decide +kernel, by decide⟩
theorem ml_J0_1059 : zMS RJ0 1059 yJ3_checkIndex_8e157 cJ3_checkIndex_8e157 3 (some .int) 3 := ⟨zmem 143 (by decide +kernel) rfl, zmem 144 (by decide +kernel) rfl, zmem 73 (by decide +kernel) rfl, zmem 145 (by decide +kernel) rfl, by decide +kernel, by decide⟩
theorem ml_X3_28 : zMV RX3 28 RJ0 yJ0_length_8abf5 cJ0_length_8abf5 1 (some .int) 0 := ⟨zmem 117 (by decide +kernel) rfl, zmem 118 (by decide +kernel) rfl, zmem 119 (by decide +kernel) rfl, zmem 71 (by decide +kernel) rfl, zmem 120 (by decide +kernel) rfl, by decide +kernel, by decide⟩
theorem ml_X3_34 : zMV RX3 34 RJ0 yJ0_charAt_5068e cJ0_charAt_5068e 2 (some .char) 1 := ⟨zmem 127 (by decide +kernel) rfl, zmem 128 (by decide +kernel) rfl, zmem 129 (by decide +kernel) rfl, zmem 71 (by decide +kernel) rfl, zmem 130 (by decide +kernel) rfl, by decide +kernel, by decide⟩
set_option maxRecDepth 100000 in
theorem cp_coder {w : zWC} {t : Nat × Nat}  : zCp w t 0 yJ0_coder_7d493 cJ0_coder_7d493 1 (some .byte) [.ref t.1] (some (.int 0)) :=
  zCp_of (own := RJ0) (lv := [some (.ref t.1)]) (by decide +kernel) rfl (Nat.le_of_ble_eq_true rfl) rfl (fun x hr => by
    refine zg_compact dJ0_coder_7d493_0 (zmem 125 (by decide +kernel) rfl) ?_
    refine zg_if_eq (tgt := 13) dJ0_coder_7d493_3 (by decide) (fun h => absurd h (by decide)) (fun _ => ?_)
    refine zg_aload_n dJ0_coder_7d493_6 rfl ?_
    refine zg_coder dJ0_coder_7d493_7 (zmem 1428 (by decide +kernel) rfl) ?_
    refine zg_goto (tgt := 14) dJ0_coder_7d493_10 (by decide) ?_
    exact zg_pret hr rfl dJ0_coder_7d493_14)
set_option maxRecDepth 100000 in
theorem cp_isLatin1 {w : zWC} {t : Nat × Nat}  : zCp w t 0 yJ0_isLatin1_aae02 cJ0_isLatin1_aae02 1 (some .boolean) [.ref t.1] (some (.int 1)) :=
  zCp_of (own := RJ0) (lv := [some (.ref t.1)]) (by decide +kernel) rfl (Nat.le_of_ble_eq_true rfl) rfl (fun x hr => by
    refine zg_compact dJ0_isLatin1_aae02_0 (zmem 125 (by decide +kernel) rfl) ?_
    refine zg_if_eq (tgt := 17) dJ0_isLatin1_aae02_3 (by decide) (fun h => absurd h (by decide)) (fun _ => ?_)
    refine zg_aload_n dJ0_isLatin1_aae02_6 rfl ?_
    refine zg_coder dJ0_isLatin1_aae02_7 (zmem 1428 (by decide +kernel) rfl) ?_
    refine zg_if_ne (tgt := 17) dJ0_isLatin1_aae02_10 (by decide) (fun h => absurd rfl h) (fun _ => ?_)
    refine zg_iconst dJ0_isLatin1_aae02_13 zic_1 ?_
    refine zg_goto (tgt := 18) dJ0_isLatin1_aae02_14 (by decide) ?_
    exact zg_pret hr rfl dJ0_isLatin1_aae02_18)
set_option maxRecDepth 100000 in
theorem cp_length {w : zWC} {t : Nat × Nat}  : zCp w t 1 yJ0_length_8abf5 cJ0_length_8abf5 1 (some .int) [.ref t.1] (some (.int 106)) :=
  zCp_of (own := RJ0) (lv := [some (.ref t.1)]) (by decide +kernel) rfl (Nat.le_of_ble_eq_true rfl) rfl (fun x hr => by
    refine zg_aload_n dJ0_length_8abf5_0 rfl ?_
    refine zg_value dJ0_length_8abf5_1 (zmem 1427 (by decide +kernel) rfl) ?_
    refine zg_tlen dJ0_length_8abf5_4 ?_
    refine zg_aload_n dJ0_length_8abf5_5 rfl ?_
    refine zg_callPV (As := []) (st := [.int 106]) ml_J0_335 cp_coder (Nat.le_refl _) rfl rfl (Nat.le_of_ble_eq_true rfl) (Nat.zero_le _) (Nat.zero_le _) dJ0_length_8abf5_6 ?_
    refine zg_ishr dJ0_length_8abf5_9 ?_
    exact zg_pret hr rfl dJ0_length_8abf5_10)
theorem zby_lt (i : Int32) (h : vp_in i 106) : ¬ i < 0 ∧ i < 106 := by
  obtain ⟨h1, h2⟩ := vp_in_iff.mp h
  rw [Int32.lt_iff_toInt_lt, Int32.lt_iff_toInt_lt]
  have e0 : (0 : Int32).toInt = 0 := rfl
  have e1 : (106 : Int32).toInt = 106 := rfl
  omega
set_option maxRecDepth 100000 in
theorem cp_pcheck {w : zWC} {t : Nat × Nat} {i : Int32} {v : Value} (hv : v.category = 1) (hi : vp_in i 106) : zCp w t 0 yJ3_checkIndex_8e157 cJ3_checkIndex_8e157 3 (some .int) [.int i, .int 106, v] (some (.int i)) :=
  zCp_of (own := RJ3) (lv := [some (.int i), some (.int 106), some v]) (by decide +kernel) rfl (by cases v <;> first | exact Nat.le_of_ble_eq_true rfl | cases hv) (by cases v <;> first | rfl | cases hv) (fun x hr => by
    refine zg_iload_n dJ3_checkIndex_8e157_0 rfl ?_
    refine zg_if_lt (tgt := 9) dJ3_checkIndex_8e157_1 (by decide) (fun h => absurd h (zby_lt i hi).1) (fun _ => ?_)
    refine zg_iload_n dJ3_checkIndex_8e157_4 rfl ?_
    refine zg_iload_n dJ3_checkIndex_8e157_5 rfl ?_
    refine zg_icmp_lt (tgt := 16) dJ3_checkIndex_8e157_6 (by decide) (fun _ => ?_) (fun h => absurd (zby_lt i hi).2 h)
    refine zg_iload_n dJ3_checkIndex_8e157_16 rfl ?_
    exact zg_pret hr rfl dJ3_checkIndex_8e157_17)
set_option maxRecDepth 100000 in
theorem cp_scheck {w : zWC} {t : Nat × Nat} {i : Int32} (hi : vp_in i 106) : zCp w t 1 yJ0_checkIndex_df160 cJ0_checkIndex_df160 2 none [.int i, .int 106] none :=
  zCp_of (own := RJ0) (lv := [some (.int i), some (.int 106)]) (by decide +kernel) rfl (Nat.le_of_ble_eq_true rfl) rfl (fun x hr => by
    refine zg_iload_n dJ0_checkIndex_df160_0 rfl ?_
    refine zg_iload_n dJ0_checkIndex_df160_1 rfl ?_
    refine zg_form dJ0_checkIndex_df160_2 (zmem 141 (by decide +kernel) rfl) (fun v hv => ?_)
    refine zg_callPS (As := [.int i, .int 106, v]) (st := []) ml_J0_1059 (cp_pcheck hv hi) (Nat.le_refl _) rfl rfl (Nat.le_of_ble_eq_true rfl) (Nat.zero_le _) (Nat.zero_le _) dJ0_checkIndex_df160_5 ?_
    refine zg_pop dJ0_checkIndex_df160_8 rfl ?_
    exact zg_pvret hr dJ0_checkIndex_df160_9)
theorem zby_c (j : Nat) : (((zby j) &&& 255).toUInt32 % 65536).toInt32 = zby j := by
  rcases Nat.lt_or_ge j 106 with h | h
  · exact of_decide_eq_true (List.all_eq_true.mp (show (List.range 106).all (fun j => decide ((((zby j) &&& 255).toUInt32 % 65536).toInt32 = zby j)) = true by decide +kernel) j (List.mem_range.mpr h))
  · have : zby j = 0 := by
      unfold zby
      rw [List.getD_eq_getElem?_getD, List.getElem?_eq_none (by simpa using h)]
      rfl
    rw [this]
    rfl
theorem zby_n (j : Nat) : narrow .char (.int (zby j)) = .int (zby j) := by
  rw [← zby_c j]
  exact pk_nc _
set_option maxRecDepth 100000 in
theorem cp_lcharAt {w : zWC} {t : Nat × Nat} {i : Int32} (hi : vp_in i 106) : zCp w t 2 yJ1_charAt_3b067 cJ1_charAt_3b067 2 (some .char) [.ref t.2, .int i] (some (.int (zby i.toNatClampNeg))) :=
  zCp_of (own := RJ1) (lv := [some (.ref t.2), some (.int i)]) (by decide +kernel) rfl (Nat.le_of_ble_eq_true rfl) rfl (fun x hr => by
    refine zg_iload_n dJ1_charAt_3b067_0 rfl ?_
    refine zg_aload_n dJ1_charAt_3b067_1 rfl ?_
    refine zg_tlen dJ1_charAt_3b067_2 ?_
    refine zg_callPS (As := [.int i, .int 106]) (st := []) ml_J1_9 (cp_scheck hi) (Nat.le_refl _) rfl rfl (Nat.le_of_ble_eq_true rfl) (Nat.zero_le _) (Nat.zero_le _) dJ1_charAt_3b067_3 ?_
    refine zg_aload_n dJ1_charAt_3b067_6 rfl ?_
    refine zg_iload_n dJ1_charAt_3b067_7 rfl ?_
    refine zg_tbald dJ1_charAt_3b067_8 hi ?_
    refine zg_sipush dJ1_charAt_3b067_9 zsi_255 ?_
    refine zg_iand dJ1_charAt_3b067_12 ?_
    refine zg_i2c dJ1_charAt_3b067_13 ?_
    rw [zby_c]
    exact zg_pret hr (zby_n _) dJ1_charAt_3b067_14)
set_option maxRecDepth 100000 in
theorem cp_charAt {w : zWC} {t : Nat × Nat} {i : Int32} (hi : vp_in i 106) : zCp w t 3 yJ0_charAt_5068e cJ0_charAt_5068e 2 (some .char) [.ref t.1, .int i] (some (.int (zby i.toNatClampNeg))) :=
  zCp_of (own := RJ0) (lv := [some (.ref t.1), some (.int i)]) (by decide +kernel) rfl (Nat.le_of_ble_eq_true rfl) rfl (fun x hr => by
    refine zg_aload_n dJ0_charAt_5068e_0 rfl ?_
    refine zg_callPV (As := []) (st := []) ml_J0_492 cp_isLatin1 (Nat.le_of_ble_eq_true rfl) rfl rfl (Nat.le_of_ble_eq_true rfl) (Nat.zero_le _) (Nat.zero_le _) dJ0_charAt_5068e_1 ?_
    refine zg_if_eq (tgt := 16) dJ0_charAt_5068e_4 (by decide) (fun h => absurd h (by decide)) (fun _ => ?_)
    refine zg_aload_n dJ0_charAt_5068e_7 rfl ?_
    refine zg_value dJ0_charAt_5068e_8 (zmem 1427 (by decide +kernel) rfl) ?_
    refine zg_iload_n dJ0_charAt_5068e_11 rfl ?_
    refine zg_callPS (As := [.ref t.2, .int i]) (st := []) ml_J0_495 (cp_lcharAt hi) (Nat.le_refl _) rfl rfl (Nat.le_of_ble_eq_true rfl) (Nat.zero_le _) (Nat.zero_le _) dJ0_charAt_5068e_12 ?_
    exact zg_pret hr (zby_n _) dJ0_charAt_5068e_15)
def bd_X9_plain_2 (o0 : Nat) (rec2 : Int32 → zSt → Option (zSt)) (l1 : Int32) (s : zSt) : Option (zSt) :=
  (if l1 < 11 then
  zcl (m_X9_plainOf l1 s) (fun r2 s1 => (if l1 < 0 ∨ zN (zT o0 12) ≤ Int32.toNatClampNeg l1 then none else zlt (zsI s1 (zT o0 12) (Int32.toNatClampNeg l1) r2) (fun s3 => rec2 (l1 + 1) s3)))
  else
  some s)
def lp_X9_plain_2 (o0 : Nat) : Nat → Int32 → zSt → Option (zSt)
  | 0, _, _ => none
  | n + 1, l1, s => bd_X9_plain_2 o0 (fun l1 s => lp_X9_plain_2 o0 n l1 s) l1 s
set_option maxRecDepth 100000 in
theorem jb_X9_plain_2 {o0 : Nat} {rec2 : Int32 → zSt → Option (zSt)} {l1 : Int32} {s : zSt} {w : zWC} {x : zCX} (hr : zrt x = none)  (h_o0 : zC o0 = 9) (h_rec2 : ∀ (l1 : Int32) (s : zSt), zJ (zQf w x zeV) w x RX9 cX9_plain 2 1 (rec2 l1 s) 2 [some (.ref (zb w + o0)), some (.int l1)] [] s) : zJ (zQf w x zeV) w x RX9 cX9_plain 2 1 (bd_X9_plain_2 o0 rec2 l1 s) 2 [some (.ref (zb w + o0)), some (.int l1)] [] s := by
  unfold bd_X9_plain_2
  refine zj_iload_n dX9_plain_2 rfl ?_
  refine zj_bipush dX9_plain_3 zbi_11 ?_
  refine zj_icmp_ge (tgt := 24) dX9_plain_5 (by decide) ?_ ?_
  · refine zj_aload_n dX9_plain_8 rfl ?_
    refine zj_getT dX9_plain_9 fl_X9_20 rfl h_o0 ?_
    refine zj_iload_n dX9_plain_12 rfl ?_
    refine zj_iload_n dX9_plain_13 rfl ?_
    refine zj_cSI1 ml_X9_249 (fun a h => c_X9_plainOf  h) (Nat.le_of_ble_eq_true rfl) (Nat.le_of_ble_eq_true rfl) dX9_plain_14 (fun r2 s1 => ?_)
    refine zj_iast dX9_plain_17 (zt_9_12 _ h_o0) (fun s3 => ?_)
    refine zj_iinc (v2 := l1 + 1) (lv' := [some (.ref (zb w + o0)), some (.int (l1 + 1))]) dX9_plain_18 rfl (by rw [zic_1]) (by decide) rfl rfl ?_
    refine zj_goto (tgt := 2) dX9_plain_21 (by decide) ?_
    exact h_rec2 _ _
  · exact zj_vret hr dX9_plain_24
set_option maxRecDepth 100000 in
theorem jl_X9_plain_2 {o0 : Nat} {w : zWC} {x : zCX} (hr : zrt x = none)  (h_o0 : zC o0 = 9) : ∀ (n : Nat) (l1 : Int32) (s : zSt), zJ (zQf w x zeV) w x RX9 cX9_plain 2 1 (lp_X9_plain_2 o0 n l1 s) 2 [some (.ref (zb w + o0)), some (.int l1)] [] s := by
  intro n
  induction n with
  | zero => intro l1 s; exact zj_none
  | succ n ih => intro l1 s; exact jb_X9_plain_2 hr h_o0 (fun l1 s => ih l1 s)
def m_X9_plain (o0 : Nat) (s : zSt) : Option (zSt) :=
  lp_X9_plain_2 o0 zFuel 0 s
set_option maxRecDepth 100000 in
theorem c_X9_plain {w : zWC} {o0 : Nat} {s : zSt} (h_o0 : zC o0 = 9) {a : zSt} (hm : m_X9_plain o0 s = some a) : zCn w 1 yX9_plain cX9_plain 2 none [.ref (zb w + o0)] s (zeV a).1 (zeV a).2 :=
  zCn_of (own := RX9) (lv := [some (.ref (zb w + o0)), none]) (by decide +kernel) rfl (Nat.le_of_ble_eq_true rfl) rfl (fun x hr => by
    unfold m_X9_plain
    refine zj_iconst dX9_plain_0 zic_0 ?_
    refine zj_istore_n (lv' := [some (.ref (zb w + o0)), some (.int 0)]) dX9_plain_1 rfl (by decide) rfl rfl ?_
    exact jl_X9_plain_2 hr h_o0 zFuel _ _) hm
