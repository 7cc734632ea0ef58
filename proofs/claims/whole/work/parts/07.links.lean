theorem zic_0 : Int32.ofInt (0) = 0 := by decide
theorem zn_0 : ∀ o : Nat, zC o = 0 → zN o = 8 := zN_cls (fun o => zC o != 0 || zN o == 8) (by decide +kernel) (fun o h h2 => by simpa [h2] using h)
theorem zin_0 : ∀ q ∈ u_ws RX0 TX0 8, q ∈ ztb := zuws [239, 241, 243, 245, 247, 249, 251, 253] (by decide +kernel) (by decide +kernel)
theorem fl_X0_9 : zFL RX0 9 0 0 := ⟨by decide, RX0, TX0, 8, tyX0, rfl, by decide, zmem 229 (by decide +kernel) rfl, zin_0, tyX0_ok, nmX0, zn_0⟩
theorem pd_0_0 : ∀ C T N, vwCl[0]? = some (C, T, N) → (T 0).2.2.2 = false ∧ parseFieldDescriptor (T 0).2.2.1 = some (.int) := by
  intro C T N h
  have h : some (RX0, TX0, 8) = some (C, T, N) := h
  cases h
  exact ⟨rfl, by decide +kernel⟩
theorem fl_X0_15 : zFL RX0 15 0 1 := ⟨by decide, RX0, TX0, 8, tyX0, rfl, by decide, zmem 231 (by decide +kernel) rfl, zin_0, tyX0_ok, nmX0, zn_0⟩
theorem pd_0_1 : ∀ C T N, vwCl[0]? = some (C, T, N) → (T 1).2.2.2 = false ∧ parseFieldDescriptor (T 1).2.2.1 = some (.int) := by
  intro C T N h
  have h : some (RX0, TX0, 8) = some (C, T, N) := h
  cases h
  exact ⟨rfl, by decide +kernel⟩
theorem fl_X0_33 : zFL RX0 33 0 6 := ⟨by decide, RX0, TX0, 8, tyX0, rfl, by decide, zmem 237 (by decide +kernel) rfl, zin_0, tyX0_ok, nmX0, zn_0⟩
theorem pd_0_6 : ∀ C T N, vwCl[0]? = some (C, T, N) → (T 6).2.2.2 = false ∧ parseFieldDescriptor (T 6).2.2.1 = some (.int) := by
  intro C T N h
  have h : some (RX0, TX0, 8) = some (C, T, N) := h
  cases h
  exact ⟨rfl, by decide +kernel⟩
theorem fl_X0_36 : zFL RX0 36 0 7 := ⟨by decide, RX0, TX0, 8, tyX0, rfl, by decide, zmem 238 (by decide +kernel) rfl, zin_0, tyX0_ok, nmX0, zn_0⟩
theorem pd_0_7 : ∀ C T N, vwCl[0]? = some (C, T, N) → (T 7).2.2.2 = false ∧ parseFieldDescriptor (T 7).2.2.1 = some (.int) := by
  intro C T N h
  have h : some (RX0, TX0, 8) = some (C, T, N) := h
  cases h
  exact ⟨rfl, by decide +kernel⟩
theorem zic_1 : Int32.ofInt (1) = 1 := by decide
theorem zn_3 : ∀ o : Nat, zC o = 3 → zN o = 12 := zN_cls (fun o => zC o != 3 || zN o == 12) (by decide +kernel) (fun o h h2 => by simpa [h2] using h)
theorem zin_3 : ∀ q ∈ u_ws RX3 TX3 12, q ∈ ztb := zuws [191, 193, 195, 197, 199, 201, 203, 205, 207, 209, 211, 213] (by decide +kernel) (by decide +kernel)
theorem fl_X3_40 : zFL RX3 40 3 2 := ⟨by decide, RX3, TX3, 12, tyX3, rfl, by decide, zmem 168 (by decide +kernel) rfl, zin_3, tyX3_ok, nmX3, zn_3⟩
theorem fl_X3_44 : zFL RX3 44 3 3 := ⟨by decide, RX3, TX3, 12, tyX3, rfl, by decide, zmem 169 (by decide +kernel) rfl, zin_3, tyX3_ok, nmX3, zn_3⟩
theorem fl_X3_9 : zFL RX3 9 3 0 := ⟨by decide, RX3, TX3, 12, tyX3, rfl, by decide, zmem 166 (by decide +kernel) rfl, zin_3, tyX3_ok, nmX3, zn_3⟩
theorem zn_7 : ∀ o : Nat, zC o = 7 → zN o = 2 := zN_cls (fun o => zC o != 7 || zN o == 2) (by decide +kernel) (fun o h h2 => by simpa [h2] using h)
theorem zin_7 : ∀ q ∈ u_ws RX7 TX7 2, q ∈ ztb := zuws [104, 106] (by decide +kernel) (by decide +kernel)
theorem fl_X3_50 : zFL RX3 50 7 1 := ⟨by decide, RX7, TX7, 2, tyX7, rfl, by decide, zmem 103 (by decide +kernel) rfl, zin_7, tyX7_ok, nmX7, zn_7⟩
theorem fl_X3_54 : zFL RX3 54 7 0 := ⟨by decide, RX7, TX7, 2, tyX7, rfl, by decide, zmem 100 (by decide +kernel) rfl, zin_7, tyX7_ok, nmX7, zn_7⟩
theorem zbi_48 : (Int8.ofInt (48)).toInt32 = 48 := by decide
theorem zbi_57 : (Int8.ofInt (57)).toInt32 = 57 := by decide
theorem zbi_10 : (Int8.ofInt (10)).toInt32 = 10 := by decide
theorem pd_3_3 : ∀ C T N, vwCl[3]? = some (C, T, N) → (T 3).2.2.2 = false ∧ parseFieldDescriptor (T 3).2.2.1 = some (.int) := by
  intro C T N h
  have h : some (RX3, TX3, 12) = some (C, T, N) := h
  cases h
  exact ⟨rfl, by decide +kernel⟩
theorem zbi_97 : (Int8.ofInt (97)).toInt32 = 97 := by decide
theorem fl_X3_78 : zFL RX3 78 3 6 := ⟨by decide, RX3, TX3, 12, tyX3, rfl, by decide, zmem 177 (by decide +kernel) rfl, zin_3, tyX3_ok, nmX3, zn_3⟩
theorem pd_3_6 : ∀ C T N, vwCl[3]? = some (C, T, N) → (T 6).2.2.2 = false ∧ parseFieldDescriptor (T 6).2.2.1 = some (.int) := by
  intro C T N h
  have h : some (RX3, TX3, 12) = some (C, T, N) := h
  cases h
  exact ⟨rfl, by decide +kernel⟩
theorem fl_X3_58 : zFL RX3 58 3 5 := ⟨by decide, RX3, TX3, 12, tyX3, rfl, by decide, zmem 175 (by decide +kernel) rfl, zin_3, tyX3_ok, nmX3, zn_3⟩
theorem zic_4 : Int32.ofInt (4) = 4 := by decide
theorem fl_X3_61 : zFL RX3 61 3 4 := ⟨by decide, RX3, TX3, 12, tyX3, rfl, by decide, zmem 173 (by decide +kernel) rfl, zin_3, tyX3_ok, nmX3, zn_3⟩
theorem pd_3_4 : ∀ C T N, vwCl[3]? = some (C, T, N) → (T 4).2.2.2 = false ∧ parseFieldDescriptor (T 4).2.2.1 = some (.int) := by
  intro C T N h
  have h : some (RX3, TX3, 12) = some (C, T, N) := h
  cases h
  exact ⟨rfl, by decide +kernel⟩
theorem zic_3 : Int32.ofInt (3) = 3 := by decide
theorem zbi_122 : (Int8.ofInt (122)).toInt32 = 122 := by decide
theorem kcL_X3_38 : Cond.constantLong RX3 38 (27) ∈ ztb := zmem 165 (by decide +kernel) rfl
theorem zbi_8 : (Int8.ofInt (8)).toInt32 = 8 := by decide
theorem fl_X3_74 : zFL RX3 74 3 7 := ⟨by decide, RX3, TX3, 12, tyX3, rfl, by decide, zmem 179 (by decide +kernel) rfl, zin_3, tyX3_ok, nmX3, zn_3⟩
theorem pd_3_7 : ∀ C T N, vwCl[3]? = some (C, T, N) → (T 7).2.2.2 = false ∧ parseFieldDescriptor (T 7).2.2.1 = some (.long) := by
  intro C T N h
  have h : some (RX3, TX3, 12) = some (C, T, N) := h
  cases h
  exact ⟨rfl, by decide +kernel⟩
theorem zic_2 : Int32.ofInt (2) = 2 := by decide
theorem zbi_20 : (Int8.ofInt (20)).toInt32 = 20 := by decide
theorem fl_X3_15 : zFL RX3 15 3 1 := ⟨by decide, RX3, TX3, 12, tyX3, rfl, by decide, zmem 167 (by decide +kernel) rfl, zin_3, tyX3_ok, nmX3, zn_3⟩
theorem zsi_256 : (Int16.ofInt (256)).toInt32 = 256 := by decide
theorem zbi_32 : (Int8.ofInt (32)).toInt32 = 32 := by decide
theorem pd_3_5 : ∀ C T N, vwCl[3]? = some (C, T, N) → (T 5).2.2.2 = false ∧ parseFieldDescriptor (T 5).2.2.1 = some (.int) := by
  intro C T N h
  have h : some (RX3, TX3, 12) = some (C, T, N) := h
  cases h
  exact ⟨rfl, by decide +kernel⟩
theorem ml_X3_70 : zMV RX3 70 RX3 yX3_isSign cX3_isSign 2 (some .boolean) 1 := ⟨zmem 478 (by decide +kernel) rfl, zmem 480 (by decide +kernel) rfl, zmem 2 (by decide +kernel) rfl, zmem 70 (by decide +kernel) rfl, zmem 481 (by decide +kernel) rfl, by decide +kernel, by decide⟩
theorem ml_X3_67 : zMV RX3 67 RX3 yX3_readNumber cX3_readNumber 3 none 0 := ⟨zmem 474 (by decide +kernel) rfl, zmem 476 (by decide +kernel) rfl, zmem 1 (by decide +kernel) rfl, zmem 70 (by decide +kernel) rfl, zmem 477 (by decide +kernel) rfl, by decide +kernel, by decide⟩
theorem ml_X3_64 : zMV RX3 64 RX3 yX3_readWord cX3_readWord 4 none 0 := ⟨zmem 470 (by decide +kernel) rfl, zmem 472 (by decide +kernel) rfl, zmem 0 (by decide +kernel) rfl, zmem 70 (by decide +kernel) rfl, zmem 473 (by decide +kernel) rfl, by decide +kernel, by decide⟩
theorem fl_X3_19 : zFL RX3 19 3 10 := ⟨by decide, RX3, TX3, 12, tyX3, rfl, by decide, zmem 187 (by decide +kernel) rfl, zin_3, tyX3_ok, nmX3, zn_3⟩
theorem pd_3_10 : ∀ C T N, vwCl[3]? = some (C, T, N) → (T 10).2.2.2 = false ∧ parseFieldDescriptor (T 10).2.2.1 = some (.int) := by
  intro C T N h
  have h : some (RX3, TX3, 12) = some (C, T, N) := h
  cases h
  exact ⟨rfl, by decide +kernel⟩
theorem fl_X3_23 : zFL RX3 23 3 11 := ⟨by decide, RX3, TX3, 12, tyX3, rfl, by decide, zmem 189 (by decide +kernel) rfl, zin_3, tyX3_ok, nmX3, zn_3⟩
theorem pd_3_11 : ∀ C T N, vwCl[3]? = some (C, T, N) → (T 11).2.2.2 = false ∧ parseFieldDescriptor (T 11).2.2.1 = some (.int) := by
  intro C T N h
  have h : some (RX3, TX3, 12) = some (C, T, N) := h
  cases h
  exact ⟨rfl, by decide +kernel⟩
theorem ml_X3_81 : zMV RX3 81 RX3 yX3_refuseAt cX3_refuseAt 3 (some .boolean) 2 := ⟨zmem 522 (by decide +kernel) rfl, zmem 524 (by decide +kernel) rfl, zmem 6 (by decide +kernel) rfl, zmem 70 (by decide +kernel) rfl, zmem 525 (by decide +kernel) rfl, by decide +kernel, by decide⟩
theorem zic_m1 : Int32.ofInt (-1) = (-1) := by decide
theorem ml_X3_85 : zMV RX3 85 RX3 yX3_refuse cX3_refuse 2 (some .boolean) 1 := ⟨zmem 535 (by decide +kernel) rfl, zmem 519 (by decide +kernel) rfl, zmem 520 (by decide +kernel) rfl, zmem 70 (by decide +kernel) rfl, zmem 521 (by decide +kernel) rfl, by decide +kernel, by decide⟩
theorem ml_X3_91 : zMN RX3 91 "LeadBalls" yX8_indexOf cX8_indexOf 5 (some .int) 3 := ⟨by decide +kernel, zmem 562 (by decide +kernel) rfl, zmem 68 (by decide +kernel) rfl, zmem 563 (by decide +kernel) rfl, by decide +kernel, by decide⟩
theorem ml_X3_47 : zMV RX3 47 RX3 yX3_advance cX3_advance 2 none 0 := ⟨zmem 466 (by decide +kernel) rfl, zmem 467 (by decide +kernel) rfl, zmem 468 (by decide +kernel) rfl, zmem 70 (by decide +kernel) rfl, zmem 469 (by decide +kernel) rfl, by decide +kernel, by decide⟩
theorem ml_X0_45 : zMV RX0 45 RX3 yX3_advance cX3_advance 2 none 0 := ⟨zmem 556 (by decide +kernel) rfl, zmem 467 (by decide +kernel) rfl, zmem 468 (by decide +kernel) rfl, zmem 70 (by decide +kernel) rfl, zmem 469 (by decide +kernel) rfl, by decide +kernel, by decide⟩
theorem fl_X0_18 : zFL RX0 18 0 2 := ⟨by decide, RX0, TX0, 8, tyX0, rfl, by decide, zmem 233 (by decide +kernel) rfl, zin_0, tyX0_ok, nmX0, zn_0⟩
theorem ml_X0_48 : zMV RX0 48 RX3 yX3_takeNewName cX3_takeNewName 3 (some .boolean) 2 := ⟨zmem 557 (by decide +kernel) rfl, zmem 558 (by decide +kernel) rfl, zmem 559 (by decide +kernel) rfl, zmem 70 (by decide +kernel) rfl, zmem 560 (by decide +kernel) rfl, by decide +kernel, by decide⟩
theorem ml_X0_39 : zMV RX0 39 RX3 yX3_refuse cX3_refuse 2 (some .boolean) 1 := ⟨zmem 555 (by decide +kernel) rfl, zmem 519 (by decide +kernel) rfl, zmem 520 (by decide +kernel) rfl, zmem 70 (by decide +kernel) rfl, zmem 521 (by decide +kernel) rfl, by decide +kernel, by decide⟩
theorem fl_X0_22 : zFL RX0 22 0 3 := ⟨by decide, RX0, TX0, 8, tyX0, rfl, by decide, zmem 234 (by decide +kernel) rfl, zin_0, tyX0_ok, nmX0, zn_0⟩
theorem zsi_269 : (Int16.ofInt (269)).toInt32 = 269 := by decide
theorem ml_X0_52 : zMV RX0 52 RX3 yX3_take cX3_take 2 (some .boolean) 1 := ⟨zmem 568 (by decide +kernel) rfl, zmem 548 (by decide +kernel) rfl, zmem 549 (by decide +kernel) rfl, zmem 70 (by decide +kernel) rfl, zmem 550 (by decide +kernel) rfl, by decide +kernel, by decide⟩
theorem fl_X0_55 : zFL RX0 55 3 4 := ⟨by decide, RX3, TX3, 12, tyX3, rfl, by decide, zmem 174 (by decide +kernel) rfl, zin_3, tyX3_ok, nmX3, zn_3⟩
theorem fl_X0_58 : zFL RX0 58 3 7 := ⟨by decide, RX3, TX3, 12, tyX3, rfl, by decide, zmem 178 (by decide +kernel) rfl, zin_3, tyX3_ok, nmX3, zn_3⟩
theorem ml_X0_62 : zMN RX0 62 "LeadBalls" yX8_indexOf cX8_indexOf 5 (some .int) 3 := ⟨by decide +kernel, zmem 562 (by decide +kernel) rfl, zmem 68 (by decide +kernel) rfl, zmem 563 (by decide +kernel) rfl, by decide +kernel, by decide⟩
theorem zic_5 : Int32.ofInt (5) = 5 := by decide
theorem fl_X0_25 : zFL RX0 25 0 4 := ⟨by decide, RX0, TX0, 8, tyX0, rfl, by decide, zmem 235 (by decide +kernel) rfl, zin_0, tyX0_ok, nmX0, zn_0⟩
theorem ml_X0_66 : zMN RX0 66 "LeadBalls" yX8_within cX8_within 3 (some .boolean) 3 := ⟨by decide +kernel, zmem 537 (by decide +kernel) rfl, zmem 68 (by decide +kernel) rfl, zmem 538 (by decide +kernel) rfl, by decide +kernel, by decide⟩
theorem kc_J6_265 : Cond.constant RJ6 265 (1431655765) ∈ ztb := zmem 500 (by decide +kernel) rfl
theorem kc_J6_266 : Cond.constant RJ6 266 (858993459) ∈ ztb := zmem 501 (by decide +kernel) rfl
theorem kc_J6_267 : Cond.constant RJ6 267 (252645135) ∈ ztb := zmem 502 (by decide +kernel) rfl
theorem zbi_16 : (Int8.ofInt (16)).toInt32 = 16 := by decide
theorem zbi_63 : (Int8.ofInt (63)).toInt32 = 63 := by decide
theorem ml_X0_70 : zMV RX0 70 RX0 yX0_possible cX0_possible 3 (some .int) 0 := ⟨zmem 848 (by decide +kernel) rfl, zmem 837 (by decide +kernel) rfl, zmem 838 (by decide +kernel) rfl, zmem 76 (by decide +kernel) rfl, zmem 839 (by decide +kernel) rfl, by decide +kernel, by decide⟩
theorem ml_X0_74 : zMS RX0 74 yJ6_bitCount_0f7a4 cJ6_bitCount_0f7a4 1 (some .int) 1 := ⟨zmem 497 (by decide +kernel) rfl, zmem 498 (by decide +kernel) rfl, zmem 83 (by decide +kernel) rfl, zmem 499 (by decide +kernel) rfl, by decide +kernel, by decide⟩
theorem ml_X0_80 : zMS RX0 80 yJ9_max_7cf53 cJ9_max_7cf53 2 (some .int) 2 := ⟨zmem 507 (by decide +kernel) rfl, zmem 508 (by decide +kernel) rfl, zmem 84 (by decide +kernel) rfl, zmem 509 (by decide +kernel) rfl, by decide +kernel, by decide⟩
theorem fl_X0_29 : zFL RX0 29 0 5 := ⟨by decide, RX0, TX0, 8, tyX0, rfl, by decide, zmem 236 (by decide +kernel) rfl, zin_0, tyX0_ok, nmX0, zn_0⟩
theorem ml_X0_86 : zMV RX0 86 RX0 yX0_fewestFor cX0_fewestFor 7 (some .int) 1 := ⟨zmem 503 (by decide +kernel) rfl, zmem 505 (by decide +kernel) rfl, zmem 3 (by decide +kernel) rfl, zmem 76 (by decide +kernel) rfl, zmem 506 (by decide +kernel) rfl, by decide +kernel, by decide⟩
theorem ml_X1_43 : zMS RX1 43 yX1_determinant cX1_determinant 12 (some .long) 5 := ⟨zmem 745 (by decide +kernel) rfl, zmem 746 (by decide +kernel) rfl, zmem 80 (by decide +kernel) rfl, zmem 747 (by decide +kernel) rfl, by decide +kernel, by decide⟩
theorem zn_1 : ∀ o : Nat, zC o = 1 → zN o = 5 := zN_cls (fun o => zC o != 1 || zN o == 5) (by decide +kernel) (fun o h h2 => by simpa [h2] using h)
theorem zin_1 : ∀ q ∈ u_ws RX1 TX1 5, q ∈ ztb := zuws [401, 403, 405, 407, 409] (by decide +kernel) (by decide +kernel)
theorem fl_X1_19 : zFL RX1 19 1 2 := ⟨by decide, RX1, TX1, 5, tyX1, rfl, by decide, zmem 398 (by decide +kernel) rfl, zin_1, tyX1_ok, nmX1, zn_1⟩
theorem fl_X1_23 : zFL RX1 23 1 3 := ⟨by decide, RX1, TX1, 5, tyX1, rfl, by decide, zmem 399 (by decide +kernel) rfl, zin_1, tyX1_ok, nmX1, zn_1⟩
theorem fl_X1_26 : zFL RX1 26 1 4 := ⟨by decide, RX1, TX1, 5, tyX1, rfl, by decide, zmem 400 (by decide +kernel) rfl, zin_1, tyX1_ok, nmX1, zn_1⟩
theorem zn_4 : ∀ o : Nat, zC o = 4 → zN o = 7 := zN_cls (fun o => zC o != 4 || zN o == 7) (by decide +kernel) (fun o h h2 => by simpa [h2] using h)
theorem zin_4 : ∀ q ∈ u_ws RX4 TX4 7, q ∈ ztb := zuws [373, 375, 377, 379, 381, 383, 385] (by decide +kernel) (by decide +kernel)
theorem fl_X4_28 : zFL RX4 28 4 5 := ⟨by decide, RX4, TX4, 7, tyX4, rfl, by decide, zmem 371 (by decide +kernel) rfl, zin_4, tyX4_ok, nmX4, zn_4⟩
theorem fl_X4_31 : zFL RX4 31 4 6 := ⟨by decide, RX4, TX4, 7, tyX4, rfl, by decide, zmem 372 (by decide +kernel) rfl, zin_4, tyX4_ok, nmX4, zn_4⟩
theorem fl_X4_22 : zFL RX4 22 4 3 := ⟨by decide, RX4, TX4, 7, tyX4, rfl, by decide, zmem 369 (by decide +kernel) rfl, zin_4, tyX4_ok, nmX4, zn_4⟩
theorem fl_X4_18 : zFL RX4 18 4 2 := ⟨by decide, RX4, TX4, 7, tyX4, rfl, by decide, zmem 368 (by decide +kernel) rfl, zin_4, tyX4_ok, nmX4, zn_4⟩
theorem fl_X4_25 : zFL RX4 25 4 4 := ⟨by decide, RX4, TX4, 7, tyX4, rfl, by decide, zmem 370 (by decide +kernel) rfl, zin_4, tyX4_ok, nmX4, zn_4⟩
theorem fl_X1_47 : zFL RX1 47 4 0 := ⟨by decide, RX4, TX4, 7, tyX4, rfl, by decide, zmem 364 (by decide +kernel) rfl, zin_4, tyX4_ok, nmX4, zn_4⟩
theorem ml_X1_52 : zMV RX1 52 RX4 yX4_counts cX4_counts 3 (some .boolean) 2 := ⟨zmem 733 (by decide +kernel) rfl, zmem 734 (by decide +kernel) rfl, zmem 735 (by decide +kernel) rfl, zmem 79 (by decide +kernel) rfl, zmem 736 (by decide +kernel) rfl, by decide +kernel, by decide⟩
theorem ml_X1_56 : zMV RX1 56 RX4 yX4_row cX4_row 3 none 2 := ⟨zmem 737 (by decide +kernel) rfl, zmem 738 (by decide +kernel) rfl, zmem 739 (by decide +kernel) rfl, zmem 79 (by decide +kernel) rfl, zmem 740 (by decide +kernel) rfl, by decide +kernel, by decide⟩
theorem ml_X1_60 : zMV RX1 60 RX1 yX1_addRow cX1_addRow 3 none 0 := ⟨zmem 741 (by decide +kernel) rfl, zmem 743 (by decide +kernel) rfl, zmem 17 (by decide +kernel) rfl, zmem 80 (by decide +kernel) rfl, zmem 744 (by decide +kernel) rfl, by decide +kernel, by decide⟩
theorem ml_X1_30 : zMS RX1 30 yJ9_min_7cf53 cJ9_min_7cf53 2 (some .int) 2 := ⟨zmem 725 (by decide +kernel) rfl, zmem 726 (by decide +kernel) rfl, zmem 84 (by decide +kernel) rfl, zmem 727 (by decide +kernel) rfl, by decide +kernel, by decide⟩
theorem ml_X1_36 : zMS RX1 36 yJ9_max_7cf53 cJ9_max_7cf53 2 (some .int) 2 := ⟨zmem 728 (by decide +kernel) rfl, zmem 508 (by decide +kernel) rfl, zmem 84 (by decide +kernel) rfl, zmem 509 (by decide +kernel) rfl, by decide +kernel, by decide⟩
theorem pd_1_2 : ∀ C T N, vwCl[1]? = some (C, T, N) → (T 2).2.2.2 = false ∧ parseFieldDescriptor (T 2).2.2.1 = some (.int) := by
  intro C T N h
  have h : some (RX1, TX1, 5) = some (C, T, N) := h
  cases h
  exact ⟨rfl, by decide +kernel⟩
theorem ml_X1_39 : zMV RX1 39 RX1 yX1_gather cX1_gather 4 none 2 := ⟨zmem 729 (by decide +kernel) rfl, zmem 731 (by decide +kernel) rfl, zmem 16 (by decide +kernel) rfl, zmem 80 (by decide +kernel) rfl, zmem 732 (by decide +kernel) rfl, by decide +kernel, by decide⟩
theorem fl_X1_15 : zFL RX1 15 1 1 := ⟨by decide, RX1, TX1, 5, tyX1, rfl, by decide, zmem 396 (by decide +kernel) rfl, zin_1, tyX1_ok, nmX1, zn_1⟩
theorem pd_1_1 : ∀ C T N, vwCl[1]? = some (C, T, N) → (T 1).2.2.2 = false ∧ parseFieldDescriptor (T 1).2.2.1 = some (.long) := by
  intro C T N h
  have h : some (RX1, TX1, 5) = some (C, T, N) := h
  cases h
  exact ⟨rfl, by decide +kernel⟩
theorem fl_X1_11 : zFL RX1 11 1 0 := ⟨by decide, RX1, TX1, 5, tyX1, rfl, by decide, zmem 394 (by decide +kernel) rfl, zin_1, tyX1_ok, nmX1, zn_1⟩
theorem ml_X1_63 : zMS RX1 63 yJ9_abs_067f4 cJ9_abs_067f4 2 (some .long) 1 := ⟨zmem 752 (by decide +kernel) rfl, zmem 668 (by decide +kernel) rfl, zmem 84 (by decide +kernel) rfl, zmem 669 (by decide +kernel) rfl, by decide +kernel, by decide⟩
theorem ml_X1_67 : zMS RX1 67 yJ9_max_f86c9 cJ9_max_f86c9 4 (some .long) 2 := ⟨zmem 753 (by decide +kernel) rfl, zmem 754 (by decide +kernel) rfl, zmem 84 (by decide +kernel) rfl, zmem 755 (by decide +kernel) rfl, by decide +kernel, by decide⟩
theorem fl_X3_88 : zFL RX3 88 3 9 := ⟨by decide, RX3, TX3, 12, tyX3, rfl, by decide, zmem 186 (by decide +kernel) rfl, zin_3, tyX3_ok, nmX3, zn_3⟩
theorem pd_3_9 : ∀ C T N, vwCl[3]? = some (C, T, N) → (T 9).2.2.2 = false ∧ parseFieldDescriptor (T 9).2.2.1 = some (.long) := by
  intro C T N h
  have h : some (RX3, TX3, 12) = some (C, T, N) := h
  cases h
  exact ⟨rfl, by decide +kernel⟩
theorem ml_X3_95 : zMN RX3 95 "LeadBalls" yX8_within cX8_within 3 (some .boolean) 3 := ⟨by decide +kernel, zmem 537 (by decide +kernel) rfl, zmem 68 (by decide +kernel) rfl, zmem 538 (by decide +kernel) rfl, by decide +kernel, by decide⟩
theorem fl_X3_99 : zFL RX3 99 3 8 := ⟨by decide, RX3, TX3, 12, tyX3, rfl, by decide, zmem 184 (by decide +kernel) rfl, zin_3, tyX3_ok, nmX3, zn_3⟩
theorem pd_3_8 : ∀ C T N, vwCl[3]? = some (C, T, N) → (T 8).2.2.2 = false ∧ parseFieldDescriptor (T 8).2.2.1 = some (.int) := by
  intro C T N h
  have h : some (RX3, TX3, 12) = some (C, T, N) := h
  cases h
  exact ⟨rfl, by decide +kernel⟩
theorem zn_2 : ∀ o : Nat, zC o = 2 → zN o = 7 := zN_cls (fun o => zC o != 2 || zN o == 7) (by decide +kernel) (fun o h h2 => by simpa [h2] using h)
theorem zin_2 : ∀ q ∈ u_ws RX2 TX2 7, q ∈ ztb := zuws [295, 297, 299, 301, 303, 305, 307] (by decide +kernel) (by decide +kernel)
theorem fl_X2_9 : zFL RX2 9 2 0 := ⟨by decide, RX2, TX2, 7, tyX2, rfl, by decide, zmem 287 (by decide +kernel) rfl, zin_2, tyX2_ok, nmX2, zn_2⟩
theorem zbi_12 : (Int8.ofInt (12)).toInt32 = 12 := by decide
theorem zsi_270 : (Int16.ofInt (270)).toInt32 = 270 := by decide
theorem ml_X2_48 : zMV RX2 48 RX3 yX3_take cX3_take 2 (some .boolean) 1 := ⟨zmem 583 (by decide +kernel) rfl, zmem 548 (by decide +kernel) rfl, zmem 549 (by decide +kernel) rfl, zmem 70 (by decide +kernel) rfl, zmem 550 (by decide +kernel) rfl, by decide +kernel, by decide⟩
theorem fl_X2_15 : zFL RX2 15 2 1 := ⟨by decide, RX2, TX2, 7, tyX2, rfl, by decide, zmem 289 (by decide +kernel) rfl, zin_2, tyX2_ok, nmX2, zn_2⟩
theorem ml_X2_51 : zMV RX2 51 RX3 yX3_takeNewName cX3_takeNewName 3 (some .boolean) 2 := ⟨zmem 584 (by decide +kernel) rfl, zmem 558 (by decide +kernel) rfl, zmem 559 (by decide +kernel) rfl, zmem 70 (by decide +kernel) rfl, zmem 560 (by decide +kernel) rfl, by decide +kernel, by decide⟩
theorem zsi_271 : (Int16.ofInt (271)).toInt32 = 271 := by decide
theorem zsi_9999 : (Int16.ofInt (9999)).toInt32 = 9999 := by decide
theorem ml_X2_55 : zMV RX2 55 RX3 yX3_takeNumber cX3_takeNumber 3 (some .boolean) 2 := ⟨zmem 585 (by decide +kernel) rfl, zmem 540 (by decide +kernel) rfl, zmem 541 (by decide +kernel) rfl, zmem 70 (by decide +kernel) rfl, zmem 542 (by decide +kernel) rfl, by decide +kernel, by decide⟩
theorem fl_X2_59 : zFL RX2 59 3 8 := ⟨by decide, RX3, TX3, 12, tyX3, rfl, by decide, zmem 181 (by decide +kernel) rfl, zin_3, tyX3_ok, nmX3, zn_3⟩
theorem zsi_272 : (Int16.ofInt (272)).toInt32 = 272 := by decide
theorem zsi_999 : (Int16.ofInt (999)).toInt32 = 999 := by decide
theorem fl_X2_25 : zFL RX2 25 2 4 := ⟨by decide, RX2, TX2, 7, tyX2, rfl, by decide, zmem 292 (by decide +kernel) rfl, zin_2, tyX2_ok, nmX2, zn_2⟩
theorem fl_X2_29 : zFL RX2 29 2 5 := ⟨by decide, RX2, TX2, 7, tyX2, rfl, by decide, zmem 293 (by decide +kernel) rfl, zin_2, tyX2_ok, nmX2, zn_2⟩
theorem zsi_260 : (Int16.ofInt (260)).toInt32 = 260 := by decide
theorem ml_X2_62 : zMV RX2 62 RX3 yX3_takeName cX3_takeName 1 (some .boolean) 0 := ⟨zmem 586 (by decide +kernel) rfl, zmem 587 (by decide +kernel) rfl, zmem 588 (by decide +kernel) rfl, zmem 70 (by decide +kernel) rfl, zmem 589 (by decide +kernel) rfl, by decide +kernel, by decide⟩
theorem fl_X2_19 : zFL RX2 19 2 2 := ⟨by decide, RX2, TX2, 7, tyX2, rfl, by decide, zmem 290 (by decide +kernel) rfl, zin_2, tyX2_ok, nmX2, zn_2⟩
theorem fl_X2_66 : zFL RX2 66 3 9 := ⟨by decide, RX3, TX3, 12, tyX3, rfl, by decide, zmem 185 (by decide +kernel) rfl, zin_3, tyX3_ok, nmX3, zn_3⟩
theorem zsi_273 : (Int16.ofInt (273)).toInt32 = 273 := by decide
theorem fl_X2_22 : zFL RX2 22 2 3 := ⟨by decide, RX2, TX2, 7, tyX2, rfl, by decide, zmem 291 (by decide +kernel) rfl, zin_2, tyX2_ok, nmX2, zn_2⟩
theorem zbi_59 : (Int8.ofInt (59)).toInt32 = 59 := by decide
theorem ml_X2_44 : zMV RX2 44 RX3 yX3_refuse cX3_refuse 2 (some .boolean) 1 := ⟨zmem 582 (by decide +kernel) rfl, zmem 519 (by decide +kernel) rfl, zmem 520 (by decide +kernel) rfl, zmem 70 (by decide +kernel) rfl, zmem 521 (by decide +kernel) rfl, by decide +kernel, by decide⟩
theorem pd_2_0 : ∀ C T N, vwCl[2]? = some (C, T, N) → (T 0).2.2.2 = false ∧ parseFieldDescriptor (T 0).2.2.1 = some (.int) := by
  intro C T N h
  have h : some (RX2, TX2, 7) = some (C, T, N) := h
  cases h
  exact ⟨rfl, by decide +kernel⟩
theorem fl_X2_35 : zFL RX2 35 3 4 := ⟨by decide, RX3, TX3, 12, tyX3, rfl, by decide, zmem 170 (by decide +kernel) rfl, zin_3, tyX3_ok, nmX3, zn_3⟩
theorem ml_X2_40 : zMV RX2 40 RX2 yX2_readHouse cX2_readHouse 3 (some .boolean) 1 := ⟨zmem 578 (by decide +kernel) rfl, zmem 580 (by decide +kernel) rfl, zmem 8 (by decide +kernel) rfl, zmem 77 (by decide +kernel) rfl, zmem 581 (by decide +kernel) rfl, by decide +kernel, by decide⟩
theorem ml_X2_70 : zMS RX2 70 yJ9_max_7cf53 cJ9_max_7cf53 2 (some .int) 2 := ⟨zmem 786 (by decide +kernel) rfl, zmem 508 (by decide +kernel) rfl, zmem 84 (by decide +kernel) rfl, zmem 509 (by decide +kernel) rfl, by decide +kernel, by decide⟩
theorem ml_X2_76 : zMS RX2 76 yJ9_min_7cf53 cJ9_min_7cf53 2 (some .int) 2 := ⟨zmem 787 (by decide +kernel) rfl, zmem 726 (by decide +kernel) rfl, zmem 84 (by decide +kernel) rfl, zmem 727 (by decide +kernel) rfl, by decide +kernel, by decide⟩
theorem ml_X2_88 : zMN RX2 88 "LeadBalls" yX8_within cX8_within 3 (some .boolean) 3 := ⟨by decide +kernel, zmem 537 (by decide +kernel) rfl, zmem 68 (by decide +kernel) rfl, zmem 538 (by decide +kernel) rfl, by decide +kernel, by decide⟩
theorem ml_X2_79 : zMV RX2 79 RX2 yX2_notLetting cX2_notLetting 4 (some .int) 1 := ⟨zmem 792 (by decide +kernel) rfl, zmem 794 (by decide +kernel) rfl, zmem 18 (by decide +kernel) rfl, zmem 77 (by decide +kernel) rfl, zmem 795 (by decide +kernel) rfl, by decide +kernel, by decide⟩
theorem ml_X2_83 : zMS RX2 83 yJ6_bitCount_0f7a4 cJ6_bitCount_0f7a4 1 (some .int) 1 := ⟨zmem 797 (by decide +kernel) rfl, zmem 498 (by decide +kernel) rfl, zmem 83 (by decide +kernel) rfl, zmem 499 (by decide +kernel) rfl, by decide +kernel, by decide⟩
theorem fl_X2_32 : zFL RX2 32 2 6 := ⟨by decide, RX2, TX2, 7, tyX2, rfl, by decide, zmem 294 (by decide +kernel) rfl, zin_2, tyX2_ok, nmX2, zn_2⟩
theorem ml_X2_92 : zMV RX2 92 RX2 yX2_join cX2_join 4 none 2 := ⟨zmem 802 (by decide +kernel) rfl, zmem 804 (by decide +kernel) rfl, zmem 19 (by decide +kernel) rfl, zmem 77 (by decide +kernel) rfl, zmem 805 (by decide +kernel) rfl, by decide +kernel, by decide⟩
theorem pd_3_2 : ∀ C T N, vwCl[3]? = some (C, T, N) → (T 2).2.2.2 = false ∧ parseFieldDescriptor (T 2).2.2.1 = some (.boolean) := by
  intro C T N h
  have h : some (RX3, TX3, 12) = some (C, T, N) := h
  cases h
  exact ⟨rfl, by decide +kernel⟩
theorem zbi_45 : (Int8.ofInt (45)).toInt32 = 45 := by decide
theorem zsi_199 : (Int16.ofInt (199)).toInt32 = 199 := by decide
theorem ml_X4_34 : zMN RX4 34 "LeadBalls" yX8_within cX8_within 3 (some .boolean) 3 := ⟨by decide +kernel, zmem 537 (by decide +kernel) rfl, zmem 68 (by decide +kernel) rfl, zmem 538 (by decide +kernel) rfl, by decide +kernel, by decide⟩
theorem zsi_m999 : (Int16.ofInt (-999)).toInt32 = (-999) := by decide
theorem fl_X4_9 : zFL RX4 9 4 0 := ⟨by decide, RX4, TX4, 7, tyX4, rfl, by decide, zmem 363 (by decide +kernel) rfl, zin_4, tyX4_ok, nmX4, zn_4⟩
theorem zbi_40 : (Int8.ofInt (40)).toInt32 = 40 := by decide
theorem fl_X4_15 : zFL RX4 15 4 1 := ⟨by decide, RX4, TX4, 7, tyX4, rfl, by decide, zmem 366 (by decide +kernel) rfl, zin_4, tyX4_ok, nmX4, zn_4⟩
theorem pd_4_0 : ∀ C T N, vwCl[4]? = some (C, T, N) → (T 0).2.2.2 = false ∧ parseFieldDescriptor (T 0).2.2.1 = some (.int) := by
  intro C T N h
  have h : some (RX4, TX4, 7) = some (C, T, N) := h
  cases h
  exact ⟨rfl, by decide +kernel⟩
theorem zsi_1000 : (Int16.ofInt (1000)).toInt32 = 1000 := by decide
theorem kc_X4_38 : Cond.constant RX4 38 (100000) ∈ ztb := zmem 716 (by decide +kernel) rfl
theorem pd_4_1 : ∀ C T N, vwCl[4]? = some (C, T, N) → (T 1).2.2.2 = false ∧ parseFieldDescriptor (T 1).2.2.1 = some (.int) := by
  intro C T N h
  have h : some (RX4, TX4, 7) = some (C, T, N) := h
  cases h
  exact ⟨rfl, by decide +kernel⟩
theorem zsi_257 : (Int16.ofInt (257)).toInt32 = 257 := by decide
theorem ml_X5_75 : zMV RX5 75 RX3 yX3_take cX3_take 2 (some .boolean) 1 := ⟨zmem 547 (by decide +kernel) rfl, zmem 548 (by decide +kernel) rfl, zmem 549 (by decide +kernel) rfl, zmem 70 (by decide +kernel) rfl, zmem 550 (by decide +kernel) rfl, by decide +kernel, by decide⟩
theorem ml_X5_84 : zMV RX5 84 RX3 yX3_takeNumber cX3_takeNumber 3 (some .boolean) 2 := ⟨zmem 539 (by decide +kernel) rfl, zmem 540 (by decide +kernel) rfl, zmem 541 (by decide +kernel) rfl, zmem 70 (by decide +kernel) rfl, zmem 542 (by decide +kernel) rfl, by decide +kernel, by decide⟩
theorem zn_5 : ∀ o : Nat, zC o = 5 → zN o = 4 := zN_cls (fun o => zC o != 5 || zN o == 4) (by decide +kernel) (fun o h h2 => by simpa [h2] using h)
theorem zin_5 : ∀ q ∈ u_ws RX5 TX5 4, q ∈ ztb := zuws [272, 274, 276, 278] (by decide +kernel) (by decide +kernel)
theorem fl_X5_31 : zFL RX5 31 5 2 := ⟨by decide, RX5, TX5, 4, tyX5, rfl, by decide, zmem 270 (by decide +kernel) rfl, zin_5, tyX5_ok, nmX5, zn_5⟩
theorem fl_X5_88 : zFL RX5 88 3 8 := ⟨by decide, RX3, TX3, 12, tyX3, rfl, by decide, zmem 183 (by decide +kernel) rfl, zin_3, tyX3_ok, nmX3, zn_3⟩
theorem zsi_258 : (Int16.ofInt (258)).toInt32 = 258 := by decide
theorem ml_X5_71 : zMV RX5 71 RX3 yX3_refuse cX3_refuse 2 (some .boolean) 1 := ⟨zmem 518 (by decide +kernel) rfl, zmem 519 (by decide +kernel) rfl, zmem 520 (by decide +kernel) rfl, zmem 70 (by decide +kernel) rfl, zmem 521 (by decide +kernel) rfl, by decide +kernel, by decide⟩
theorem zbi_11 : (Int8.ofInt (11)).toInt32 = 11 := by decide
theorem fl_X5_34 : zFL RX5 34 5 3 := ⟨by decide, RX5, TX5, 4, tyX5, rfl, by decide, zmem 271 (by decide +kernel) rfl, zin_5, tyX5_ok, nmX5, zn_5⟩
theorem pd_5_3 : ∀ C T N, vwCl[5]? = some (C, T, N) → (T 3).2.2.2 = false ∧ parseFieldDescriptor (T 3).2.2.1 = some (.int) := by
  intro C T N h
  have h : some (RX5, TX5, 4) = some (C, T, N) := h
  cases h
  exact ⟨rfl, by decide +kernel⟩
theorem ml_X5_91 : zMV RX5 91 RX3 yX3_advance cX3_advance 2 none 0 := ⟨zmem 526 (by decide +kernel) rfl, zmem 467 (by decide +kernel) rfl, zmem 468 (by decide +kernel) rfl, zmem 70 (by decide +kernel) rfl, zmem 469 (by decide +kernel) rfl, by decide +kernel, by decide⟩
theorem ml_X5_94 : zMV RX5 94 RX3 yX3_takeSigned cX3_takeSigned 6 (some .boolean) 2 := ⟨zmem 531 (by decide +kernel) rfl, zmem 532 (by decide +kernel) rfl, zmem 533 (by decide +kernel) rfl, zmem 70 (by decide +kernel) rfl, zmem 534 (by decide +kernel) rfl, by decide +kernel, by decide⟩
theorem fl_X5_46 : zFL RX5 46 3 4 := ⟨by decide, RX3, TX3, 12, tyX3, rfl, by decide, zmem 172 (by decide +kernel) rfl, zin_3, tyX3_ok, nmX3, zn_3⟩
theorem fl_X5_18 : zFL RX5 18 5 1 := ⟨by decide, RX5, TX5, 4, tyX5, rfl, by decide, zmem 268 (by decide +kernel) rfl, zin_5, tyX5_ok, nmX5, zn_5⟩
theorem ml_X5_68 : zMV RX5 68 RX0 yX0_readTrial cX0_readTrial 5 (some .boolean) 1 := ⟨zmem 564 (by decide +kernel) rfl, zmem 565 (by decide +kernel) rfl, zmem 566 (by decide +kernel) rfl, zmem 76 (by decide +kernel) rfl, zmem 567 (by decide +kernel) rfl, by decide +kernel, by decide⟩
theorem ml_X5_65 : zMV RX5 65 RX0 yX0_readCause cX0_readCause 2 (some .boolean) 1 := ⟨zmem 551 (by decide +kernel) rfl, zmem 552 (by decide +kernel) rfl, zmem 553 (by decide +kernel) rfl, zmem 76 (by decide +kernel) rfl, zmem 554 (by decide +kernel) rfl, by decide +kernel, by decide⟩
theorem ml_X5_58 : zMV RX5 58 RX5 yX5_readSetting cX5_readSetting 7 (some .boolean) 2 := ⟨zmem 514 (by decide +kernel) rfl, zmem 516 (by decide +kernel) rfl, zmem 5 (by decide +kernel) rfl, zmem 75 (by decide +kernel) rfl, zmem 517 (by decide +kernel) rfl, by decide +kernel, by decide⟩
theorem ml_X5_62 : zMV RX5 62 RX5 yX5_readNearAndFar cX5_readNearAndFar 4 (some .boolean) 1 := ⟨zmem 543 (by decide +kernel) rfl, zmem 545 (by decide +kernel) rfl, zmem 7 (by decide +kernel) rfl, zmem 75 (by decide +kernel) rfl, zmem 546 (by decide +kernel) rfl, by decide +kernel, by decide⟩
theorem fl_X5_9 : zFL RX5 9 5 0 := ⟨by decide, RX5, TX5, 4, tyX5, rfl, by decide, zmem 266 (by decide +kernel) rfl, zin_5, tyX5_ok, nmX5, zn_5⟩
theorem pd_5_0 : ∀ C T N, vwCl[5]? = some (C, T, N) → (T 0).2.2.2 = false ∧ parseFieldDescriptor (T 0).2.2.1 = some (.int) := by
  intro C T N h
  have h : some (RX5, TX5, 4) = some (C, T, N) := h
  cases h
  exact ⟨rfl, by decide +kernel⟩
theorem al_X5_37 : Cond.methodLink RX5 37 arraycopyName ∈ ztb := zmem 486 (by decide +kernel) rfl
theorem ml_X5_43 : zMV RX5 43 RX0 yX0_clear cX0_clear 1 none 0 := ⟨zmem 489 (by decide +kernel) rfl, zmem 490 (by decide +kernel) rfl, zmem 491 (by decide +kernel) rfl, zmem 76 (by decide +kernel) rfl, zmem 492 (by decide +kernel) rfl, by decide +kernel, by decide⟩
theorem zsi_800 : (Int16.ofInt (800)).toInt32 = 800 := by decide
theorem ml_X5_51 : zMV RX5 51 RX0 yX0_fillFewest cX0_fillFewest 2 none 0 := ⟨zmem 493 (by decide +kernel) rfl, zmem 494 (by decide +kernel) rfl, zmem 495 (by decide +kernel) rfl, zmem 76 (by decide +kernel) rfl, zmem 496 (by decide +kernel) rfl, by decide +kernel, by decide⟩
theorem ml_X5_54 : zMV RX5 54 RX5 yX5_readLine cX5_readLine 3 (some .boolean) 1 := ⟨zmem 510 (by decide +kernel) rfl, zmem 512 (by decide +kernel) rfl, zmem 4 (by decide +kernel) rfl, zmem 75 (by decide +kernel) rfl, zmem 513 (by decide +kernel) rfl, by decide +kernel, by decide⟩
theorem ml_X5_97 : zMV RX5 97 RX5 yX5_setting cX5_setting 3 (some .long) 1 := ⟨zmem 649 (by decide +kernel) rfl, zmem 650 (by decide +kernel) rfl, zmem 651 (by decide +kernel) rfl, zmem 75 (by decide +kernel) rfl, zmem 652 (by decide +kernel) rfl, by decide +kernel, by decide⟩
theorem kcL_X5_101 : Cond.constantLong RX5 101 (1000) ∈ ztb := zmem 657 (by decide +kernel) rfl
theorem zsi_259 : (Int16.ofInt (259)).toInt32 = 259 := by decide
theorem zsi_263 : (Int16.ofInt (263)).toInt32 = 263 := by decide
theorem zsi_266 : (Int16.ofInt (266)).toInt32 = 266 := by decide
theorem zsi_265 : (Int16.ofInt (265)).toInt32 = 265 := by decide
theorem ml_X5_103 : zMV RX5 103 RX5 yX5_lower cX5_lower 5 (some .long) 0 := ⟨zmem 653 (by decide +kernel) rfl, zmem 654 (by decide +kernel) rfl, zmem 655 (by decide +kernel) rfl, zmem 75 (by decide +kernel) rfl, zmem 656 (by decide +kernel) rfl, by decide +kernel, by decide⟩
theorem kcL_X5_107 : Cond.constantLong RX5 107 (10) ∈ ztb := zmem 658 (by decide +kernel) rfl
theorem zsi_264 : (Int16.ofInt (264)).toInt32 = 264 := by decide
theorem ml_X5_109 : zMV RX5 109 RX5 yX5_pullUpper cX5_pullUpper 5 (some .long) 0 := ⟨zmem 659 (by decide +kernel) rfl, zmem 660 (by decide +kernel) rfl, zmem 661 (by decide +kernel) rfl, zmem 75 (by decide +kernel) rfl, zmem 662 (by decide +kernel) rfl, by decide +kernel, by decide⟩
theorem zn_6 : ∀ o : Nat, zC o = 6 → zN o = 12 := zN_cls (fun o => zC o != 6 || zN o == 12) (by decide +kernel) (fun o h h2 => by simpa [h2] using h)
theorem zin_6 : ∀ q ∈ u_ws RX6 TX6 12, q ∈ ztb := zuws [332, 334, 336, 338, 340, 342, 344, 346, 348, 350, 352, 354] (by decide +kernel) (by decide +kernel)
theorem fl_X6_47 : zFL RX6 47 6 11 := ⟨by decide, RX6, TX6, 12, tyX6, rfl, by decide, zmem 331 (by decide +kernel) rfl, zin_6, tyX6_ok, nmX6, zn_6⟩
theorem zbi_120 : (Int8.ofInt (120)).toInt32 = 120 := by decide
theorem fl_X6_35 : zFL RX6 35 6 7 := ⟨by decide, RX6, TX6, 12, tyX6, rfl, by decide, zmem 327 (by decide +kernel) rfl, zin_6, tyX6_ok, nmX6, zn_6⟩
theorem fl_X6_38 : zFL RX6 38 6 8 := ⟨by decide, RX6, TX6, 12, tyX6, rfl, by decide, zmem 328 (by decide +kernel) rfl, zin_6, tyX6_ok, nmX6, zn_6⟩
theorem pd_6_11 : ∀ C T N, vwCl[6]? = some (C, T, N) → (T 11).2.2.2 = false ∧ parseFieldDescriptor (T 11).2.2.1 = some (.int) := by
  intro C T N h
  have h : some (RX6, TX6, 12) = some (C, T, N) := h
  cases h
  exact ⟨rfl, by decide +kernel⟩
theorem ml_X6_94 : zMV RX6 94 RX6 yX6_addStep cX6_addStep 3 none 2 := ⟨zmem 626 (by decide +kernel) rfl, zmem 628 (by decide +kernel) rfl, zmem 14 (by decide +kernel) rfl, zmem 78 (by decide +kernel) rfl, zmem 629 (by decide +kernel) rfl, by decide +kernel, by decide⟩
theorem fl_X6_50 : zFL RX6 50 3 4 := ⟨by decide, RX3, TX3, 12, tyX3, rfl, by decide, zmem 171 (by decide +kernel) rfl, zin_3, tyX3_ok, nmX3, zn_3⟩
theorem fl_X6_15 : zFL RX6 15 6 1 := ⟨by decide, RX6, TX6, 12, tyX6, rfl, by decide, zmem 318 (by decide +kernel) rfl, zin_6, tyX6_ok, nmX6, zn_6⟩
theorem zbi_60 : (Int8.ofInt (60)).toInt32 = 60 := by decide
theorem pd_6_1 : ∀ C T N, vwCl[6]? = some (C, T, N) → (T 1).2.2.2 = false ∧ parseFieldDescriptor (T 1).2.2.1 = some (.int) := by
  intro C T N h
  have h : some (RX6, TX6, 12) = some (C, T, N) := h
  cases h
  exact ⟨rfl, by decide +kernel⟩
theorem fl_X6_98 : zFL RX6 98 3 6 := ⟨by decide, RX3, TX3, 12, tyX3, rfl, by decide, zmem 176 (by decide +kernel) rfl, zin_3, tyX3_ok, nmX3, zn_3⟩
theorem ml_X6_62 : zMV RX6 62 RX3 yX3_refuse cX3_refuse 2 (some .boolean) 1 := ⟨zmem 613 (by decide +kernel) rfl, zmem 519 (by decide +kernel) rfl, zmem 520 (by decide +kernel) rfl, zmem 70 (by decide +kernel) rfl, zmem 521 (by decide +kernel) rfl, by decide +kernel, by decide⟩
theorem ml_X6_91 : zMV RX6 91 RX3 yX3_advance cX3_advance 2 none 0 := ⟨zmem 624 (by decide +kernel) rfl, zmem 467 (by decide +kernel) rfl, zmem 468 (by decide +kernel) rfl, zmem 70 (by decide +kernel) rfl, zmem 469 (by decide +kernel) rfl, by decide +kernel, by decide⟩
theorem fl_X6_25 : zFL RX6 25 6 4 := ⟨by decide, RX6, TX6, 12, tyX6, rfl, by decide, zmem 324 (by decide +kernel) rfl, zin_6, tyX6_ok, nmX6, zn_6⟩
theorem fl_X6_9 : zFL RX6 9 6 0 := ⟨by decide, RX6, TX6, 12, tyX6, rfl, by decide, zmem 316 (by decide +kernel) rfl, zin_6, tyX6_ok, nmX6, zn_6⟩
theorem fl_X6_101 : zFL RX6 101 3 7 := ⟨by decide, RX3, TX3, 12, tyX3, rfl, by decide, zmem 180 (by decide +kernel) rfl, zin_3, tyX3_ok, nmX3, zn_3⟩
theorem ml_X6_105 : zMN RX6 105 "LeadBalls" yX8_indexOf cX8_indexOf 5 (some .int) 3 := ⟨by decide +kernel, zmem 562 (by decide +kernel) rfl, zmem 68 (by decide +kernel) rfl, zmem 563 (by decide +kernel) rfl, by decide +kernel, by decide⟩
theorem ml_X6_73 : zMV RX6 73 RX6 yX6_readExpression cX6_readExpression 6 (some .boolean) 2 := ⟨zmem 616 (by decide +kernel) rfl, zmem 618 (by decide +kernel) rfl, zmem 12 (by decide +kernel) rfl, zmem 78 (by decide +kernel) rfl, zmem 619 (by decide +kernel) rfl, by decide +kernel, by decide⟩
theorem zbi_41 : (Int8.ofInt (41)).toInt32 = 41 := by decide
theorem ml_X6_70 : zMV RX6 70 RX3 yX3_take cX3_take 2 (some .boolean) 1 := ⟨zmem 615 (by decide +kernel) rfl, zmem 548 (by decide +kernel) rfl, zmem 549 (by decide +kernel) rfl, zmem 70 (by decide +kernel) rfl, zmem 550 (by decide +kernel) rfl, by decide +kernel, by decide⟩
theorem zbi_6 : (Int8.ofInt (6)).toInt32 = 6 := by decide
theorem ml_X6_84 : zMV RX6 84 RX6 yX6_readUnit cX6_readUnit 5 (some .boolean) 2 := ⟨zmem 620 (by decide +kernel) rfl, zmem 622 (by decide +kernel) rfl, zmem 13 (by decide +kernel) rfl, zmem 78 (by decide +kernel) rfl, zmem 623 (by decide +kernel) rfl, by decide +kernel, by decide⟩
theorem ml_X6_87 : zMV RX6 87 RX6 yX6_addSignStep cX6_addSignStep 2 none 1 := ⟨zmem 630 (by decide +kernel) rfl, zmem 632 (by decide +kernel) rfl, zmem 15 (by decide +kernel) rfl, zmem 78 (by decide +kernel) rfl, zmem 633 (by decide +kernel) rfl, by decide +kernel, by decide⟩
theorem zbi_42 : (Int8.ofInt (42)).toInt32 = 42 := by decide
theorem zbi_47 : (Int8.ofInt (47)).toInt32 = 47 := by decide
theorem zbi_43 : (Int8.ofInt (43)).toInt32 = 43 := by decide
theorem ml_X6_66 : zMV RX6 66 RX3 yX3_takeNewName cX3_takeNewName 3 (some .boolean) 2 := ⟨zmem 614 (by decide +kernel) rfl, zmem 558 (by decide +kernel) rfl, zmem 559 (by decide +kernel) rfl, zmem 70 (by decide +kernel) rfl, zmem 560 (by decide +kernel) rfl, by decide +kernel, by decide⟩
theorem zsi_274 : (Int16.ofInt (274)).toInt32 = 274 := by decide
theorem fl_X6_32 : zFL RX6 32 6 6 := ⟨by decide, RX6, TX6, 12, tyX6, rfl, by decide, zmem 326 (by decide +kernel) rfl, zin_6, tyX6_ok, nmX6, zn_6⟩
theorem zsi_275 : (Int16.ofInt (275)).toInt32 = 275 := by decide
theorem zsi_m9999 : (Int16.ofInt (-9999)).toInt32 = (-9999) := by decide
theorem ml_X6_77 : zMV RX6 77 RX3 yX3_takeSigned cX3_takeSigned 6 (some .boolean) 2 := ⟨zmem 634 (by decide +kernel) rfl, zmem 532 (by decide +kernel) rfl, zmem 533 (by decide +kernel) rfl, zmem 70 (by decide +kernel) rfl, zmem 534 (by decide +kernel) rfl, by decide +kernel, by decide⟩
theorem fl_X6_29 : zFL RX6 29 6 5 := ⟨by decide, RX6, TX6, 12, tyX6, rfl, by decide, zmem 325 (by decide +kernel) rfl, zin_6, tyX6_ok, nmX6, zn_6⟩
theorem fl_X6_81 : zFL RX6 81 3 8 := ⟨by decide, RX3, TX3, 12, tyX3, rfl, by decide, zmem 182 (by decide +kernel) rfl, zin_3, tyX3_ok, nmX3, zn_3⟩
theorem pd_6_0 : ∀ C T N, vwCl[6]? = some (C, T, N) → (T 0).2.2.2 = false ∧ parseFieldDescriptor (T 0).2.2.1 = some (.int) := by
  intro C T N h
  have h : some (RX6, TX6, 12) = some (C, T, N) := h
  cases h
  exact ⟨rfl, by decide +kernel⟩
theorem fl_X6_41 : zFL RX6 41 6 9 := ⟨by decide, RX6, TX6, 12, tyX6, rfl, by decide, zmem 329 (by decide +kernel) rfl, zin_6, tyX6_ok, nmX6, zn_6⟩
theorem ml_X6_113 : zMS RX6 113 yX6_joined cX6_joined 3 (some .int) 3 := ⟨zmem 606 (by decide +kernel) rfl, zmem 607 (by decide +kernel) rfl, zmem 78 (by decide +kernel) rfl, zmem 608 (by decide +kernel) rfl, by decide +kernel, by decide⟩
theorem fl_X6_18 : zFL RX6 18 6 2 := ⟨by decide, RX6, TX6, 12, tyX6, rfl, by decide, zmem 320 (by decide +kernel) rfl, zin_6, tyX6_ok, nmX6, zn_6⟩
theorem ml_X6_109 : zMV RX6 109 RX6 yX6_valueOf cX6_valueOf 6 (some .int) 2 := ⟨zmem 602 (by decide +kernel) rfl, zmem 604 (by decide +kernel) rfl, zmem 10 (by decide +kernel) rfl, zmem 78 (by decide +kernel) rfl, zmem 605 (by decide +kernel) rfl, by decide +kernel, by decide⟩
theorem fl_X6_22 : zFL RX6 22 6 3 := ⟨by decide, RX6, TX6, 12, tyX6, rfl, by decide, zmem 322 (by decide +kernel) rfl, zin_6, tyX6_ok, nmX6, zn_6⟩
theorem ml_X6_55 : zMV RX6 55 RX6 yX6_workAll cX6_workAll 2 none 0 := ⟨zmem 598 (by decide +kernel) rfl, zmem 600 (by decide +kernel) rfl, zmem 9 (by decide +kernel) rfl, zmem 78 (by decide +kernel) rfl, zmem 601 (by decide +kernel) rfl, by decide +kernel, by decide⟩
theorem ml_X6_58 : zMV RX6 58 RX6 yX6_readLine cX6_readLine 2 (some .boolean) 1 := ⟨zmem 609 (by decide +kernel) rfl, zmem 611 (by decide +kernel) rfl, zmem 11 (by decide +kernel) rfl, zmem 78 (by decide +kernel) rfl, zmem 612 (by decide +kernel) rfl, by decide +kernel, by decide⟩
theorem fl_X6_44 : zFL RX6 44 6 10 := ⟨by decide, RX6, TX6, 12, tyX6, rfl, by decide, zmem 330 (by decide +kernel) rfl, zin_6, tyX6_ok, nmX6, zn_6⟩
theorem zsi_4095 : (Int16.ofInt (4095)).toInt32 = 4095 := by decide
theorem ml_X6_117 : zMV RX6 117 RX6 yX6_lastWith cX6_lastWith 4 (some .int) 1 := ⟨zmem 814 (by decide +kernel) rfl, zmem 815 (by decide +kernel) rfl, zmem 816 (by decide +kernel) rfl, zmem 78 (by decide +kernel) rfl, zmem 817 (by decide +kernel) rfl, by decide +kernel, by decide⟩
theorem zbi_24 : (Int8.ofInt (24)).toInt32 = 24 := by decide
theorem fl_X7_15 : zFL RX7 15 7 1 := ⟨by decide, RX7, TX7, 2, tyX7, rfl, by decide, zmem 101 (by decide +kernel) rfl, zin_7, tyX7_ok, nmX7, zn_7⟩
theorem fl_X7_9 : zFL RX7 9 7 0 := ⟨by decide, RX7, TX7, 2, tyX7, rfl, by decide, zmem 99 (by decide +kernel) rfl, zin_7, tyX7_ok, nmX7, zn_7⟩
theorem pd_7_1 : ∀ C T N, vwCl[7]? = some (C, T, N) → (T 1).2.2.2 = false ∧ parseFieldDescriptor (T 1).2.2.1 = some (.int) := by
  intro C T N h
  have h : some (RX7, TX7, 2) = some (C, T, N) := h
  cases h
  exact ⟨rfl, by decide +kernel⟩
theorem zic_m8 : Int32.ofInt (-8) = (-8) := by decide
theorem zn_8 : ∀ o : Nat, zC o = 8 → zN o = 11 := zN_cls (fun o => zC o != 8 || zN o == 11) (by decide +kernel) (fun o h h2 => by simpa [h2] using h)
theorem zin_8 : ∀ q ∈ u_ws RX8 TX8 11, q ∈ ztb := zuws [423, 425, 427, 429, 431, 433, 435, 437, 439, 441, 443] (by decide +kernel) (by decide +kernel)
theorem fl_X8_10 : zFL RX8 10 8 0 := ⟨by decide, RX8, TX8, 11, tyX8, rfl, by decide, zmem 412 (by decide +kernel) rfl, zin_8, tyX8_ok, nmX8, zn_8⟩
theorem fl_X8_73 : zFL RX8 73 7 1 := ⟨by decide, RX7, TX7, 2, tyX7, rfl, by decide, zmem 102 (by decide +kernel) rfl, zin_7, tyX7_ok, nmX7, zn_7⟩
theorem ml_X8_77 : zMV RX8 77 RX7 yX7_append cX7_append 3 none 1 := ⟨zmem 450 (by decide +kernel) rfl, zmem 451 (by decide +kernel) rfl, zmem 452 (by decide +kernel) rfl, zmem 69 (by decide +kernel) rfl, zmem 453 (by decide +kernel) rfl, by decide +kernel, by decide⟩
theorem fl_X8_21 : zFL RX8 21 8 1 := ⟨by decide, RX8, TX8, 11, tyX8, rfl, by decide, zmem 413 (by decide +kernel) rfl, zin_8, tyX8_ok, nmX8, zn_8⟩
theorem ml_X8_81 : zMV RX8 81 RX3 yX3_open cX3_open 2 none 1 := ⟨zmem 462 (by decide +kernel) rfl, zmem 463 (by decide +kernel) rfl, zmem 464 (by decide +kernel) rfl, zmem 70 (by decide +kernel) rfl, zmem 465 (by decide +kernel) rfl, by decide +kernel, by decide⟩
theorem fl_X8_32 : zFL RX8 32 8 3 := ⟨by decide, RX8, TX8, 11, tyX8, rfl, by decide, zmem 415 (by decide +kernel) rfl, zin_8, tyX8_ok, nmX8, zn_8⟩
theorem ml_X8_85 : zMV RX8 85 RX5 yX5_read cX5_read 3 (some .boolean) 1 := ⟨zmem 482 (by decide +kernel) rfl, zmem 483 (by decide +kernel) rfl, zmem 484 (by decide +kernel) rfl, zmem 75 (by decide +kernel) rfl, zmem 485 (by decide +kernel) rfl, by decide +kernel, by decide⟩
theorem fl_X8_28 : zFL RX8 28 8 2 := ⟨by decide, RX8, TX8, 11, tyX8, rfl, by decide, zmem 414 (by decide +kernel) rfl, zin_8, tyX8_ok, nmX8, zn_8⟩
theorem pd_8_2 : ∀ C T N, vwCl[8]? = some (C, T, N) → (T 2).2.2.2 = false ∧ parseFieldDescriptor (T 2).2.2.1 = some (.object "LeadBalls$Shed") := by
  intro C T N h
  have h : some (RX8, TX8, 11) = some (C, T, N) := h
  cases h
  exact ⟨rfl, by decide +kernel⟩
theorem pd_8_3 : ∀ C T N, vwCl[8]? = some (C, T, N) → (T 3).2.2.2 = false ∧ parseFieldDescriptor (T 3).2.2.1 = some (.object "LeadBalls$Shed") := by
  intro C T N h
  have h : some (RX8, TX8, 11) = some (C, T, N) := h
  cases h
  exact ⟨rfl, by decide +kernel⟩
theorem fl_X8_89 : zFL RX8 89 5 0 := ⟨by decide, RX5, TX5, 4, tyX5, rfl, by decide, zmem 267 (by decide +kernel) rfl, zin_5, tyX5_ok, nmX5, zn_5⟩
theorem fl_X8_42 : zFL RX8 42 8 5 := ⟨by decide, RX8, TX8, 11, tyX8, rfl, by decide, zmem 417 (by decide +kernel) rfl, zin_8, tyX8_ok, nmX8, zn_8⟩
theorem ml_X8_92 : zMV RX8 92 RX2 yX2_read cX2_read 3 (some .boolean) 1 := ⟨zmem 574 (by decide +kernel) rfl, zmem 575 (by decide +kernel) rfl, zmem 576 (by decide +kernel) rfl, zmem 77 (by decide +kernel) rfl, zmem 577 (by decide +kernel) rfl, by decide +kernel, by decide⟩
theorem fl_X8_38 : zFL RX8 38 8 4 := ⟨by decide, RX8, TX8, 11, tyX8, rfl, by decide, zmem 416 (by decide +kernel) rfl, zin_8, tyX8_ok, nmX8, zn_8⟩
theorem pd_8_4 : ∀ C T N, vwCl[8]? = some (C, T, N) → (T 4).2.2.2 = false ∧ parseFieldDescriptor (T 4).2.2.1 = some (.object "LeadBalls$Houses") := by
  intro C T N h
  have h : some (RX8, TX8, 11) = some (C, T, N) := h
  cases h
  exact ⟨rfl, by decide +kernel⟩
theorem pd_8_5 : ∀ C T N, vwCl[8]? = some (C, T, N) → (T 5).2.2.2 = false ∧ parseFieldDescriptor (T 5).2.2.1 = some (.object "LeadBalls$Houses") := by
  intro C T N h
  have h : some (RX8, TX8, 11) = some (C, T, N) := h
  cases h
  exact ⟨rfl, by decide +kernel⟩
theorem fl_X8_93 : zFL RX8 93 2 0 := ⟨by decide, RX2, TX2, 7, tyX2, rfl, by decide, zmem 288 (by decide +kernel) rfl, zin_2, tyX2_ok, nmX2, zn_2⟩
theorem fl_X8_52 : zFL RX8 52 8 7 := ⟨by decide, RX8, TX8, 11, tyX8, rfl, by decide, zmem 419 (by decide +kernel) rfl, zin_8, tyX8_ok, nmX8, zn_8⟩
theorem ml_X8_96 : zMV RX8 96 RX6 yX6_read cX6_read 3 (some .boolean) 1 := ⟨zmem 594 (by decide +kernel) rfl, zmem 595 (by decide +kernel) rfl, zmem 596 (by decide +kernel) rfl, zmem 78 (by decide +kernel) rfl, zmem 597 (by decide +kernel) rfl, by decide +kernel, by decide⟩
theorem fl_X8_48 : zFL RX8 48 8 6 := ⟨by decide, RX8, TX8, 11, tyX8, rfl, by decide, zmem 418 (by decide +kernel) rfl, zin_8, tyX8_ok, nmX8, zn_8⟩
theorem pd_8_6 : ∀ C T N, vwCl[8]? = some (C, T, N) → (T 6).2.2.2 = false ∧ parseFieldDescriptor (T 6).2.2.1 = some (.object "LeadBalls$Sum") := by
  intro C T N h
  have h : some (RX8, TX8, 11) = some (C, T, N) := h
  cases h
  exact ⟨rfl, by decide +kernel⟩
theorem pd_8_7 : ∀ C T N, vwCl[8]? = some (C, T, N) → (T 7).2.2.2 = false ∧ parseFieldDescriptor (T 7).2.2.1 = some (.object "LeadBalls$Sum") := by
  intro C T N h
  have h : some (RX8, TX8, 11) = some (C, T, N) := h
  cases h
  exact ⟨rfl, by decide +kernel⟩
theorem fl_X8_97 : zFL RX8 97 6 0 := ⟨by decide, RX6, TX6, 12, tyX6, rfl, by decide, zmem 317 (by decide +kernel) rfl, zin_6, tyX6_ok, nmX6, zn_6⟩
theorem fl_X8_101 : zFL RX8 101 3 11 := ⟨by decide, RX3, TX3, 12, tyX3, rfl, by decide, zmem 190 (by decide +kernel) rfl, zin_3, tyX3_ok, nmX3, zn_3⟩
theorem fl_X8_98 : zFL RX8 98 3 10 := ⟨by decide, RX3, TX3, 12, tyX3, rfl, by decide, zmem 188 (by decide +kernel) rfl, zin_3, tyX3_ok, nmX3, zn_3⟩
theorem zsi_200 : (Int16.ofInt (200)).toInt32 = 200 := by decide
theorem kcL_X8_108 : Cond.constantLong RX8 108 (-1000000000000) ∈ ztb := zmem 644 (by decide +kernel) rfl
theorem ml_X8_234 : zMS RX8 234 yJ9_abs_067f4 cJ9_abs_067f4 2 (some .long) 1 := ⟨zmem 667 (by decide +kernel) rfl, zmem 668 (by decide +kernel) rfl, zmem 84 (by decide +kernel) rfl, zmem 669 (by decide +kernel) rfl, by decide +kernel, by decide⟩
theorem ml_X8_238 : zMS RX8 238 yX8_commonDivisor cX8_commonDivisor 7 (some .long) 2 := ⟨zmem 670 (by decide +kernel) rfl, zmem 671 (by decide +kernel) rfl, zmem 68 (by decide +kernel) rfl, zmem 672 (by decide +kernel) rfl, by decide +kernel, by decide⟩
theorem ml_X8_104 : zMS RX8 104 yX8_within cX8_within 3 (some .boolean) 3 := ⟨zmem 643 (by decide +kernel) rfl, zmem 537 (by decide +kernel) rfl, zmem 68 (by decide +kernel) rfl, zmem 538 (by decide +kernel) rfl, by decide +kernel, by decide⟩
theorem ml_X8_110 : zMV RX8 110 RX5 yX5_restUpper cX5_restUpper 7 (some .long) 2 := ⟨zmem 645 (by decide +kernel) rfl, zmem 646 (by decide +kernel) rfl, zmem 647 (by decide +kernel) rfl, zmem 75 (by decide +kernel) rfl, zmem 648 (by decide +kernel) rfl, by decide +kernel, by decide⟩
theorem ml_X8_114 : zMV RX8 114 RX5 yX5_lower cX5_lower 5 (some .long) 0 := ⟨zmem 663 (by decide +kernel) rfl, zmem 654 (by decide +kernel) rfl, zmem 655 (by decide +kernel) rfl, zmem 75 (by decide +kernel) rfl, zmem 656 (by decide +kernel) rfl, by decide +kernel, by decide⟩
theorem ml_X8_118 : zMS RX8 118 yX8_lowest cX8_lowest 7 (some .long) 3 := ⟨zmem 664 (by decide +kernel) rfl, zmem 665 (by decide +kernel) rfl, zmem 68 (by decide +kernel) rfl, zmem 666 (by decide +kernel) rfl, by decide +kernel, by decide⟩
theorem ml_X8_229 : zMS RX8 229 yJ9_floorDiv_f86c9 cJ9_floorDiv_f86c9 6 (some .long) 2 := ⟨zmem 681 (by decide +kernel) rfl, zmem 682 (by decide +kernel) rfl, zmem 84 (by decide +kernel) rfl, zmem 683 (by decide +kernel) rfl, by decide +kernel, by decide⟩
theorem zbi_19 : (Int8.ofInt (19)).toInt32 = 19 := by decide
theorem kcL_X8_122 : Cond.constantLong RX8 122 (1000) ∈ ztb := zmem 677 (by decide +kernel) rfl
theorem ml_X8_124 : zMS RX8 124 yX8_floorOf cX8_floorOf 4 (some .long) 2 := ⟨zmem 678 (by decide +kernel) rfl, zmem 679 (by decide +kernel) rfl, zmem 68 (by decide +kernel) rfl, zmem 680 (by decide +kernel) rfl, by decide +kernel, by decide⟩
theorem zsi_261 : (Int16.ofInt (261)).toInt32 = 261 := by decide
theorem ml_X8_128 : zMV RX8 128 RX5 yX5_setting cX5_setting 3 (some .long) 1 := ⟨zmem 684 (by decide +kernel) rfl, zmem 650 (by decide +kernel) rfl, zmem 651 (by decide +kernel) rfl, zmem 75 (by decide +kernel) rfl, zmem 652 (by decide +kernel) rfl, by decide +kernel, by decide⟩
theorem kcL_X8_132 : Cond.constantLong RX8 132 (100) ∈ ztb := zmem 685 (by decide +kernel) rfl
theorem zsi_262 : (Int16.ofInt (262)).toInt32 = 262 := by decide
theorem kcL_X8_134 : Cond.constantLong RX8 134 (2) ∈ ztb := zmem 690 (by decide +kernel) rfl
theorem fl_X8_58 : zFL RX8 58 8 8 := ⟨by decide, RX8, TX8, 11, tyX8, rfl, by decide, zmem 420 (by decide +kernel) rfl, zin_8, tyX8_ok, nmX8, zn_8⟩
theorem ml_X8_136 : zMV RX8 136 RX4 yX4_tell cX4_tell 4 (some .int) 3 := ⟨zmem 695 (by decide +kernel) rfl, zmem 696 (by decide +kernel) rfl, zmem 697 (by decide +kernel) rfl, zmem 79 (by decide +kernel) rfl, zmem 698 (by decide +kernel) rfl, by decide +kernel, by decide⟩
theorem ml_X8_140 : zMV RX8 140 RX4 yX4_takeBack cX4_takeBack 2 (some .boolean) 1 := ⟨zmem 704 (by decide +kernel) rfl, zmem 705 (by decide +kernel) rfl, zmem 706 (by decide +kernel) rfl, zmem 79 (by decide +kernel) rfl, zmem 707 (by decide +kernel) rfl, by decide +kernel, by decide⟩
theorem ml_X8_144 : zMV RX8 144 RX4 yX4_goOn cX4_goOn 2 (some .int) 1 := ⟨zmem 712 (by decide +kernel) rfl, zmem 713 (by decide +kernel) rfl, zmem 714 (by decide +kernel) rfl, zmem 79 (by decide +kernel) rfl, zmem 715 (by decide +kernel) rfl, by decide +kernel, by decide⟩
theorem fl_X8_65 : zFL RX8 65 8 9 := ⟨by decide, RX8, TX8, 11, tyX8, rfl, by decide, zmem 421 (by decide +kernel) rfl, zin_8, tyX8_ok, nmX8, zn_8⟩
theorem ml_X8_148 : zMV RX8 148 RX1 yX1_solve cX1_solve 5 (some .boolean) 3 := ⟨zmem 721 (by decide +kernel) rfl, zmem 722 (by decide +kernel) rfl, zmem 723 (by decide +kernel) rfl, zmem 80 (by decide +kernel) rfl, zmem 724 (by decide +kernel) rfl, by decide +kernel, by decide⟩
theorem ml_X8_152 : zMV RX8 152 RX1 yX1_mostOff cX1_mostOff 9 (some .long) 2 := ⟨zmem 748 (by decide +kernel) rfl, zmem 749 (by decide +kernel) rfl, zmem 750 (by decide +kernel) rfl, zmem 80 (by decide +kernel) rfl, zmem 751 (by decide +kernel) rfl, by decide +kernel, by decide⟩
theorem fl_X8_156 : zFL RX8 156 1 1 := ⟨by decide, RX1, TX1, 5, tyX1, rfl, by decide, zmem 397 (by decide +kernel) rfl, zin_1, tyX1_ok, nmX1, zn_1⟩
theorem fl_X8_159 : zFL RX8 159 1 0 := ⟨by decide, RX1, TX1, 5, tyX1, rfl, by decide, zmem 395 (by decide +kernel) rfl, zin_1, tyX1_ok, nmX1, zn_1⟩
theorem kcL_X8_163 : Cond.constantLong RX8 163 (-1) ∈ ztb := zmem 760 (by decide +kernel) rfl
theorem ml_X8_165 : zMV RX8 165 RX5 yX5_pullUpper cX5_pullUpper 5 (some .long) 0 := ⟨zmem 761 (by decide +kernel) rfl, zmem 660 (by decide +kernel) rfl, zmem 661 (by decide +kernel) rfl, zmem 75 (by decide +kernel) rfl, zmem 662 (by decide +kernel) rfl, by decide +kernel, by decide⟩
theorem kcL_X8_168 : Cond.constantLong RX8 168 (100000) ∈ ztb := zmem 762 (by decide +kernel) rfl
theorem ml_X8_244 : zMS RX8 244 yJ9_abs_0f7a4 cJ9_abs_0f7a4 1 (some .int) 1 := ⟨zmem 774 (by decide +kernel) rfl, zmem 775 (by decide +kernel) rfl, zmem 84 (by decide +kernel) rfl, zmem 776 (by decide +kernel) rfl, by decide +kernel, by decide⟩
theorem kcL_X8_246 : Cond.constantLong RX8 246 (10000) ∈ ztb := zmem 777 (by decide +kernel) rfl
theorem ml_X8_180 : zMS RX8 180 yJ6_bitCount_0f7a4 cJ6_bitCount_0f7a4 1 (some .int) 1 := ⟨zmem 770 (by decide +kernel) rfl, zmem 498 (by decide +kernel) rfl, zmem 83 (by decide +kernel) rfl, zmem 499 (by decide +kernel) rfl, by decide +kernel, by decide⟩
theorem ml_X8_241 : zMS RX8 241 yX8_orderWeight cX8_orderWeight 7 (some .long) 2 := ⟨zmem 771 (by decide +kernel) rfl, zmem 772 (by decide +kernel) rfl, zmem 68 (by decide +kernel) rfl, zmem 773 (by decide +kernel) rfl, by decide +kernel, by decide⟩
theorem fl_X8_69 : zFL RX8 69 8 10 := ⟨by decide, RX8, TX8, 11, tyX8, rfl, by decide, zmem 422 (by decide +kernel) rfl, zin_8, tyX8_ok, nmX8, zn_8⟩
theorem ml_X8_170 : zMS RX8 170 yX8_bestOrder cX8_bestOrder 7 (some .int) 1 := ⟨zmem 767 (by decide +kernel) rfl, zmem 768 (by decide +kernel) rfl, zmem 68 (by decide +kernel) rfl, zmem 769 (by decide +kernel) rfl, by decide +kernel, by decide⟩
theorem ml_X8_185 : zMV RX8 185 RX2 yX2_apart cX2_apart 5 (some .int) 0 := ⟨zmem 798 (by decide +kernel) rfl, zmem 799 (by decide +kernel) rfl, zmem 800 (by decide +kernel) rfl, zmem 77 (by decide +kernel) rfl, zmem 801 (by decide +kernel) rfl, by decide +kernel, by decide⟩
theorem ml_X8_177 : zMV RX8 177 RX2 yX2_out cX2_out 6 (some .int) 0 := ⟨zmem 788 (by decide +kernel) rfl, zmem 789 (by decide +kernel) rfl, zmem 790 (by decide +kernel) rfl, zmem 77 (by decide +kernel) rfl, zmem 791 (by decide +kernel) rfl, by decide +kernel, by decide⟩
theorem ml_X8_173 : zMV RX8 173 RX2 yX2_more cX2_more 4 (some .int) 0 := ⟨zmem 782 (by decide +kernel) rfl, zmem 783 (by decide +kernel) rfl, zmem 784 (by decide +kernel) rfl, zmem 77 (by decide +kernel) rfl, zmem 785 (by decide +kernel) rfl, by decide +kernel, by decide⟩
theorem ml_X8_194 : zMV RX8 194 RX6 yX6_moved cX6_moved 3 (some .int) 1 := ⟨zmem 810 (by decide +kernel) rfl, zmem 811 (by decide +kernel) rfl, zmem 812 (by decide +kernel) rfl, zmem 78 (by decide +kernel) rfl, zmem 813 (by decide +kernel) rfl, by decide +kernel, by decide⟩
theorem fl_X8_191 : zFL RX8 191 6 3 := ⟨by decide, RX6, TX6, 12, tyX6, rfl, by decide, zmem 323 (by decide +kernel) rfl, zin_6, tyX6_ok, nmX6, zn_6⟩
theorem fl_X8_188 : zFL RX8 188 6 2 := ⟨by decide, RX6, TX6, 12, tyX6, rfl, by decide, zmem 321 (by decide +kernel) rfl, zin_6, tyX6_ok, nmX6, zn_6⟩
theorem ml_X8_197 : zMV RX8 197 RX6 yX6_lastWith cX6_lastWith 4 (some .int) 1 := ⟨zmem 822 (by decide +kernel) rfl, zmem 815 (by decide +kernel) rfl, zmem 816 (by decide +kernel) rfl, zmem 78 (by decide +kernel) rfl, zmem 817 (by decide +kernel) rfl, by decide +kernel, by decide⟩
theorem fl_X8_200 : zFL RX8 200 5 1 := ⟨by decide, RX5, TX5, 4, tyX5, rfl, by decide, zmem 269 (by decide +kernel) rfl, zin_5, tyX5_ok, nmX5, zn_5⟩
theorem ml_X8_204 : zMV RX8 204 RX0 yX0_tell cX0_tell 6 (some .boolean) 2 := ⟨zmem 827 (by decide +kernel) rfl, zmem 828 (by decide +kernel) rfl, zmem 829 (by decide +kernel) rfl, zmem 76 (by decide +kernel) rfl, zmem 830 (by decide +kernel) rfl, by decide +kernel, by decide⟩
theorem ml_X8_209 : zMV RX8 209 RX0 yX0_possible cX0_possible 3 (some .int) 0 := ⟨zmem 836 (by decide +kernel) rfl, zmem 837 (by decide +kernel) rfl, zmem 838 (by decide +kernel) rfl, zmem 76 (by decide +kernel) rfl, zmem 839 (by decide +kernel) rfl, by decide +kernel, by decide⟩
theorem ml_X8_212 : zMV RX8 212 RX0 yX0_bestTrial cX0_bestTrial 6 (some .int) 0 := ⟨zmem 844 (by decide +kernel) rfl, zmem 845 (by decide +kernel) rfl, zmem 846 (by decide +kernel) rfl, zmem 76 (by decide +kernel) rfl, zmem 847 (by decide +kernel) rfl, by decide +kernel, by decide⟩
theorem ml_X8_215 : zMV RX8 215 RX0 yX0_fewestTrials cX0_fewestTrials 1 (some .int) 0 := ⟨zmem 853 (by decide +kernel) rfl, zmem 854 (by decide +kernel) rfl, zmem 855 (by decide +kernel) rfl, zmem 76 (by decide +kernel) rfl, zmem 856 (by decide +kernel) rfl, by decide +kernel, by decide⟩
theorem fl_X8_226 : zFL RX8 226 6 1 := ⟨by decide, RX6, TX6, 12, tyX6, rfl, by decide, zmem 319 (by decide +kernel) rfl, zin_6, tyX6_ok, nmX6, zn_6⟩
theorem fl_X8_223 : zFL RX8 223 4 1 := ⟨by decide, RX4, TX4, 7, tyX4, rfl, by decide, zmem 367 (by decide +kernel) rfl, zin_4, tyX4_ok, nmX4, zn_4⟩
theorem fl_X8_222 : zFL RX8 222 4 0 := ⟨by decide, RX4, TX4, 7, tyX4, rfl, by decide, zmem 365 (by decide +kernel) rfl, zin_4, tyX4_ok, nmX4, zn_4⟩
theorem fl_X8_219 : zFL RX8 219 0 1 := ⟨by decide, RX0, TX0, 8, tyX0, rfl, by decide, zmem 232 (by decide +kernel) rfl, zin_0, tyX0_ok, nmX0, zn_0⟩
theorem fl_X8_218 : zFL RX8 218 0 0 := ⟨by decide, RX0, TX0, 8, tyX0, rfl, by decide, zmem 230 (by decide +kernel) rfl, zin_0, tyX0_ok, nmX0, zn_0⟩
theorem zn_9 : ∀ o : Nat, zC o = 9 → zN o = 72 := zN_cls (fun o => zC o != 9 || zN o == 72) (by decide +kernel) (fun o h h2 => by simpa [h2] using h)
theorem zin_9 : ∀ q ∈ u_ws RX9 TX9 72, q ∈ ztb := zuws [946, 948, 950, 952, 954, 956, 958, 960, 962, 964, 966, 968, 970, 972, 974, 976, 978, 980, 982, 984, 986, 988, 990, 992, 994, 996, 998, 1000, 1002, 1004, 1006, 1008, 1010, 1012, 1014, 1016, 1018, 1020, 1022, 1024, 1026, 1028, 1030, 1032, 1034, 1036, 1038, 1040, 1042, 1044, 1046, 1048, 1050, 1052, 1054, 1056, 1058, 1060, 1062, 1064, 1066, 1068, 1070, 1072, 1074, 1076, 1078, 1080, 1082, 1084, 1086, 1088] (by decide +kernel) (by decide +kernel)
theorem fl_X9_7 : zFL RX9 7 9 0 := ⟨by decide, RX9, TX9, 72, tyX9, rfl, by decide, zmem 874 (by decide +kernel) rfl, zin_9, tyX9_ok, nmX9, zn_9⟩
theorem fl_X9_148 : zFL RX9 148 9 1 := ⟨by decide, RX9, TX9, 72, tyX9, rfl, by decide, zmem 875 (by decide +kernel) rfl, zin_9, tyX9_ok, nmX9, zn_9⟩
theorem zsi_255 : (Int16.ofInt (255)).toInt32 = 255 := by decide
theorem pd_9_1 : ∀ C T N, vwCl[9]? = some (C, T, N) → (T 1).2.2.2 = false ∧ parseFieldDescriptor (T 1).2.2.1 = some (.int) := by
  intro C T N h
  have h : some (RX9, TX9, 72) = some (C, T, N) := h
  cases h
  exact ⟨rfl, by decide +kernel⟩
theorem ml_X9_151 : zMV RX9 151 RX9 yX9_four cX9_four 3 none 1 := ⟨zmem 1096 (by decide +kernel) rfl, zmem 1098 (by decide +kernel) rfl, zmem 21 (by decide +kernel) rfl, zmem 81 (by decide +kernel) rfl, zmem 1099 (by decide +kernel) rfl, by decide +kernel, by decide⟩
theorem fl_X9_155 : zFL RX9 155 9 4 := ⟨by decide, RX9, TX9, 72, tyX9, rfl, by decide, zmem 878 (by decide +kernel) rfl, zin_9, tyX9_ok, nmX9, zn_9⟩
theorem fl_X9_158 : zFL RX9 158 9 5 := ⟨by decide, RX9, TX9, 72, tyX9, rfl, by decide, zmem 879 (by decide +kernel) rfl, zin_9, tyX9_ok, nmX9, zn_9⟩
theorem fl_X9_161 : zFL RX9 161 9 10 := ⟨by decide, RX9, TX9, 72, tyX9, rfl, by decide, zmem 884 (by decide +kernel) rfl, zin_9, tyX9_ok, nmX9, zn_9⟩
theorem ml_X9_165 : zMV RX9 165 RX9 yX9_here cX9_here 2 (some .int) 1 := ⟨zmem 1116 (by decide +kernel) rfl, zmem 1118 (by decide +kernel) rfl, zmem 24 (by decide +kernel) rfl, zmem 81 (by decide +kernel) rfl, zmem 1119 (by decide +kernel) rfl, by decide +kernel, by decide⟩
theorem pd_9_4 : ∀ C T N, vwCl[9]? = some (C, T, N) → (T 4).2.2.2 = false ∧ parseFieldDescriptor (T 4).2.2.1 = some (.int) := by
  intro C T N h
  have h : some (RX9, TX9, 72) = some (C, T, N) := h
  cases h
  exact ⟨rfl, by decide +kernel⟩
theorem fl_X9_169 : zFL RX9 169 9 7 := ⟨by decide, RX9, TX9, 72, tyX9, rfl, by decide, zmem 881 (by decide +kernel) rfl, zin_9, tyX9_ok, nmX9, zn_9⟩
theorem pd_9_7 : ∀ C T N, vwCl[9]? = some (C, T, N) → (T 7).2.2.2 = false ∧ parseFieldDescriptor (T 7).2.2.1 = some (.int) := by
  intro C T N h
  have h : some (RX9, TX9, 72) = some (C, T, N) := h
  cases h
  exact ⟨rfl, by decide +kernel⟩
theorem fl_X9_172 : zFL RX9 172 9 9 := ⟨by decide, RX9, TX9, 72, tyX9, rfl, by decide, zmem 883 (by decide +kernel) rfl, zin_9, tyX9_ok, nmX9, zn_9⟩
theorem pd_9_9 : ∀ C T N, vwCl[9]? = some (C, T, N) → (T 9).2.2.2 = false ∧ parseFieldDescriptor (T 9).2.2.1 = some (.long) := by
  intro C T N h
  have h : some (RX9, TX9, 72) = some (C, T, N) := h
  cases h
  exact ⟨rfl, by decide +kernel⟩
theorem fl_X9_176 : zFL RX9 176 9 8 := ⟨by decide, RX9, TX9, 72, tyX9, rfl, by decide, zmem 882 (by decide +kernel) rfl, zin_9, tyX9_ok, nmX9, zn_9⟩
theorem pd_9_8 : ∀ C T N, vwCl[9]? = some (C, T, N) → (T 8).2.2.2 = false ∧ parseFieldDescriptor (T 8).2.2.1 = some (.int) := by
  intro C T N h
  have h : some (RX9, TX9, 72) = some (C, T, N) := h
  cases h
  exact ⟨rfl, by decide +kernel⟩
theorem fl_X9_179 : zFL RX9 179 9 6 := ⟨by decide, RX9, TX9, 72, tyX9, rfl, by decide, zmem 880 (by decide +kernel) rfl, zin_9, tyX9_ok, nmX9, zn_9⟩
theorem pd_9_6 : ∀ C T N, vwCl[9]? = some (C, T, N) → (T 6).2.2.2 = false ∧ parseFieldDescriptor (T 6).2.2.1 = some (.int) := by
  intro C T N h
  have h : some (RX9, TX9, 72) = some (C, T, N) := h
  cases h
  exact ⟨rfl, by decide +kernel⟩
theorem ml_X9_182 : zMS RX9 182 yX9_isLetter cX9_isLetter 1 (some .boolean) 1 := ⟨zmem 1120 (by decide +kernel) rfl, zmem 1121 (by decide +kernel) rfl, zmem 81 (by decide +kernel) rfl, zmem 1122 (by decide +kernel) rfl, by decide +kernel, by decide⟩
theorem ml_X9_186 : zMS RX9 186 yX9_isDigit cX9_isDigit 1 (some .boolean) 1 := ⟨zmem 1123 (by decide +kernel) rfl, zmem 1124 (by decide +kernel) rfl, zmem 81 (by decide +kernel) rfl, zmem 1125 (by decide +kernel) rfl, by decide +kernel, by decide⟩
theorem ml_X9_189 : zMV RX9 189 RX9 yX9_isSign cX9_isSign 2 (some .boolean) 1 := ⟨zmem 1126 (by decide +kernel) rfl, zmem 1128 (by decide +kernel) rfl, zmem 25 (by decide +kernel) rfl, zmem 81 (by decide +kernel) rfl, zmem 1129 (by decide +kernel) rfl, by decide +kernel, by decide⟩
theorem fl_X9_192 : zFL RX9 192 9 2 := ⟨by decide, RX9, TX9, 72, tyX9, rfl, by decide, zmem 876 (by decide +kernel) rfl, zin_9, tyX9_ok, nmX9, zn_9⟩
theorem pd_9_2 : ∀ C T N, vwCl[9]? = some (C, T, N) → (T 2).2.2.2 = false ∧ parseFieldDescriptor (T 2).2.2.1 = some (.int) := by
  intro C T N h
  have h : some (RX9, TX9, 72) = some (C, T, N) := h
  cases h
  exact ⟨rfl, by decide +kernel⟩
theorem fl_X9_13 : zFL RX9 13 9 3 := ⟨by decide, RX9, TX9, 72, tyX9, rfl, by decide, zmem 877 (by decide +kernel) rfl, zin_9, tyX9_ok, nmX9, zn_9⟩
theorem pd_9_3 : ∀ C T N, vwCl[9]? = some (C, T, N) → (T 3).2.2.2 = false ∧ parseFieldDescriptor (T 3).2.2.1 = some (.int) := by
  intro C T N h
  have h : some (RX9, TX9, 72) = some (C, T, N) := h
  cases h
  exact ⟨rfl, by decide +kernel⟩
theorem pd_9_10 : ∀ C T N, vwCl[9]? = some (C, T, N) → (T 10).2.2.2 = false ∧ parseFieldDescriptor (T 10).2.2.1 = some (.boolean) := by
  intro C T N h
  have h : some (RX9, TX9, 72) = some (C, T, N) := h
  cases h
  exact ⟨rfl, by decide +kernel⟩
theorem pd_9_5 : ∀ C T N, vwCl[9]? = some (C, T, N) → (T 5).2.2.2 = false ∧ parseFieldDescriptor (T 5).2.2.1 = some (.int) := by
  intro C T N h
  have h : some (RX9, TX9, 72) = some (C, T, N) := h
  cases h
  exact ⟨rfl, by decide +kernel⟩
theorem ml_X9_195 : zMV RX9 195 RX9 yX9_token cX9_token 3 none 0 := ⟨zmem 1112 (by decide +kernel) rfl, zmem 1114 (by decide +kernel) rfl, zmem 23 (by decide +kernel) rfl, zmem 81 (by decide +kernel) rfl, zmem 1115 (by decide +kernel) rfl, by decide +kernel, by decide⟩
theorem kcL_X9_198 : Cond.constantLong RX9 198 (1650551916) ∈ ztb := zmem 1134 (by decide +kernel) rfl
theorem kcL_X9_226 : Cond.constantLong RX9 226 (448546567013) ∈ ztb := zmem 1188 (by decide +kernel) rfl
theorem kcL_X9_228 : Cond.constantLong RX9 228 (1935767923) ∈ ztb := zmem 1189 (by decide +kernel) rfl
theorem kcL_X9_230 : Cond.constantLong RX9 230 (1936744814) ∈ ztb := zmem 1190 (by decide +kernel) rfl
theorem kcL_X9_232 : Cond.constantLong RX9 232 (109287261888882) ∈ ztb := zmem 1191 (by decide +kernel) rfl
theorem kcL_X9_234 : Cond.constantLong RX9 234 (26995) ∈ ztb := zmem 1192 (by decide +kernel) rfl
theorem kcL_X9_236 : Cond.constantLong RX9 236 (123636697429107) ∈ ztb := zmem 1193 (by decide +kernel) rfl
theorem kcL_X9_200 : Cond.constantLong RX9 200 (1852137842) ∈ ztb := zmem 1163 (by decide +kernel) rfl
theorem kcL_X9_202 : Cond.constantLong RX9 202 (6709618) ∈ ztb := zmem 1168 (by decide +kernel) rfl
theorem kcL_X9_204 : Cond.constantLong RX9 204 (7499620) ∈ ztb := zmem 1139 (by decide +kernel) rfl
theorem kcL_X9_206 : Cond.constantLong RX9 206 (2003399269) ∈ ztb := zmem 1140 (by decide +kernel) rfl
theorem kcL_X9_208 : Cond.constantLong RX9 208 (1684106608) ∈ ztb := zmem 1141 (by decide +kernel) rfl
theorem kcL_X9_210 : Cond.constantLong RX9 210 (491327153267) ∈ ztb := zmem 1142 (by decide +kernel) rfl
theorem kcL_X9_212 : Cond.constantLong RX9 212 (2053468783) ∈ ztb := zmem 1143 (by decide +kernel) rfl
theorem kcL_X9_214 : Cond.constantLong RX9 214 (427121010032) ∈ ztb := zmem 1144 (by decide +kernel) rfl
theorem kcL_X9_216 : Cond.constantLong RX9 216 (2002874989) ∈ ztb := zmem 1145 (by decide +kernel) rfl
theorem kcL_X9_218 : Cond.constantLong RX9 218 (1769107310) ∈ ztb := zmem 1146 (by decide +kernel) rfl
theorem kcL_X9_220 : Cond.constantLong RX9 220 (426836849509) ∈ ztb := zmem 1169 (by decide +kernel) rfl
theorem kcL_X9_222 : Cond.constantLong RX9 222 (500135715180) ∈ ztb := zmem 1186 (by decide +kernel) rfl
theorem kcL_X9_224 : Cond.constantLong RX9 224 (495673374579) ∈ ztb := zmem 1187 (by decide +kernel) rfl
theorem ml_X9_238 : zMV RX9 238 RX9 yX9_isWord cX9_isWord 3 (some .boolean) 1 := ⟨zmem 1135 (by decide +kernel) rfl, zmem 1137 (by decide +kernel) rfl, zmem 27 (by decide +kernel) rfl, zmem 81 (by decide +kernel) rfl, zmem 1138 (by decide +kernel) rfl, by decide +kernel, by decide⟩
theorem ml_X9_242 : zMV RX9 242 RX9 yX9_wrong cX9_wrong 2 none 1 := ⟨zmem 1155 (by decide +kernel) rfl, zmem 1157 (by decide +kernel) rfl, zmem 30 (by decide +kernel) rfl, zmem 81 (by decide +kernel) rfl, zmem 1158 (by decide +kernel) rfl, by decide +kernel, by decide⟩
theorem ml_X9_245 : zMV RX9 245 RX9 yX9_isName cX9_isName 2 (some .boolean) 0 := ⟨zmem 1182 (by decide +kernel) rfl, zmem 1184 (by decide +kernel) rfl, zmem 36 (by decide +kernel) rfl, zmem 81 (by decide +kernel) rfl, zmem 1185 (by decide +kernel) rfl, by decide +kernel, by decide⟩
theorem zbi_50 : (Int8.ofInt (50)).toInt32 = 50 := by decide
theorem zbi_90 : (Int8.ofInt (90)).toInt32 = 90 := by decide
theorem zbi_9 : (Int8.ofInt (9)).toInt32 = 9 := by decide
theorem zbi_7 : (Int8.ofInt (7)).toInt32 = 7 := by decide
theorem fl_X9_252 : zFL RX9 252 9 18 := ⟨by decide, RX9, TX9, 72, tyX9, rfl, by decide, zmem 892 (by decide +kernel) rfl, zin_9, tyX9_ok, nmX9, zn_9⟩
theorem fl_X9_33 : zFL RX9 33 9 16 := ⟨by decide, RX9, TX9, 72, tyX9, rfl, by decide, zmem 890 (by decide +kernel) rfl, zin_9, tyX9_ok, nmX9, zn_9⟩
theorem fl_X9_29 : zFL RX9 29 9 15 := ⟨by decide, RX9, TX9, 72, tyX9, rfl, by decide, zmem 889 (by decide +kernel) rfl, zin_9, tyX9_ok, nmX9, zn_9⟩
theorem fl_X9_17 : zFL RX9 17 9 11 := ⟨by decide, RX9, TX9, 72, tyX9, rfl, by decide, zmem 885 (by decide +kernel) rfl, zin_9, tyX9_ok, nmX9, zn_9⟩
theorem zbi_100 : (Int8.ofInt (100)).toInt32 = 100 := by decide
theorem ml_X9_259 : zMV RX9 259 RX9 yX9_toldNumber cX9_toldNumber 4 (some .int) 2 := ⟨zmem 1159 (by decide +kernel) rfl, zmem 1161 (by decide +kernel) rfl, zmem 31 (by decide +kernel) rfl, zmem 81 (by decide +kernel) rfl, zmem 1162 (by decide +kernel) rfl, by decide +kernel, by decide⟩
theorem ml_X9_262 : zMV RX9 262 RX9 yX9_want cX9_want 3 none 1 := ⟨zmem 1164 (by decide +kernel) rfl, zmem 1166 (by decide +kernel) rfl, zmem 32 (by decide +kernel) rfl, zmem 81 (by decide +kernel) rfl, zmem 1167 (by decide +kernel) rfl, by decide +kernel, by decide⟩
theorem zbi_99 : (Int8.ofInt (99)).toInt32 = 99 := by decide
theorem ml_X9_255 : zMV RX9 255 RX9 yX9_signed cX9_signed 6 (some .int) 2 := ⟨zmem 1151 (by decide +kernel) rfl, zmem 1153 (by decide +kernel) rfl, zmem 29 (by decide +kernel) rfl, zmem 81 (by decide +kernel) rfl, zmem 1154 (by decide +kernel) rfl, by decide +kernel, by decide⟩
theorem ml_X9_266 : zMV RX9 266 RX9 yX9_causeOf cX9_causeOf 5 (some .int) 1 := ⟨zmem 1174 (by decide +kernel) rfl, zmem 1176 (by decide +kernel) rfl, zmem 34 (by decide +kernel) rfl, zmem 81 (by decide +kernel) rfl, zmem 1177 (by decide +kernel) rfl, by decide +kernel, by decide⟩
theorem ml_X9_270 : zMV RX9 270 RX9 yX9_named cX9_named 4 (some .long) 1 := ⟨zmem 1178 (by decide +kernel) rfl, zmem 1180 (by decide +kernel) rfl, zmem 35 (by decide +kernel) rfl, zmem 81 (by decide +kernel) rfl, zmem 1181 (by decide +kernel) rfl, by decide +kernel, by decide⟩
theorem pd_9_18 : ∀ C T N, vwCl[9]? = some (C, T, N) → (T 18).2.2.2 = false ∧ parseFieldDescriptor (T 18).2.2.1 = some (.int) := by
  intro C T N h
  have h : some (RX9, TX9, 72) = some (C, T, N) := h
  cases h
  exact ⟨rfl, by decide +kernel⟩
theorem fl_X9_274 : zFL RX9 274 9 19 := ⟨by decide, RX9, TX9, 72, tyX9, rfl, by decide, zmem 893 (by decide +kernel) rfl, zin_9, tyX9_ok, nmX9, zn_9⟩
theorem fl_X9_37 : zFL RX9 37 9 17 := ⟨by decide, RX9, TX9, 72, tyX9, rfl, by decide, zmem 891 (by decide +kernel) rfl, zin_9, tyX9_ok, nmX9, zn_9⟩
theorem fl_X9_23 : zFL RX9 23 9 13 := ⟨by decide, RX9, TX9, 72, tyX9, rfl, by decide, zmem 887 (by decide +kernel) rfl, zin_9, tyX9_ok, nmX9, zn_9⟩
theorem pd_9_19 : ∀ C T N, vwCl[9]? = some (C, T, N) → (T 19).2.2.2 = false ∧ parseFieldDescriptor (T 19).2.2.1 = some (.int) := by
  intro C T N h
  have h : some (RX9, TX9, 72) = some (C, T, N) := h
  cases h
  exact ⟨rfl, by decide +kernel⟩
theorem fl_X9_277 : zFL RX9 277 9 20 := ⟨by decide, RX9, TX9, 72, tyX9, rfl, by decide, zmem 894 (by decide +kernel) rfl, zin_9, tyX9_ok, nmX9, zn_9⟩
theorem pd_9_20 : ∀ C T N, vwCl[9]? = some (C, T, N) → (T 20).2.2.2 = false ∧ parseFieldDescriptor (T 20).2.2.1 = some (.int) := by
  intro C T N h
  have h : some (RX9, TX9, 72) = some (C, T, N) := h
  cases h
  exact ⟨rfl, by decide +kernel⟩
theorem ml_X9_249 : zMS RX9 249 yX9_plainOf cX9_plainOf 1 (some .int) 1 := ⟨zmem 871 (by decide +kernel) rfl, zmem 872 (by decide +kernel) rfl, zmem 81 (by decide +kernel) rfl, zmem 873 (by decide +kernel) rfl, by decide +kernel, by decide⟩
theorem ml_X9_280 : zMV RX9 280 RX9 yX9_start cX9_start 2 none 1 := ⟨zmem 1108 (by decide +kernel) rfl, zmem 1110 (by decide +kernel) rfl, zmem 22 (by decide +kernel) rfl, zmem 81 (by decide +kernel) rfl, zmem 1111 (by decide +kernel) rfl, by decide +kernel, by decide⟩
theorem ml_X9_284 : zMV RX9 284 RX9 yX9_which cX9_which 1 (some .int) 0 := ⟨zmem 1130 (by decide +kernel) rfl, zmem 1132 (by decide +kernel) rfl, zmem 26 (by decide +kernel) rfl, zmem 81 (by decide +kernel) rfl, zmem 1133 (by decide +kernel) rfl, by decide +kernel, by decide⟩
theorem ml_X9_294 : zMV RX9 294 RX9 yX9_readTrial cX9_readTrial 6 none 0 := ⟨zmem 1194 (by decide +kernel) rfl, zmem 1196 (by decide +kernel) rfl, zmem 37 (by decide +kernel) rfl, zmem 81 (by decide +kernel) rfl, zmem 1197 (by decide +kernel) rfl, by decide +kernel, by decide⟩
theorem ml_X9_291 : zMV RX9 291 RX9 yX9_readCause cX9_readCause 3 none 0 := ⟨zmem 1170 (by decide +kernel) rfl, zmem 1172 (by decide +kernel) rfl, zmem 33 (by decide +kernel) rfl, zmem 81 (by decide +kernel) rfl, zmem 1173 (by decide +kernel) rfl, by decide +kernel, by decide⟩
theorem ml_X9_288 : zMV RX9 288 RX9 yX9_readTold cX9_readTold 2 none 1 := ⟨zmem 1147 (by decide +kernel) rfl, zmem 1149 (by decide +kernel) rfl, zmem 28 (by decide +kernel) rfl, zmem 81 (by decide +kernel) rfl, zmem 1150 (by decide +kernel) rfl, by decide +kernel, by decide⟩
theorem fl_X9_20 : zFL RX9 20 9 12 := ⟨by decide, RX9, TX9, 72, tyX9, rfl, by decide, zmem 886 (by decide +kernel) rfl, zin_9, tyX9_ok, nmX9, zn_9⟩
theorem fl_X9_26 : zFL RX9 26 9 14 := ⟨by decide, RX9, TX9, 72, tyX9, rfl, by decide, zmem 888 (by decide +kernel) rfl, zin_9, tyX9_ok, nmX9, zn_9⟩
theorem fl_X9_136 : zFL RX9 136 9 69 := ⟨by decide, RX9, TX9, 72, tyX9, rfl, by decide, zmem 943 (by decide +kernel) rfl, zin_9, tyX9_ok, nmX9, zn_9⟩
theorem fl_X9_297 : zFL RX9 297 9 21 := ⟨by decide, RX9, TX9, 72, tyX9, rfl, by decide, zmem 895 (by decide +kernel) rfl, zin_9, tyX9_ok, nmX9, zn_9⟩
theorem pd_9_21 : ∀ C T N, vwCl[9]? = some (C, T, N) → (T 21).2.2.2 = false ∧ parseFieldDescriptor (T 21).2.2.1 = some (.int) := by
  intro C T N h
  have h : some (RX9, TX9, 72) = some (C, T, N) := h
  cases h
  exact ⟨rfl, by decide +kernel⟩
theorem fl_X9_300 : zFL RX9 300 9 22 := ⟨by decide, RX9, TX9, 72, tyX9, rfl, by decide, zmem 896 (by decide +kernel) rfl, zin_9, tyX9_ok, nmX9, zn_9⟩
theorem pd_9_22 : ∀ C T N, vwCl[9]? = some (C, T, N) → (T 22).2.2.2 = false ∧ parseFieldDescriptor (T 22).2.2.1 = some (.int) := by
  intro C T N h
  have h : some (RX9, TX9, 72) = some (C, T, N) := h
  cases h
  exact ⟨rfl, by decide +kernel⟩
theorem ml_X9_303 : zMS RX9 303 yX9_common cX9_common 10 (some .long) 2 := ⟨zmem 1226 (by decide +kernel) rfl, zmem 1227 (by decide +kernel) rfl, zmem 81 (by decide +kernel) rfl, zmem 1228 (by decide +kernel) rfl, by decide +kernel, by decide⟩
theorem fl_X9_307 : zFL RX9 307 9 23 := ⟨by decide, RX9, TX9, 72, tyX9, rfl, by decide, zmem 897 (by decide +kernel) rfl, zin_9, tyX9_ok, nmX9, zn_9⟩
theorem pd_9_23 : ∀ C T N, vwCl[9]? = some (C, T, N) → (T 23).2.2.2 = false ∧ parseFieldDescriptor (T 23).2.2.1 = some (.long) := by
  intro C T N h
  have h : some (RX9, TX9, 72) = some (C, T, N) := h
  cases h
  exact ⟨rfl, by decide +kernel⟩
theorem fl_X9_310 : zFL RX9 310 9 24 := ⟨by decide, RX9, TX9, 72, tyX9, rfl, by decide, zmem 898 (by decide +kernel) rfl, zin_9, tyX9_ok, nmX9, zn_9⟩
theorem pd_9_24 : ∀ C T N, vwCl[9]? = some (C, T, N) → (T 24).2.2.2 = false ∧ parseFieldDescriptor (T 24).2.2.1 = some (.long) := by
  intro C T N h
  have h : some (RX9, TX9, 72) = some (C, T, N) := h
  cases h
  exact ⟨rfl, by decide +kernel⟩
theorem kcL_X9_313 : Cond.constantLong RX9 313 (1000) ∈ ztb := zmem 1221 (by decide +kernel) rfl
theorem ml_X9_315 : zMV RX9 315 RX9 yX9_found cX9_found 7 none 2 := ⟨zmem 1222 (by decide +kernel) rfl, zmem 1224 (by decide +kernel) rfl, zmem 40 (by decide +kernel) rfl, zmem 81 (by decide +kernel) rfl, zmem 1225 (by decide +kernel) rfl, by decide +kernel, by decide⟩
theorem ml_X9_319 : zMV RX9 319 RX9 yX9_seekPull cX9_seekPull 5 none 0 := ⟨zmem 1217 (by decide +kernel) rfl, zmem 1219 (by decide +kernel) rfl, zmem 39 (by decide +kernel) rfl, zmem 81 (by decide +kernel) rfl, zmem 1220 (by decide +kernel) rfl, by decide +kernel, by decide⟩
theorem kcL_X9_322 : Cond.constantLong RX9 322 (10) ∈ ztb := zmem 1229 (by decide +kernel) rfl
theorem ml_X9_324 : zMS RX9 324 yX9_isSide cX9_isSide 1 (some .boolean) 1 := ⟨zmem 1206 (by decide +kernel) rfl, zmem 1207 (by decide +kernel) rfl, zmem 81 (by decide +kernel) rfl, zmem 1208 (by decide +kernel) rfl, by decide +kernel, by decide⟩
theorem kcL_X9_330 : Cond.constantLong RX9 330 (-1000000000000) ∈ ztb := zmem 1212 (by decide +kernel) rfl
theorem ml_X9_327 : zMS RX9 327 yX9_isPart cX9_isPart 1 (some .boolean) 1 := ⟨zmem 1209 (by decide +kernel) rfl, zmem 1210 (by decide +kernel) rfl, zmem 81 (by decide +kernel) rfl, zmem 1211 (by decide +kernel) rfl, by decide +kernel, by decide⟩
theorem ml_X9_332 : zMV RX9 332 RX9 yX9_seekRest cX9_seekRest 7 none 2 := ⟨zmem 1213 (by decide +kernel) rfl, zmem 1215 (by decide +kernel) rfl, zmem 38 (by decide +kernel) rfl, zmem 81 (by decide +kernel) rfl, zmem 1216 (by decide +kernel) rfl, by decide +kernel, by decide⟩
theorem ml_X9_336 : zMV RX9 336 RX9 yX9_part cX9_part 2 (some .long) 1 := ⟨zmem 1230 (by decide +kernel) rfl, zmem 1232 (by decide +kernel) rfl, zmem 41 (by decide +kernel) rfl, zmem 81 (by decide +kernel) rfl, zmem 1233 (by decide +kernel) rfl, by decide +kernel, by decide⟩
theorem ml_X9_340 : zMS RX9 340 yX9_down cX9_down 6 (some .long) 2 := ⟨zmem 1238 (by decide +kernel) rfl, zmem 1239 (by decide +kernel) rfl, zmem 81 (by decide +kernel) rfl, zmem 1240 (by decide +kernel) rfl, by decide +kernel, by decide⟩
theorem kcL_X9_343 : Cond.constantLong RX9 343 (100) ∈ ztb := zmem 1241 (by decide +kernel) rfl
theorem kcL_X9_345 : Cond.constantLong RX9 345 (2) ∈ ztb := zmem 1246 (by decide +kernel) rfl
theorem fl_X9_347 : zFL RX9 347 9 30 := ⟨by decide, RX9, TX9, 72, tyX9, rfl, by decide, zmem 904 (by decide +kernel) rfl, zin_9, tyX9_ok, nmX9, zn_9⟩
theorem fl_X9_40 : zFL RX9 40 9 25 := ⟨by decide, RX9, TX9, 72, tyX9, rfl, by decide, zmem 899 (by decide +kernel) rfl, zin_9, tyX9_ok, nmX9, zn_9⟩
theorem fl_X9_43 : zFL RX9 43 9 26 := ⟨by decide, RX9, TX9, 72, tyX9, rfl, by decide, zmem 900 (by decide +kernel) rfl, zin_9, tyX9_ok, nmX9, zn_9⟩
theorem fl_X9_46 : zFL RX9 46 9 27 := ⟨by decide, RX9, TX9, 72, tyX9, rfl, by decide, zmem 901 (by decide +kernel) rfl, zin_9, tyX9_ok, nmX9, zn_9⟩
theorem fl_X9_49 : zFL RX9 49 9 28 := ⟨by decide, RX9, TX9, 72, tyX9, rfl, by decide, zmem 902 (by decide +kernel) rfl, zin_9, tyX9_ok, nmX9, zn_9⟩
theorem fl_X9_350 : zFL RX9 350 9 31 := ⟨by decide, RX9, TX9, 72, tyX9, rfl, by decide, zmem 905 (by decide +kernel) rfl, zin_9, tyX9_ok, nmX9, zn_9⟩
theorem fl_X9_52 : zFL RX9 52 9 29 := ⟨by decide, RX9, TX9, 72, tyX9, rfl, by decide, zmem 903 (by decide +kernel) rfl, zin_9, tyX9_ok, nmX9, zn_9⟩
theorem pd_9_30 : ∀ C T N, vwCl[9]? = some (C, T, N) → (T 30).2.2.2 = false ∧ parseFieldDescriptor (T 30).2.2.1 = some (.int) := by
  intro C T N h
  have h : some (RX9, TX9, 72) = some (C, T, N) := h
  cases h
  exact ⟨rfl, by decide +kernel⟩
theorem kc_X9_353 : Cond.constant RX9 353 (100000) ∈ ztb := zmem 1259 (by decide +kernel) rfl
theorem pd_9_31 : ∀ C T N, vwCl[9]? = some (C, T, N) → (T 31).2.2.2 = false ∧ parseFieldDescriptor (T 31).2.2.1 = some (.int) := by
  intro C T N h
  have h : some (RX9, TX9, 72) = some (C, T, N) := h
  cases h
  exact ⟨rfl, by decide +kernel⟩
theorem fl_X9_61 : zFL RX9 61 9 34 := ⟨by decide, RX9, TX9, 72, tyX9, rfl, by decide, zmem 908 (by decide +kernel) rfl, zin_9, tyX9_ok, nmX9, zn_9⟩
theorem ml_X9_354 : zMV RX9 354 RX9 yX9_two cX9_two 5 (some .long) 4 := ⟨zmem 1280 (by decide +kernel) rfl, zmem 1282 (by decide +kernel) rfl, zmem 46 (by decide +kernel) rfl, zmem 81 (by decide +kernel) rfl, zmem 1283 (by decide +kernel) rfl, by decide +kernel, by decide⟩
theorem fl_X9_58 : zFL RX9 58 9 33 := ⟨by decide, RX9, TX9, 72, tyX9, rfl, by decide, zmem 907 (by decide +kernel) rfl, zin_9, tyX9_ok, nmX9, zn_9⟩
theorem fl_X9_55 : zFL RX9 55 9 32 := ⟨by decide, RX9, TX9, 72, tyX9, rfl, by decide, zmem 906 (by decide +kernel) rfl, zin_9, tyX9_ok, nmX9, zn_9⟩
theorem ml_X9_358 : zMV RX9 358 RX9 yX9_three cX9_three 7 (some .long) 6 := ⟨zmem 1284 (by decide +kernel) rfl, zmem 1286 (by decide +kernel) rfl, zmem 47 (by decide +kernel) rfl, zmem 81 (by decide +kernel) rfl, zmem 1287 (by decide +kernel) rfl, by decide +kernel, by decide⟩
theorem fl_X9_64 : zFL RX9 64 9 35 := ⟨by decide, RX9, TX9, 72, tyX9, rfl, by decide, zmem 909 (by decide +kernel) rfl, zin_9, tyX9_ok, nmX9, zn_9⟩
theorem ml_X9_362 : zMV RX9 362 RX9 yX9_counts cX9_counts 3 (some .boolean) 2 := ⟨zmem 1268 (by decide +kernel) rfl, zmem 1270 (by decide +kernel) rfl, zmem 43 (by decide +kernel) rfl, zmem 81 (by decide +kernel) rfl, zmem 1271 (by decide +kernel) rfl, by decide +kernel, by decide⟩
theorem ml_X9_366 : zMV RX9 366 RX9 yX9_goes cX9_goes 3 (some .int) 2 := ⟨zmem 1272 (by decide +kernel) rfl, zmem 1274 (by decide +kernel) rfl, zmem 44 (by decide +kernel) rfl, zmem 81 (by decide +kernel) rfl, zmem 1275 (by decide +kernel) rfl, by decide +kernel, by decide⟩
theorem ml_X9_369 : zMV RX9 369 RX9 yX9_determinant cX9_determinant 4 (some .long) 2 := ⟨zmem 1276 (by decide +kernel) rfl, zmem 1278 (by decide +kernel) rfl, zmem 45 (by decide +kernel) rfl, zmem 81 (by decide +kernel) rfl, zmem 1279 (by decide +kernel) rfl, by decide +kernel, by decide⟩
theorem fl_X9_373 : zFL RX9 373 9 36 := ⟨by decide, RX9, TX9, 72, tyX9, rfl, by decide, zmem 910 (by decide +kernel) rfl, zin_9, tyX9_ok, nmX9, zn_9⟩
theorem pd_9_36 : ∀ C T N, vwCl[9]? = some (C, T, N) → (T 36).2.2.2 = false ∧ parseFieldDescriptor (T 36).2.2.1 = some (.long) := by
  intro C T N h
  have h : some (RX9, TX9, 72) = some (C, T, N) := h
  cases h
  exact ⟨rfl, by decide +kernel⟩
theorem ml_X9_376 : zMV RX9 376 RX9 yX9_seekFit cX9_seekFit 6 none 2 := ⟨zmem 1264 (by decide +kernel) rfl, zmem 1266 (by decide +kernel) rfl, zmem 42 (by decide +kernel) rfl, zmem 81 (by decide +kernel) rfl, zmem 1267 (by decide +kernel) rfl, by decide +kernel, by decide⟩
theorem ml_X9_379 : zMV RX9 379 RX9 yX9_offOf cX9_offOf 5 (some .long) 1 := ⟨zmem 1288 (by decide +kernel) rfl, zmem 1290 (by decide +kernel) rfl, zmem 48 (by decide +kernel) rfl, zmem 81 (by decide +kernel) rfl, zmem 1291 (by decide +kernel) rfl, by decide +kernel, by decide⟩
theorem kcL_X9_382 : Cond.constantLong RX9 382 (-1) ∈ ztb := zmem 1296 (by decide +kernel) rfl
theorem kcL_X9_384 : Cond.constantLong RX9 384 (100000) ∈ ztb := zmem 1297 (by decide +kernel) rfl
theorem fl_X9_70 : zFL RX9 70 9 38 := ⟨by decide, RX9, TX9, 72, tyX9, rfl, by decide, zmem 912 (by decide +kernel) rfl, zin_9, tyX9_ok, nmX9, zn_9⟩
theorem ml_X9_386 : zMS RX9 386 yX9_sized cX9_sized 2 (some .long) 1 := ⟨zmem 1309 (by decide +kernel) rfl, zmem 1310 (by decide +kernel) rfl, zmem 81 (by decide +kernel) rfl, zmem 1311 (by decide +kernel) rfl, by decide +kernel, by decide⟩
theorem fl_X9_67 : zFL RX9 67 9 37 := ⟨by decide, RX9, TX9, 72, tyX9, rfl, by decide, zmem 911 (by decide +kernel) rfl, zin_9, tyX9_ok, nmX9, zn_9⟩
theorem ml_X9_390 : zMS RX9 390 yX9_ones cX9_ones 3 (some .int) 1 := ⟨zmem 1302 (by decide +kernel) rfl, zmem 1303 (by decide +kernel) rfl, zmem 81 (by decide +kernel) rfl, zmem 1304 (by decide +kernel) rfl, by decide +kernel, by decide⟩
theorem ml_X9_393 : zMV RX9 393 RX9 yX9_weigh cX9_weigh 6 none 2 := ⟨zmem 1305 (by decide +kernel) rfl, zmem 1307 (by decide +kernel) rfl, zmem 49 (by decide +kernel) rfl, zmem 81 (by decide +kernel) rfl, zmem 1308 (by decide +kernel) rfl, by decide +kernel, by decide⟩
theorem ml_X9_396 : zMV RX9 396 RX9 yX9_isLess cX9_isLess 2 (some .boolean) 0 := ⟨zmem 1312 (by decide +kernel) rfl, zmem 1314 (by decide +kernel) rfl, zmem 50 (by decide +kernel) rfl, zmem 81 (by decide +kernel) rfl, zmem 1315 (by decide +kernel) rfl, by decide +kernel, by decide⟩
theorem fl_X9_399 : zFL RX9 399 9 48 := ⟨by decide, RX9, TX9, 72, tyX9, rfl, by decide, zmem 922 (by decide +kernel) rfl, zin_9, tyX9_ok, nmX9, zn_9⟩
theorem fl_X9_73 : zFL RX9 73 9 39 := ⟨by decide, RX9, TX9, 72, tyX9, rfl, by decide, zmem 913 (by decide +kernel) rfl, zin_9, tyX9_ok, nmX9, zn_9⟩
theorem fl_X9_88 : zFL RX9 88 9 44 := ⟨by decide, RX9, TX9, 72, tyX9, rfl, by decide, zmem 918 (by decide +kernel) rfl, zin_9, tyX9_ok, nmX9, zn_9⟩
theorem fl_X9_91 : zFL RX9 91 9 45 := ⟨by decide, RX9, TX9, 72, tyX9, rfl, by decide, zmem 919 (by decide +kernel) rfl, zin_9, tyX9_ok, nmX9, zn_9⟩
theorem fl_X9_76 : zFL RX9 76 9 40 := ⟨by decide, RX9, TX9, 72, tyX9, rfl, by decide, zmem 914 (by decide +kernel) rfl, zin_9, tyX9_ok, nmX9, zn_9⟩
theorem fl_X9_79 : zFL RX9 79 9 41 := ⟨by decide, RX9, TX9, 72, tyX9, rfl, by decide, zmem 915 (by decide +kernel) rfl, zin_9, tyX9_ok, nmX9, zn_9⟩
theorem pd_9_48 : ∀ C T N, vwCl[9]? = some (C, T, N) → (T 48).2.2.2 = false ∧ parseFieldDescriptor (T 48).2.2.1 = some (.int) := by
  intro C T N h
  have h : some (RX9, TX9, 72) = some (C, T, N) := h
  cases h
  exact ⟨rfl, by decide +kernel⟩
theorem ml_X9_402 : zMV RX9 402 RX9 yX9_readHouse cX9_readHouse 11 none 0 := ⟨zmem 1320 (by decide +kernel) rfl, zmem 1322 (by decide +kernel) rfl, zmem 51 (by decide +kernel) rfl, zmem 81 (by decide +kernel) rfl, zmem 1323 (by decide +kernel) rfl, by decide +kernel, by decide⟩
theorem fl_X9_405 : zFL RX9 405 9 49 := ⟨by decide, RX9, TX9, 72, tyX9, rfl, by decide, zmem 923 (by decide +kernel) rfl, zin_9, tyX9_ok, nmX9, zn_9⟩
theorem pd_9_49 : ∀ C T N, vwCl[9]? = some (C, T, N) → (T 49).2.2.2 = false ∧ parseFieldDescriptor (T 49).2.2.1 = some (.int) := by
  intro C T N h
  have h : some (RX9, TX9, 72) = some (C, T, N) := h
  cases h
  exact ⟨rfl, by decide +kernel⟩
theorem fl_X9_94 : zFL RX9 94 9 46 := ⟨by decide, RX9, TX9, 72, tyX9, rfl, by decide, zmem 920 (by decide +kernel) rfl, zin_9, tyX9_ok, nmX9, zn_9⟩
theorem fl_X9_97 : zFL RX9 97 9 47 := ⟨by decide, RX9, TX9, 72, tyX9, rfl, by decide, zmem 921 (by decide +kernel) rfl, zin_9, tyX9_ok, nmX9, zn_9⟩
theorem fl_X9_82 : zFL RX9 82 9 42 := ⟨by decide, RX9, TX9, 72, tyX9, rfl, by decide, zmem 916 (by decide +kernel) rfl, zin_9, tyX9_ok, nmX9, zn_9⟩
theorem fl_X9_85 : zFL RX9 85 9 43 := ⟨by decide, RX9, TX9, 72, tyX9, rfl, by decide, zmem 917 (by decide +kernel) rfl, zin_9, tyX9_ok, nmX9, zn_9⟩
theorem kc_X9_408 : Cond.constant RX9 408 (-100000) ∈ ztb := zmem 1332 (by decide +kernel) rfl
theorem ml_X9_409 : zMV RX9 409 RX9 yX9_moreOf cX9_moreOf 5 (some .int) 1 := ⟨zmem 1328 (by decide +kernel) rfl, zmem 1330 (by decide +kernel) rfl, zmem 52 (by decide +kernel) rfl, zmem 81 (by decide +kernel) rfl, zmem 1331 (by decide +kernel) rfl, by decide +kernel, by decide⟩
theorem ml_X9_415 : zMV RX9 415 RX9 yX9_partsOf cX9_partsOf 7 (some .int) 0 := ⟨zmem 1337 (by decide +kernel) rfl, zmem 1339 (by decide +kernel) rfl, zmem 54 (by decide +kernel) rfl, zmem 81 (by decide +kernel) rfl, zmem 1340 (by decide +kernel) rfl, by decide +kernel, by decide⟩
theorem ml_X9_412 : zMV RX9 412 RX9 yX9_outOf cX9_outOf 4 (some .int) 0 := ⟨zmem 1333 (by decide +kernel) rfl, zmem 1335 (by decide +kernel) rfl, zmem 53 (by decide +kernel) rfl, zmem 81 (by decide +kernel) rfl, zmem 1336 (by decide +kernel) rfl, by decide +kernel, by decide⟩
theorem fl_X9_103 : zFL RX9 103 9 51 := ⟨by decide, RX9, TX9, 72, tyX9, rfl, by decide, zmem 925 (by decide +kernel) rfl, zin_9, tyX9_ok, nmX9, zn_9⟩
theorem fl_X9_418 : zFL RX9 418 9 62 := ⟨by decide, RX9, TX9, 72, tyX9, rfl, by decide, zmem 936 (by decide +kernel) rfl, zin_9, tyX9_ok, nmX9, zn_9⟩
theorem fl_X9_106 : zFL RX9 106 9 52 := ⟨by decide, RX9, TX9, 72, tyX9, rfl, by decide, zmem 926 (by decide +kernel) rfl, zin_9, tyX9_ok, nmX9, zn_9⟩
theorem pd_9_62 : ∀ C T N, vwCl[9]? = some (C, T, N) → (T 62).2.2.2 = false ∧ parseFieldDescriptor (T 62).2.2.1 = some (.int) := by
  intro C T N h
  have h : some (RX9, TX9, 72) = some (C, T, N) := h
  cases h
  exact ⟨rfl, by decide +kernel⟩
theorem fl_X9_421 : zFL RX9 421 9 67 := ⟨by decide, RX9, TX9, 72, tyX9, rfl, by decide, zmem 941 (by decide +kernel) rfl, zin_9, tyX9_ok, nmX9, zn_9⟩
theorem zbi_30 : (Int8.ofInt (30)).toInt32 = 30 := by decide
theorem fl_X9_127 : zFL RX9 127 9 59 := ⟨by decide, RX9, TX9, 72, tyX9, rfl, by decide, zmem 933 (by decide +kernel) rfl, zin_9, tyX9_ok, nmX9, zn_9⟩
theorem zbi_21 : (Int8.ofInt (21)).toInt32 = 21 := by decide
theorem zbi_23 : (Int8.ofInt (23)).toInt32 = 23 := by decide
theorem zbi_22 : (Int8.ofInt (22)).toInt32 = 22 := by decide
theorem ml_X9_424 : zMV RX9 424 RX9 yX9_upper cX9_upper 1 (some .int) 0 := ⟨zmem 1373 (by decide +kernel) rfl, zmem 1375 (by decide +kernel) rfl, zmem 62 (by decide +kernel) rfl, zmem 81 (by decide +kernel) rfl, zmem 1376 (by decide +kernel) rfl, by decide +kernel, by decide⟩
theorem ml_X9_427 : zMS RX9 427 yX9_rank cX9_rank 1 (some .int) 1 := ⟨zmem 1377 (by decide +kernel) rfl, zmem 1378 (by decide +kernel) rfl, zmem 81 (by decide +kernel) rfl, zmem 1379 (by decide +kernel) rfl, by decide +kernel, by decide⟩
theorem pd_9_67 : ∀ C T N, vwCl[9]? = some (C, T, N) → (T 67).2.2.2 = false ∧ parseFieldDescriptor (T 67).2.2.1 = some (.int) := by
  intro C T N h
  have h : some (RX9, TX9, 72) = some (C, T, N) := h
  cases h
  exact ⟨rfl, by decide +kernel⟩
theorem ml_X9_430 : zMV RX9 430 RX9 yX9_note cX9_note 3 none 2 := ⟨zmem 1361 (by decide +kernel) rfl, zmem 1363 (by decide +kernel) rfl, zmem 59 (by decide +kernel) rfl, zmem 81 (by decide +kernel) rfl, zmem 1364 (by decide +kernel) rfl, by decide +kernel, by decide⟩
theorem fl_X9_433 : zFL RX9 433 9 68 := ⟨by decide, RX9, TX9, 72, tyX9, rfl, by decide, zmem 942 (by decide +kernel) rfl, zin_9, tyX9_ok, nmX9, zn_9⟩
theorem fl_X9_436 : zFL RX9 436 9 64 := ⟨by decide, RX9, TX9, 72, tyX9, rfl, by decide, zmem 938 (by decide +kernel) rfl, zin_9, tyX9_ok, nmX9, zn_9⟩
theorem fl_X9_100 : zFL RX9 100 9 50 := ⟨by decide, RX9, TX9, 72, tyX9, rfl, by decide, zmem 924 (by decide +kernel) rfl, zin_9, tyX9_ok, nmX9, zn_9⟩
theorem fl_X9_439 : zFL RX9 439 9 63 := ⟨by decide, RX9, TX9, 72, tyX9, rfl, by decide, zmem 937 (by decide +kernel) rfl, zin_9, tyX9_ok, nmX9, zn_9⟩
theorem pd_9_63 : ∀ C T N, vwCl[9]? = some (C, T, N) → (T 63).2.2.2 = false ∧ parseFieldDescriptor (T 63).2.2.1 = some (.int) := by
  intro C T N h
  have h : some (RX9, TX9, 72) = some (C, T, N) := h
  cases h
  exact ⟨rfl, by decide +kernel⟩
theorem pd_9_68 : ∀ C T N, vwCl[9]? = some (C, T, N) → (T 68).2.2.2 = false ∧ parseFieldDescriptor (T 68).2.2.1 = some (.int) := by
  intro C T N h
  have h : some (RX9, TX9, 72) = some (C, T, N) := h
  cases h
  exact ⟨rfl, by decide +kernel⟩
theorem ml_X9_442 : zMV RX9 442 RX9 yX9_lineOf cX9_lineOf 5 (some .int) 1 := ⟨zmem 1349 (by decide +kernel) rfl, zmem 1351 (by decide +kernel) rfl, zmem 56 (by decide +kernel) rfl, zmem 81 (by decide +kernel) rfl, zmem 1352 (by decide +kernel) rfl, by decide +kernel, by decide⟩
theorem ml_X9_445 : zMV RX9 445 RX9 yX9_isOpen cX9_isOpen 1 (some .boolean) 0 := ⟨zmem 1353 (by decide +kernel) rfl, zmem 1355 (by decide +kernel) rfl, zmem 57 (by decide +kernel) rfl, zmem 81 (by decide +kernel) rfl, zmem 1356 (by decide +kernel) rfl, by decide +kernel, by decide⟩
theorem ml_X9_448 : zMV RX9 448 RX9 yX9_settle cX9_settle 2 none 1 := ⟨zmem 1369 (by decide +kernel) rfl, zmem 1371 (by decide +kernel) rfl, zmem 61 (by decide +kernel) rfl, zmem 81 (by decide +kernel) rfl, zmem 1372 (by decide +kernel) rfl, by decide +kernel, by decide⟩
theorem fl_X9_109 : zFL RX9 109 9 53 := ⟨by decide, RX9, TX9, 72, tyX9, rfl, by decide, zmem 927 (by decide +kernel) rfl, zin_9, tyX9_ok, nmX9, zn_9⟩
theorem ml_X9_454 : zMV RX9 454 RX9 yX9_sign cX9_sign 2 (some .boolean) 0 := ⟨zmem 1365 (by decide +kernel) rfl, zmem 1367 (by decide +kernel) rfl, zmem 60 (by decide +kernel) rfl, zmem 81 (by decide +kernel) rfl, zmem 1368 (by decide +kernel) rfl, by decide +kernel, by decide⟩
theorem ml_X9_451 : zMV RX9 451 RX9 yX9_unit cX9_unit 2 (some .boolean) 0 := ⟨zmem 1357 (by decide +kernel) rfl, zmem 1359 (by decide +kernel) rfl, zmem 58 (by decide +kernel) rfl, zmem 81 (by decide +kernel) rfl, zmem 1360 (by decide +kernel) rfl, by decide +kernel, by decide⟩
theorem fl_X9_112 : zFL RX9 112 9 54 := ⟨by decide, RX9, TX9, 72, tyX9, rfl, by decide, zmem 928 (by decide +kernel) rfl, zin_9, tyX9_ok, nmX9, zn_9⟩
theorem pd_9_64 : ∀ C T N, vwCl[9]? = some (C, T, N) → (T 64).2.2.2 = false ∧ parseFieldDescriptor (T 64).2.2.1 = some (.int) := by
  intro C T N h
  have h : some (RX9, TX9, 72) = some (C, T, N) := h
  cases h
  exact ⟨rfl, by decide +kernel⟩
theorem ml_X9_457 : zMV RX9 457 RX9 yX9_readLine cX9_readLine 5 none 0 := ⟨zmem 1345 (by decide +kernel) rfl, zmem 1347 (by decide +kernel) rfl, zmem 55 (by decide +kernel) rfl, zmem 81 (by decide +kernel) rfl, zmem 1348 (by decide +kernel) rfl, by decide +kernel, by decide⟩
theorem fl_X9_115 : zFL RX9 115 9 55 := ⟨by decide, RX9, TX9, 72, tyX9, rfl, by decide, zmem 929 (by decide +kernel) rfl, zin_9, tyX9_ok, nmX9, zn_9⟩
theorem fl_X9_118 : zFL RX9 118 9 56 := ⟨by decide, RX9, TX9, 72, tyX9, rfl, by decide, zmem 930 (by decide +kernel) rfl, zin_9, tyX9_ok, nmX9, zn_9⟩
theorem fl_X9_124 : zFL RX9 124 9 58 := ⟨by decide, RX9, TX9, 72, tyX9, rfl, by decide, zmem 932 (by decide +kernel) rfl, zin_9, tyX9_ok, nmX9, zn_9⟩
theorem fl_X9_121 : zFL RX9 121 9 57 := ⟨by decide, RX9, TX9, 72, tyX9, rfl, by decide, zmem 931 (by decide +kernel) rfl, zin_9, tyX9_ok, nmX9, zn_9⟩
theorem fl_X9_460 : zFL RX9 460 9 65 := ⟨by decide, RX9, TX9, 72, tyX9, rfl, by decide, zmem 939 (by decide +kernel) rfl, zin_9, tyX9_ok, nmX9, zn_9⟩
theorem pd_9_65 : ∀ C T N, vwCl[9]? = some (C, T, N) → (T 65).2.2.2 = false ∧ parseFieldDescriptor (T 65).2.2.1 = some (.int) := by
  intro C T N h
  have h : some (RX9, TX9, 72) = some (C, T, N) := h
  cases h
  exact ⟨rfl, by decide +kernel⟩
theorem fl_X9_463 : zFL RX9 463 9 66 := ⟨by decide, RX9, TX9, 72, tyX9, rfl, by decide, zmem 940 (by decide +kernel) rfl, zin_9, tyX9_ok, nmX9, zn_9⟩
theorem pd_9_66 : ∀ C T N, vwCl[9]? = some (C, T, N) → (T 66).2.2.2 = false ∧ parseFieldDescriptor (T 66).2.2.1 = some (.int) := by
  intro C T N h
  have h : some (RX9, TX9, 72) = some (C, T, N) := h
  cases h
  exact ⟨rfl, by decide +kernel⟩
theorem fl_X9_130 : zFL RX9 130 9 60 := ⟨by decide, RX9, TX9, 72, tyX9, rfl, by decide, zmem 934 (by decide +kernel) rfl, zin_9, tyX9_ok, nmX9, zn_9⟩
theorem ml_X9_466 : zMS RX9 466 yX9_worked cX9_worked 3 (some .int) 3 := ⟨zmem 1388 (by decide +kernel) rfl, zmem 1389 (by decide +kernel) rfl, zmem 81 (by decide +kernel) rfl, zmem 1390 (by decide +kernel) rfl, by decide +kernel, by decide⟩
theorem ml_X9_470 : zMV RX9 470 RX9 yX9_eOf cX9_eOf 5 (some .int) 2 := ⟨zmem 1384 (by decide +kernel) rfl, zmem 1386 (by decide +kernel) rfl, zmem 63 (by decide +kernel) rfl, zmem 81 (by decide +kernel) rfl, zmem 1387 (by decide +kernel) rfl, by decide +kernel, by decide⟩
theorem fl_X9_133 : zFL RX9 133 9 61 := ⟨by decide, RX9, TX9, 72, tyX9, rfl, by decide, zmem 935 (by decide +kernel) rfl, zin_9, tyX9_ok, nmX9, zn_9⟩
theorem ml_X9_474 : zMV RX9 474 RX9 yX9_slipOf cX9_slipOf 2 (some .int) 1 := ⟨zmem 1391 (by decide +kernel) rfl, zmem 1393 (by decide +kernel) rfl, zmem 64 (by decide +kernel) rfl, zmem 81 (by decide +kernel) rfl, zmem 1394 (by decide +kernel) rfl, by decide +kernel, by decide⟩
theorem ml_X9_477 : zMV RX9 477 RX9 yX9_without cX9_without 3 (some .int) 1 := ⟨zmem 1395 (by decide +kernel) rfl, zmem 1397 (by decide +kernel) rfl, zmem 65 (by decide +kernel) rfl, zmem 81 (by decide +kernel) rfl, zmem 1398 (by decide +kernel) rfl, by decide +kernel, by decide⟩
theorem fl_X9_139 : zFL RX9 139 9 70 := ⟨by decide, RX9, TX9, 72, tyX9, rfl, by decide, zmem 944 (by decide +kernel) rfl, zin_9, tyX9_ok, nmX9, zn_9⟩
theorem ml_X9_480 : zMV RX9 480 RX9 yX9_mayBe cX9_mayBe 3 (some .int) 0 := ⟨zmem 1411 (by decide +kernel) rfl, zmem 1413 (by decide +kernel) rfl, zmem 66 (by decide +kernel) rfl, zmem 81 (by decide +kernel) rfl, zmem 1414 (by decide +kernel) rfl, by decide +kernel, by decide⟩
theorem fl_X9_142 : zFL RX9 142 9 71 := ⟨by decide, RX9, TX9, 72, tyX9, rfl, by decide, zmem 945 (by decide +kernel) rfl, zin_9, tyX9_ok, nmX9, zn_9⟩
