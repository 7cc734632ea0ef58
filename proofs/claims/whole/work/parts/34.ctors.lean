theorem oi_X7 : Cond.methodLink RX7 3 objectInit ∈ ztb := zmem 98 (by decide +kernel) rfl
theorem ac_byte : Cond.arrayClass .byte ∈ ztb := zmem 109 (by decide +kernel) rfl
theorem pf_7_0 : ∀ C T N, vwCl[7]? = some (C, T, N) → (T 0).2.2.2 = true ∧ (T 0).1 = C ∧ parseFieldDescriptor (T 0).2.2.1 = some (.array .byte) := by
  intro C T N h
  have h : some (RX7, TX7, 2) = some (C, T, N) := h
  cases h
  exact ⟨rfl, by decide +kernel, by decide +kernel⟩
theorem oc_7 : ∀ C T N, vwCl[7]? = some (C, T, N) → C = RX7 := by
  intro C T N h
  have h : some (RX7, TX7, 2) = some (C, T, N) := h
  cases h
  rfl
theorem pf_7_1 : ∀ C T N, vwCl[7]? = some (C, T, N) → (T 1).2.2.2 = false ∧ (T 1).1 = C ∧ parseFieldDescriptor (T 1).2.2.1 = some (.int) := by
  intro C T N h
  have h : some (RX7, TX7, 2) = some (C, T, N) := h
  cases h
  exact ⟨rfl, by decide +kernel, by decide +kernel⟩
theorem oi_X0 : Cond.methodLink RX0 3 objectInit ∈ ztb := zmem 228 (by decide +kernel) rfl
theorem pf_0_0 : ∀ C T N, vwCl[0]? = some (C, T, N) → (T 0).2.2.2 = false ∧ (T 0).1 = C ∧ parseFieldDescriptor (T 0).2.2.1 = some (.int) := by
  intro C T N h
  have h : some (RX0, TX0, 8) = some (C, T, N) := h
  cases h
  exact ⟨rfl, by decide +kernel, by decide +kernel⟩
theorem pf_0_1 : ∀ C T N, vwCl[0]? = some (C, T, N) → (T 1).2.2.2 = false ∧ (T 1).1 = C ∧ parseFieldDescriptor (T 1).2.2.1 = some (.int) := by
  intro C T N h
  have h : some (RX0, TX0, 8) = some (C, T, N) := h
  cases h
  exact ⟨rfl, by decide +kernel, by decide +kernel⟩
theorem ac_long : Cond.arrayClass .long ∈ ztb := zmem 216 (by decide +kernel) rfl
theorem pf_0_2 : ∀ C T N, vwCl[0]? = some (C, T, N) → (T 2).2.2.2 = true ∧ (T 2).1 = C ∧ parseFieldDescriptor (T 2).2.2.1 = some (.array .long) := by
  intro C T N h
  have h : some (RX0, TX0, 8) = some (C, T, N) := h
  cases h
  exact ⟨rfl, by decide +kernel, by decide +kernel⟩
theorem oc_0 : ∀ C T N, vwCl[0]? = some (C, T, N) → C = RX0 := by
  intro C T N h
  have h : some (RX0, TX0, 8) = some (C, T, N) := h
  cases h
  rfl
theorem pf_0_3 : ∀ C T N, vwCl[0]? = some (C, T, N) → (T 3).2.2.2 = true ∧ (T 3).1 = C ∧ parseFieldDescriptor (T 3).2.2.1 = some (.array .long) := by
  intro C T N h
  have h : some (RX0, TX0, 8) = some (C, T, N) := h
  cases h
  exact ⟨rfl, by decide +kernel, by decide +kernel⟩
theorem ac_int : Cond.arrayClass .int ∈ ztb := zmem 256 (by decide +kernel) rfl
theorem pf_0_4 : ∀ C T N, vwCl[0]? = some (C, T, N) → (T 4).2.2.2 = true ∧ (T 4).1 = C ∧ parseFieldDescriptor (T 4).2.2.1 = some (.array .int) := by
  intro C T N h
  have h : some (RX0, TX0, 8) = some (C, T, N) := h
  cases h
  exact ⟨rfl, by decide +kernel, by decide +kernel⟩
theorem pf_0_5 : ∀ C T N, vwCl[0]? = some (C, T, N) → (T 5).2.2.2 = true ∧ (T 5).1 = C ∧ parseFieldDescriptor (T 5).2.2.1 = some (.array .byte) := by
  intro C T N h
  have h : some (RX0, TX0, 8) = some (C, T, N) := h
  cases h
  exact ⟨rfl, by decide +kernel, by decide +kernel⟩
theorem pf_0_6 : ∀ C T N, vwCl[0]? = some (C, T, N) → (T 6).2.2.2 = false ∧ (T 6).1 = C ∧ parseFieldDescriptor (T 6).2.2.1 = some (.int) := by
  intro C T N h
  have h : some (RX0, TX0, 8) = some (C, T, N) := h
  cases h
  exact ⟨rfl, by decide +kernel, by decide +kernel⟩
theorem pf_0_7 : ∀ C T N, vwCl[0]? = some (C, T, N) → (T 7).2.2.2 = false ∧ (T 7).1 = C ∧ parseFieldDescriptor (T 7).2.2.1 = some (.int) := by
  intro C T N h
  have h : some (RX0, TX0, 8) = some (C, T, N) := h
  cases h
  exact ⟨rfl, by decide +kernel, by decide +kernel⟩
theorem oi_X5 : Cond.methodLink RX5 3 objectInit ∈ ztb := zmem 222 (by decide +kernel) rfl
theorem pf_5_0 : ∀ C T N, vwCl[5]? = some (C, T, N) → (T 0).2.2.2 = false ∧ (T 0).1 = C ∧ parseFieldDescriptor (T 0).2.2.1 = some (.int) := by
  intro C T N h
  have h : some (RX5, TX5, 4) = some (C, T, N) := h
  cases h
  exact ⟨rfl, by decide +kernel, by decide +kernel⟩
theorem nw_0 : ∀ k, k < 8 → (zF 0 k = 0 ∧ defaultValue (tyX0 k) = .int 0) ∨ (zF 0 k = 1 ∧ defaultValue (tyX0 k) = .long 0) ∨ (zF 0 k = 2 ∧ defaultValue (tyX0 k) = .null) ∨ (zF 0 k = 3 ∧ defaultValue (tyX0 k) = .null) := by decide +kernel
theorem ni_0 : Cond.instantiable RX0 8 ∈ ztb := zmem 224 (by decide +kernel) rfl
theorem ng_0 : Cond.initialized RX0 ∈ ztb := zmem 76 (by decide +kernel) rfl
theorem cl_X5_15 : Cond.classLink RX5 15 RX0 ∈ ztb := zmem 223 (by decide +kernel) rfl
theorem mi_X5_17 : zMIN RX5 17 "LeadBalls" yX0_init cX0_init 1 0 := ⟨by decide +kernel, zmem 226 (by decide +kernel) rfl, zmem 76 (by decide +kernel) rfl, zmem 227 (by decide +kernel) rfl, by decide +kernel, by decide, rfl⟩
theorem pf_5_1 : ∀ C T N, vwCl[5]? = some (C, T, N) → (T 1).2.2.2 = true ∧ (T 1).1 = C ∧ parseFieldDescriptor (T 1).2.2.1 = some (.object "LeadBalls$Causes") := by
  intro C T N h
  have h : some (RX5, TX5, 4) = some (C, T, N) := h
  cases h
  exact ⟨rfl, by decide +kernel, by decide +kernel⟩
theorem oc_5 : ∀ C T N, vwCl[5]? = some (C, T, N) → C = RX5 := by
  intro C T N h
  have h : some (RX5, TX5, 4) = some (C, T, N) := h
  cases h
  rfl
theorem kl_link : Cond.methodLink RX5 26 ⟨"[I", "clone", "()Ljava/lang/Object;"⟩ ∈ ztb := zmem 259 (by decide +kernel) rfl
theorem kl_same : Cond.sameMethod "[I" "java/lang/Object" "clone" "()Ljava/lang/Object;" ∈ ztb := zmem 260 (by decide +kernel) rfl
theorem kl_nat : Cond.native ⟨"java/lang/Object", "clone", "()Ljava/lang/Object;"⟩ ∈ ztb := zmem 261 (by decide +kernel) rfl
theorem kl_inst : Cond.instanceMethod ⟨"java/lang/Object", "clone", "()Ljava/lang/Object;"⟩ ∈ ztb := zmem 262 (by decide +kernel) rfl
theorem kl_sel : Cond.selects "[I" ⟨"[I", "clone", "()Ljava/lang/Object;"⟩ ⟨"java/lang/Object", "clone", "()Ljava/lang/Object;"⟩ ∈ ztb := zmem 263 (by decide +kernel) rfl
theorem cl_X5_27 : Cond.classLink RX5 27 "[I" ∈ ztb := zmem 265 (by decide +kernel) rfl
theorem pf_5_2 : ∀ C T N, vwCl[5]? = some (C, T, N) → (T 2).2.2.2 = true ∧ (T 2).1 = C ∧ parseFieldDescriptor (T 2).2.2.1 = some (.array .int) := by
  intro C T N h
  have h : some (RX5, TX5, 4) = some (C, T, N) := h
  cases h
  exact ⟨rfl, by decide +kernel, by decide +kernel⟩
theorem pf_5_3 : ∀ C T N, vwCl[5]? = some (C, T, N) → (T 3).2.2.2 = false ∧ (T 3).1 = C ∧ parseFieldDescriptor (T 3).2.2.1 = some (.int) := by
  intro C T N h
  have h : some (RX5, TX5, 4) = some (C, T, N) := h
  cases h
  exact ⟨rfl, by decide +kernel, by decide +kernel⟩
theorem oi_X2 : Cond.methodLink RX2 3 objectInit ∈ ztb := zmem 286 (by decide +kernel) rfl
theorem pf_2_0 : ∀ C T N, vwCl[2]? = some (C, T, N) → (T 0).2.2.2 = false ∧ (T 0).1 = C ∧ parseFieldDescriptor (T 0).2.2.1 = some (.int) := by
  intro C T N h
  have h : some (RX2, TX2, 7) = some (C, T, N) := h
  cases h
  exact ⟨rfl, by decide +kernel, by decide +kernel⟩
theorem pf_2_1 : ∀ C T N, vwCl[2]? = some (C, T, N) → (T 1).2.2.2 = true ∧ (T 1).1 = C ∧ parseFieldDescriptor (T 1).2.2.1 = some (.array .long) := by
  intro C T N h
  have h : some (RX2, TX2, 7) = some (C, T, N) := h
  cases h
  exact ⟨rfl, by decide +kernel, by decide +kernel⟩
theorem oc_2 : ∀ C T N, vwCl[2]? = some (C, T, N) → C = RX2 := by
  intro C T N h
  have h : some (RX2, TX2, 7) = some (C, T, N) := h
  cases h
  rfl
theorem pf_2_2 : ∀ C T N, vwCl[2]? = some (C, T, N) → (T 2).2.2.2 = true ∧ (T 2).1 = C ∧ parseFieldDescriptor (T 2).2.2.1 = some (.array .long) := by
  intro C T N h
  have h : some (RX2, TX2, 7) = some (C, T, N) := h
  cases h
  exact ⟨rfl, by decide +kernel, by decide +kernel⟩
theorem pf_2_3 : ∀ C T N, vwCl[2]? = some (C, T, N) → (T 3).2.2.2 = true ∧ (T 3).1 = C ∧ parseFieldDescriptor (T 3).2.2.1 = some (.array .long) := by
  intro C T N h
  have h : some (RX2, TX2, 7) = some (C, T, N) := h
  cases h
  exact ⟨rfl, by decide +kernel, by decide +kernel⟩
theorem pf_2_4 : ∀ C T N, vwCl[2]? = some (C, T, N) → (T 4).2.2.2 = true ∧ (T 4).1 = C ∧ parseFieldDescriptor (T 4).2.2.1 = some (.array .int) := by
  intro C T N h
  have h : some (RX2, TX2, 7) = some (C, T, N) := h
  cases h
  exact ⟨rfl, by decide +kernel, by decide +kernel⟩
theorem pf_2_5 : ∀ C T N, vwCl[2]? = some (C, T, N) → (T 5).2.2.2 = true ∧ (T 5).1 = C ∧ parseFieldDescriptor (T 5).2.2.1 = some (.array .int) := by
  intro C T N h
  have h : some (RX2, TX2, 7) = some (C, T, N) := h
  cases h
  exact ⟨rfl, by decide +kernel, by decide +kernel⟩
theorem pf_2_6 : ∀ C T N, vwCl[2]? = some (C, T, N) → (T 6).2.2.2 = true ∧ (T 6).1 = C ∧ parseFieldDescriptor (T 6).2.2.1 = some (.array .int) := by
  intro C T N h
  have h : some (RX2, TX2, 7) = some (C, T, N) := h
  cases h
  exact ⟨rfl, by decide +kernel, by decide +kernel⟩
theorem oi_X6 : Cond.methodLink RX6 3 objectInit ∈ ztb := zmem 315 (by decide +kernel) rfl
theorem pf_6_0 : ∀ C T N, vwCl[6]? = some (C, T, N) → (T 0).2.2.2 = false ∧ (T 0).1 = C ∧ parseFieldDescriptor (T 0).2.2.1 = some (.int) := by
  intro C T N h
  have h : some (RX6, TX6, 12) = some (C, T, N) := h
  cases h
  exact ⟨rfl, by decide +kernel, by decide +kernel⟩
theorem pf_6_1 : ∀ C T N, vwCl[6]? = some (C, T, N) → (T 1).2.2.2 = false ∧ (T 1).1 = C ∧ parseFieldDescriptor (T 1).2.2.1 = some (.int) := by
  intro C T N h
  have h : some (RX6, TX6, 12) = some (C, T, N) := h
  cases h
  exact ⟨rfl, by decide +kernel, by decide +kernel⟩
theorem pf_6_2 : ∀ C T N, vwCl[6]? = some (C, T, N) → (T 2).2.2.2 = true ∧ (T 2).1 = C ∧ parseFieldDescriptor (T 2).2.2.1 = some (.array .int) := by
  intro C T N h
  have h : some (RX6, TX6, 12) = some (C, T, N) := h
  cases h
  exact ⟨rfl, by decide +kernel, by decide +kernel⟩
theorem oc_6 : ∀ C T N, vwCl[6]? = some (C, T, N) → C = RX6 := by
  intro C T N h
  have h : some (RX6, TX6, 12) = some (C, T, N) := h
  cases h
  rfl
theorem pf_6_3 : ∀ C T N, vwCl[6]? = some (C, T, N) → (T 3).2.2.2 = true ∧ (T 3).1 = C ∧ parseFieldDescriptor (T 3).2.2.1 = some (.array .int) := by
  intro C T N h
  have h : some (RX6, TX6, 12) = some (C, T, N) := h
  cases h
  exact ⟨rfl, by decide +kernel, by decide +kernel⟩
theorem pf_6_4 : ∀ C T N, vwCl[6]? = some (C, T, N) → (T 4).2.2.2 = true ∧ (T 4).1 = C ∧ parseFieldDescriptor (T 4).2.2.1 = some (.array .long) := by
  intro C T N h
  have h : some (RX6, TX6, 12) = some (C, T, N) := h
  cases h
  exact ⟨rfl, by decide +kernel, by decide +kernel⟩
theorem pf_6_5 : ∀ C T N, vwCl[6]? = some (C, T, N) → (T 5).2.2.2 = true ∧ (T 5).1 = C ∧ parseFieldDescriptor (T 5).2.2.1 = some (.array .int) := by
  intro C T N h
  have h : some (RX6, TX6, 12) = some (C, T, N) := h
  cases h
  exact ⟨rfl, by decide +kernel, by decide +kernel⟩
theorem zbi_13 : (Int8.ofInt (13)).toInt32 = 13 := by decide
theorem pf_6_6 : ∀ C T N, vwCl[6]? = some (C, T, N) → (T 6).2.2.2 = true ∧ (T 6).1 = C ∧ parseFieldDescriptor (T 6).2.2.1 = some (.array .int) := by
  intro C T N h
  have h : some (RX6, TX6, 12) = some (C, T, N) := h
  cases h
  exact ⟨rfl, by decide +kernel, by decide +kernel⟩
theorem pf_6_7 : ∀ C T N, vwCl[6]? = some (C, T, N) → (T 7).2.2.2 = true ∧ (T 7).1 = C ∧ parseFieldDescriptor (T 7).2.2.1 = some (.array .int) := by
  intro C T N h
  have h : some (RX6, TX6, 12) = some (C, T, N) := h
  cases h
  exact ⟨rfl, by decide +kernel, by decide +kernel⟩
theorem pf_6_8 : ∀ C T N, vwCl[6]? = some (C, T, N) → (T 8).2.2.2 = true ∧ (T 8).1 = C ∧ parseFieldDescriptor (T 8).2.2.1 = some (.array .int) := by
  intro C T N h
  have h : some (RX6, TX6, 12) = some (C, T, N) := h
  cases h
  exact ⟨rfl, by decide +kernel, by decide +kernel⟩
theorem pf_6_9 : ∀ C T N, vwCl[6]? = some (C, T, N) → (T 9).2.2.2 = true ∧ (T 9).1 = C ∧ parseFieldDescriptor (T 9).2.2.1 = some (.array .int) := by
  intro C T N h
  have h : some (RX6, TX6, 12) = some (C, T, N) := h
  cases h
  exact ⟨rfl, by decide +kernel, by decide +kernel⟩
theorem pf_6_10 : ∀ C T N, vwCl[6]? = some (C, T, N) → (T 10).2.2.2 = true ∧ (T 10).1 = C ∧ parseFieldDescriptor (T 10).2.2.1 = some (.array .int) := by
  intro C T N h
  have h : some (RX6, TX6, 12) = some (C, T, N) := h
  cases h
  exact ⟨rfl, by decide +kernel, by decide +kernel⟩
theorem pf_6_11 : ∀ C T N, vwCl[6]? = some (C, T, N) → (T 11).2.2.2 = false ∧ (T 11).1 = C ∧ parseFieldDescriptor (T 11).2.2.1 = some (.int) := by
  intro C T N h
  have h : some (RX6, TX6, 12) = some (C, T, N) := h
  cases h
  exact ⟨rfl, by decide +kernel, by decide +kernel⟩
theorem oi_X4 : Cond.methodLink RX4 3 objectInit ∈ ztb := zmem 362 (by decide +kernel) rfl
theorem pf_4_0 : ∀ C T N, vwCl[4]? = some (C, T, N) → (T 0).2.2.2 = false ∧ (T 0).1 = C ∧ parseFieldDescriptor (T 0).2.2.1 = some (.int) := by
  intro C T N h
  have h : some (RX4, TX4, 7) = some (C, T, N) := h
  cases h
  exact ⟨rfl, by decide +kernel, by decide +kernel⟩
theorem pf_4_1 : ∀ C T N, vwCl[4]? = some (C, T, N) → (T 1).2.2.2 = false ∧ (T 1).1 = C ∧ parseFieldDescriptor (T 1).2.2.1 = some (.int) := by
  intro C T N h
  have h : some (RX4, TX4, 7) = some (C, T, N) := h
  cases h
  exact ⟨rfl, by decide +kernel, by decide +kernel⟩
theorem pf_4_2 : ∀ C T N, vwCl[4]? = some (C, T, N) → (T 2).2.2.2 = true ∧ (T 2).1 = C ∧ parseFieldDescriptor (T 2).2.2.1 = some (.array .int) := by
  intro C T N h
  have h : some (RX4, TX4, 7) = some (C, T, N) := h
  cases h
  exact ⟨rfl, by decide +kernel, by decide +kernel⟩
theorem oc_4 : ∀ C T N, vwCl[4]? = some (C, T, N) → C = RX4 := by
  intro C T N h
  have h : some (RX4, TX4, 7) = some (C, T, N) := h
  cases h
  rfl
theorem pf_4_3 : ∀ C T N, vwCl[4]? = some (C, T, N) → (T 3).2.2.2 = true ∧ (T 3).1 = C ∧ parseFieldDescriptor (T 3).2.2.1 = some (.array .int) := by
  intro C T N h
  have h : some (RX4, TX4, 7) = some (C, T, N) := h
  cases h
  exact ⟨rfl, by decide +kernel, by decide +kernel⟩
theorem pf_4_4 : ∀ C T N, vwCl[4]? = some (C, T, N) → (T 4).2.2.2 = true ∧ (T 4).1 = C ∧ parseFieldDescriptor (T 4).2.2.1 = some (.array .int) := by
  intro C T N h
  have h : some (RX4, TX4, 7) = some (C, T, N) := h
  cases h
  exact ⟨rfl, by decide +kernel, by decide +kernel⟩
theorem pf_4_5 : ∀ C T N, vwCl[4]? = some (C, T, N) → (T 5).2.2.2 = true ∧ (T 5).1 = C ∧ parseFieldDescriptor (T 5).2.2.1 = some (.array .int) := by
  intro C T N h
  have h : some (RX4, TX4, 7) = some (C, T, N) := h
  cases h
  exact ⟨rfl, by decide +kernel, by decide +kernel⟩
theorem pf_4_6 : ∀ C T N, vwCl[4]? = some (C, T, N) → (T 6).2.2.2 = true ∧ (T 6).1 = C ∧ parseFieldDescriptor (T 6).2.2.1 = some (.array .int) := by
  intro C T N h
  have h : some (RX4, TX4, 7) = some (C, T, N) := h
  cases h
  exact ⟨rfl, by decide +kernel, by decide +kernel⟩
theorem oi_X1 : Cond.methodLink RX1 3 objectInit ∈ ztb := zmem 393 (by decide +kernel) rfl
theorem pf_1_0 : ∀ C T N, vwCl[1]? = some (C, T, N) → (T 0).2.2.2 = true ∧ (T 0).1 = C ∧ parseFieldDescriptor (T 0).2.2.1 = some (.array .long) := by
  intro C T N h
  have h : some (RX1, TX1, 5) = some (C, T, N) := h
  cases h
  exact ⟨rfl, by decide +kernel, by decide +kernel⟩
theorem oc_1 : ∀ C T N, vwCl[1]? = some (C, T, N) → C = RX1 := by
  intro C T N h
  have h : some (RX1, TX1, 5) = some (C, T, N) := h
  cases h
  rfl
theorem pf_1_1 : ∀ C T N, vwCl[1]? = some (C, T, N) → (T 1).2.2.2 = false ∧ (T 1).1 = C ∧ parseFieldDescriptor (T 1).2.2.1 = some (.long) := by
  intro C T N h
  have h : some (RX1, TX1, 5) = some (C, T, N) := h
  cases h
  exact ⟨rfl, by decide +kernel, by decide +kernel⟩
theorem pf_1_2 : ∀ C T N, vwCl[1]? = some (C, T, N) → (T 2).2.2.2 = false ∧ (T 2).1 = C ∧ parseFieldDescriptor (T 2).2.2.1 = some (.int) := by
  intro C T N h
  have h : some (RX1, TX1, 5) = some (C, T, N) := h
  cases h
  exact ⟨rfl, by decide +kernel, by decide +kernel⟩
theorem pf_1_3 : ∀ C T N, vwCl[1]? = some (C, T, N) → (T 3).2.2.2 = true ∧ (T 3).1 = C ∧ parseFieldDescriptor (T 3).2.2.1 = some (.array .long) := by
  intro C T N h
  have h : some (RX1, TX1, 5) = some (C, T, N) := h
  cases h
  exact ⟨rfl, by decide +kernel, by decide +kernel⟩
theorem pf_1_4 : ∀ C T N, vwCl[1]? = some (C, T, N) → (T 4).2.2.2 = true ∧ (T 4).1 = C ∧ parseFieldDescriptor (T 4).2.2.1 = some (.array .int) := by
  intro C T N h
  have h : some (RX1, TX1, 5) = some (C, T, N) := h
  cases h
  exact ⟨rfl, by decide +kernel, by decide +kernel⟩
set_option maxRecDepth 100000 in
theorem ci_X7_init {w : zWC} {t : Nat × Nat} {o n : Nat} {S : Nat → Nat → Bool} {σ : zSt} (ho : zC o = 7) (hon : o < n) (hz0 : zC (n) = 10) (hN0 : zN (n) = 800) (ht0 : zT o 0 = n) : zCi w t 1 yX7_init cX7_init 1 [.ref (zb w + o)] (zHp w n S σ) (zHp w (n + 1) (zsS S o 0) (zsI σ o 1 0)) 1 800 :=
  zCi_of (own := RX7) (lv := [some (.ref (zb w + o))]) (by decide +kernel) rfl (Nat.le_of_ble_eq_true rfl) rfl (fun x hr hRc hRs hnm => by
    refine zg_aload_n dX7_init_0 rfl ?_
    refine zg_objInit oi_X7 zoi_i zoi_c (by omega) (Nat.le_of_ble_eq_true rfl) dX7_init_1 ?_
    refine zg_aload_n dX7_init_4 rfl ?_
    refine zg_sipush dX7_init_5 zsi_800 ?_
    refine zg_newaB dX7_init_8 ac_byte hz0 (by decide) (by rw [hN0]; rfl) (by omega) (by omega) (by omega) ?_
    refine zg_putT dX7_init_10 fl_X7_9 rfl ho (by omega) pf_7_0 hnm oc_7 rfl rfl ht0 ?_
    refine zg_aload_n dX7_init_13 rfl ?_
    refine zg_iconst dX7_init_14 zic_0 ?_
    refine zg_putI dX7_init_15 fl_X7_15 rfl ho (by omega) pf_7_1 rfl rfl ?_
    refine zg_widen (ce' := 1) (sl' := 800) (by omega) (by omega) ?_
    exact zg_vret hr dX7_init_18)
set_option maxRecDepth 100000 in
theorem ci_X0_init {w : zWC} {t : Nat × Nat} {o n : Nat} {S : Nat → Nat → Bool} {σ : zSt} (ho : zC o = 0) (hon : o < n) (hz0 : zC (n) = 12) (hN0 : zN (n) = 8) (ht2 : zT o 2 = n) (hz1 : zC (n + 1) = 12) (hN1 : zN (n + 1) = 8) (ht3 : zT o 3 = n + 1) (hz2 : zC (n + 1 + 1) = 11) (hN2 : zN (n + 1 + 1) = 8) (ht4 : zT o 4 = n + 1 + 1) (hz3 : zC (n + 1 + 1 + 1) = 10) (hN3 : zN (n + 1 + 1 + 1) = 256) (ht5 : zT o 5 = n + 1 + 1 + 1) : zCi w t 1 yX0_init cX0_init 1 [.ref (zb w + o)] (zHp w n S σ) (zHp w (n + 1 + 1 + 1 + 1) (zsS (zsS (zsS (zsS S o 2) o 3) o 4) o 5) (zsI (zsI (zsI (zsI σ o 0 0) o 1 0) o 6 0) o 7 0)) 4 280 :=
  zCi_of (own := RX0) (lv := [some (.ref (zb w + o))]) (by decide +kernel) rfl (Nat.le_of_ble_eq_true rfl) rfl (fun x hr hRc hRs hnm => by
    refine zg_aload_n dX0_init_0 rfl ?_
    refine zg_objInit oi_X0 zoi_i zoi_c (by omega) (Nat.le_of_ble_eq_true rfl) dX0_init_1 ?_
    refine zg_aload_n dX0_init_4 rfl ?_
    refine zg_iconst dX0_init_5 zic_0 ?_
    refine zg_putI dX0_init_6 fl_X0_9 rfl ho (by omega) pf_0_0 rfl rfl ?_
    refine zg_aload_n dX0_init_9 rfl ?_
    refine zg_iconst dX0_init_10 zic_0 ?_
    refine zg_putI dX0_init_11 fl_X0_15 rfl ho (by omega) pf_0_1 rfl rfl ?_
    refine zg_aload_n dX0_init_14 rfl ?_
    refine zg_bipush dX0_init_15 zbi_8 ?_
    refine zg_newaJ dX0_init_17 ac_long hz0 (by decide) (by rw [hN0]; rfl) (by omega) (by omega) (by omega) ?_
    refine zg_putT dX0_init_19 fl_X0_18 rfl ho (by omega) pf_0_2 hnm oc_0 rfl rfl ht2 ?_
    refine zg_aload_n dX0_init_22 rfl ?_
    refine zg_bipush dX0_init_23 zbi_8 ?_
    refine zg_newaJ dX0_init_25 ac_long hz1 (by decide) (by rw [hN1]; rfl) (by omega) (by omega) (by omega) ?_
    refine zg_putT dX0_init_27 fl_X0_22 rfl ho (by omega) pf_0_3 hnm oc_0 rfl rfl ht3 ?_
    refine zg_aload_n dX0_init_30 rfl ?_
    refine zg_bipush dX0_init_31 zbi_8 ?_
    refine zg_newaI dX0_init_33 ac_int hz2 (by decide) (by rw [hN2]; rfl) (by omega) (by omega) (by omega) ?_
    refine zg_putT dX0_init_35 fl_X0_25 rfl ho (by omega) pf_0_4 hnm oc_0 rfl rfl ht4 ?_
    refine zg_aload_n dX0_init_38 rfl ?_
    refine zg_sipush dX0_init_39 zsi_256 ?_
    refine zg_newaB dX0_init_42 ac_byte hz3 (by decide) (by rw [hN3]; rfl) (by omega) (by omega) (by omega) ?_
    refine zg_putT dX0_init_44 fl_X0_29 rfl ho (by omega) pf_0_5 hnm oc_0 rfl rfl ht5 ?_
    refine zg_aload_n dX0_init_47 rfl ?_
    refine zg_iconst dX0_init_48 zic_0 ?_
    refine zg_putI dX0_init_49 fl_X0_33 rfl ho (by omega) pf_0_6 rfl rfl ?_
    refine zg_aload_n dX0_init_52 rfl ?_
    refine zg_iconst dX0_init_53 zic_0 ?_
    refine zg_putI dX0_init_54 fl_X0_36 rfl ho (by omega) pf_0_7 rfl rfl ?_
    refine zg_widen (ce' := 4) (sl' := 280) (by omega) (by omega) ?_
    exact zg_vret hr dX0_init_57)
set_option maxRecDepth 100000 in
theorem ci_X5_init {w : zWC} {t : Nat × Nat} {o n : Nat} {S : Nat → Nat → Bool} {σ : zSt} (ho : zC o = 5) (hon : o < n) (hz0 : zC (n) = 0) (hN0 : zN (n) = 8) (c14_hz0 : zC ((n + 1)) = 12) (c14_hN0 : zN ((n + 1)) = 8) (c14_ht2 : zT n 2 = (n + 1)) (c14_hz1 : zC ((n + 1) + 1) = 12) (c14_hN1 : zN ((n + 1) + 1) = 8) (c14_ht3 : zT n 3 = (n + 1) + 1) (c14_hz2 : zC ((n + 1) + 1 + 1) = 11) (c14_hN2 : zN ((n + 1) + 1 + 1) = 8) (c14_ht4 : zT n 4 = (n + 1) + 1 + 1) (c14_hz3 : zC ((n + 1) + 1 + 1 + 1) = 10) (c14_hN3 : zN ((n + 1) + 1 + 1 + 1) = 256) (c14_ht5 : zT n 5 = (n + 1) + 1 + 1 + 1) (ht1 : zT o 1 = n) (hz5 : zC (n + 1 + 1 + 1 + 1 + 1) = 11) (hN5 : zN (n + 1 + 1 + 1 + 1 + 1) = 11) (ht2 : zT o 2 = n + 1 + 1 + 1 + 1 + 1) : zCi w t 2 yX5_init cX5_init 1 [.ref (zb w + o)] (zHp w n S σ) (zHp w (n + 1 + 1 + 1 + 1 + 1 + 1) (zsS (zsS (zsS (zsS (zsS (zsS S n 2) n 3) n 4) n 5) o 1) o 2) (zsI (zcpU (zsI (zsI (zsI (zsI (zsI σ o 0 0) n 0 0) n 1 0) n 6 0) n 7 0) (n + 1 + 1 + 1 + 1 + 1)) o 3 0)) 6 299 :=
  zCi_of (own := RX5) (lv := [some (.ref (zb w + o))]) (by decide +kernel) rfl (Nat.le_of_ble_eq_true rfl) rfl (fun x hr hRc hRs hnm => by
    refine zg_aload_n dX5_init_0 rfl ?_
    refine zg_objInit oi_X5 zoi_i zoi_c (by omega) (Nat.le_of_ble_eq_true rfl) dX5_init_1 ?_
    refine zg_aload_n dX5_init_4 rfl ?_
    refine zg_iconst dX5_init_5 zic_0 ?_
    refine zg_putI dX5_init_6 fl_X5_9 rfl ho (by omega) pf_5_0 rfl rfl ?_
    refine zg_aload_n dX5_init_9 rfl ?_
    refine zg_new (C := RX0) (T := TX0) tyX0 dX5_init_10 rfl (by decide) zin_0 tyX0_ok cl_X5_15 ni_0 ng_0 hz0 hN0 nw_0 (by omega) (by omega) ?_
    refine zg_dup dX5_init_13 rfl ?_
    refine zg_callIN0 (As := []) (st := [.ref (zb w + n), .ref (zb w + o)]) mi_X5_17 (ci_X0_init (o := n) (n := n + 1) (S := S) (σ := (zsI σ o 0 0)) hz0 (by omega) c14_hz0 c14_hN0 c14_ht2 c14_hz1 c14_hN1 c14_ht3 c14_hz2 c14_hN2 c14_ht4 c14_hz3 c14_hN3 c14_ht5) (by omega) rfl rfl (Nat.le_of_ble_eq_true rfl) dX5_init_14 (by omega) (by omega) ?_
    refine zg_putT dX5_init_17 fl_X5_18 rfl ho (by omega) pf_5_1 hnm oc_5 rfl rfl ht1 ?_
    refine zg_aload_n dX5_init_20 rfl ?_
    refine zg_getsU dX5_init_21 (by decide +kernel) ?_
    refine zg_clone dX5_init_24 kl_link kl_same kl_nat kl_inst kl_sel hz5 hN5 (by omega) (Nat.le_of_ble_eq_true rfl) (by omega) (by omega) ?_
    refine zg_cast dX5_init_27 cl_X5_27 hz5 (by omega) ?_
    refine zg_putT dX5_init_30 fl_X5_31 rfl ho (by omega) pf_5_2 hnm oc_5 rfl rfl ht2 ?_
    refine zg_aload_n dX5_init_33 rfl ?_
    refine zg_iconst dX5_init_34 zic_0 ?_
    refine zg_putI dX5_init_35 fl_X5_34 rfl ho (by omega) pf_5_3 rfl rfl ?_
    refine zg_widen (ce' := 6) (sl' := 299) (by omega) (by omega) ?_
    exact zg_vret hr dX5_init_38)
set_option maxRecDepth 100000 in
theorem ci_X2_init {w : zWC} {t : Nat × Nat} {o n : Nat} {S : Nat → Nat → Bool} {σ : zSt} (ho : zC o = 2) (hon : o < n) (hz0 : zC (n) = 12) (hN0 : zN (n) = 12) (ht1 : zT o 1 = n) (hz1 : zC (n + 1) = 12) (hN1 : zN (n + 1) = 12) (ht2 : zT o 2 = n + 1) (hz2 : zC (n + 1 + 1) = 12) (hN2 : zN (n + 1 + 1) = 12) (ht3 : zT o 3 = n + 1 + 1) (hz3 : zC (n + 1 + 1 + 1) = 11) (hN3 : zN (n + 1 + 1 + 1) = 12) (ht4 : zT o 4 = n + 1 + 1 + 1) (hz4 : zC (n + 1 + 1 + 1 + 1) = 11) (hN4 : zN (n + 1 + 1 + 1 + 1) = 12) (ht5 : zT o 5 = n + 1 + 1 + 1 + 1) (hz5 : zC (n + 1 + 1 + 1 + 1 + 1) = 11) (hN5 : zN (n + 1 + 1 + 1 + 1 + 1) = 12) (ht6 : zT o 6 = n + 1 + 1 + 1 + 1 + 1) : zCi w t 1 yX2_init cX2_init 1 [.ref (zb w + o)] (zHp w n S σ) (zHp w (n + 1 + 1 + 1 + 1 + 1 + 1) (zsS (zsS (zsS (zsS (zsS (zsS S o 1) o 2) o 3) o 4) o 5) o 6) (zsI σ o 0 0)) 6 72 :=
  zCi_of (own := RX2) (lv := [some (.ref (zb w + o))]) (by decide +kernel) rfl (Nat.le_of_ble_eq_true rfl) rfl (fun x hr hRc hRs hnm => by
    refine zg_aload_n dX2_init_0 rfl ?_
    refine zg_objInit oi_X2 zoi_i zoi_c (by omega) (Nat.le_of_ble_eq_true rfl) dX2_init_1 ?_
    refine zg_aload_n dX2_init_4 rfl ?_
    refine zg_iconst dX2_init_5 zic_0 ?_
    refine zg_putI dX2_init_6 fl_X2_9 rfl ho (by omega) pf_2_0 rfl rfl ?_
    refine zg_aload_n dX2_init_9 rfl ?_
    refine zg_bipush dX2_init_10 zbi_12 ?_
    refine zg_newaJ dX2_init_12 ac_long hz0 (by decide) (by rw [hN0]; rfl) (by omega) (by omega) (by omega) ?_
    refine zg_putT dX2_init_14 fl_X2_15 rfl ho (by omega) pf_2_1 hnm oc_2 rfl rfl ht1 ?_
    refine zg_aload_n dX2_init_17 rfl ?_
    refine zg_bipush dX2_init_18 zbi_12 ?_
    refine zg_newaJ dX2_init_20 ac_long hz1 (by decide) (by rw [hN1]; rfl) (by omega) (by omega) (by omega) ?_
    refine zg_putT dX2_init_22 fl_X2_19 rfl ho (by omega) pf_2_2 hnm oc_2 rfl rfl ht2 ?_
    refine zg_aload_n dX2_init_25 rfl ?_
    refine zg_bipush dX2_init_26 zbi_12 ?_
    refine zg_newaJ dX2_init_28 ac_long hz2 (by decide) (by rw [hN2]; rfl) (by omega) (by omega) (by omega) ?_
    refine zg_putT dX2_init_30 fl_X2_22 rfl ho (by omega) pf_2_3 hnm oc_2 rfl rfl ht3 ?_
    refine zg_aload_n dX2_init_33 rfl ?_
    refine zg_bipush dX2_init_34 zbi_12 ?_
    refine zg_newaI dX2_init_36 ac_int hz3 (by decide) (by rw [hN3]; rfl) (by omega) (by omega) (by omega) ?_
    refine zg_putT dX2_init_38 fl_X2_25 rfl ho (by omega) pf_2_4 hnm oc_2 rfl rfl ht4 ?_
    refine zg_aload_n dX2_init_41 rfl ?_
    refine zg_bipush dX2_init_42 zbi_12 ?_
    refine zg_newaI dX2_init_44 ac_int hz4 (by decide) (by rw [hN4]; rfl) (by omega) (by omega) (by omega) ?_
    refine zg_putT dX2_init_46 fl_X2_29 rfl ho (by omega) pf_2_5 hnm oc_2 rfl rfl ht5 ?_
    refine zg_aload_n dX2_init_49 rfl ?_
    refine zg_bipush dX2_init_50 zbi_12 ?_
    refine zg_newaI dX2_init_52 ac_int hz5 (by decide) (by rw [hN5]; rfl) (by omega) (by omega) (by omega) ?_
    refine zg_putT dX2_init_54 fl_X2_32 rfl ho (by omega) pf_2_6 hnm oc_2 rfl rfl ht6 ?_
    refine zg_widen (ce' := 6) (sl' := 72) (by omega) (by omega) ?_
    exact zg_vret hr dX2_init_57)
set_option maxRecDepth 100000 in
theorem ci_X6_init {w : zWC} {t : Nat × Nat} {o n : Nat} {S : Nat → Nat → Bool} {σ : zSt} (ho : zC o = 6) (hon : o < n) (hz0 : zC (n) = 11) (hN0 : zN (n) = 12) (ht2 : zT o 2 = n) (hz1 : zC (n + 1) = 11) (hN1 : zN (n + 1) = 12) (ht3 : zT o 3 = n + 1) (hz2 : zC (n + 1 + 1) = 12) (hN2 : zN (n + 1 + 1) = 12) (ht4 : zT o 4 = n + 1 + 1) (hz3 : zC (n + 1 + 1 + 1) = 11) (hN3 : zN (n + 1 + 1 + 1) = 12) (ht5 : zT o 5 = n + 1 + 1 + 1) (hz4 : zC (n + 1 + 1 + 1 + 1) = 11) (hN4 : zN (n + 1 + 1 + 1 + 1) = 13) (ht6 : zT o 6 = n + 1 + 1 + 1 + 1) (hz5 : zC (n + 1 + 1 + 1 + 1 + 1) = 11) (hN5 : zN (n + 1 + 1 + 1 + 1 + 1) = 120) (ht7 : zT o 7 = n + 1 + 1 + 1 + 1 + 1) (hz6 : zC (n + 1 + 1 + 1 + 1 + 1 + 1) = 11) (hN6 : zN (n + 1 + 1 + 1 + 1 + 1 + 1) = 120) (ht8 : zT o 8 = n + 1 + 1 + 1 + 1 + 1 + 1) (hz7 : zC (n + 1 + 1 + 1 + 1 + 1 + 1 + 1) = 11) (hN7 : zN (n + 1 + 1 + 1 + 1 + 1 + 1 + 1) = 120) (ht9 : zT o 9 = n + 1 + 1 + 1 + 1 + 1 + 1 + 1) (hz8 : zC (n + 1 + 1 + 1 + 1 + 1 + 1 + 1 + 1) = 11) (hN8 : zN (n + 1 + 1 + 1 + 1 + 1 + 1 + 1 + 1) = 12) (ht10 : zT o 10 = n + 1 + 1 + 1 + 1 + 1 + 1 + 1 + 1) : zCi w t 1 yX6_init cX6_init 1 [.ref (zb w + o)] (zHp w n S σ) (zHp w (n + 1 + 1 + 1 + 1 + 1 + 1 + 1 + 1 + 1) (zsS (zsS (zsS (zsS (zsS (zsS (zsS (zsS (zsS S o 2) o 3) o 4) o 5) o 6) o 7) o 8) o 9) o 10) (zsI (zsI (zsI σ o 0 0) o 1 0) o 11 0)) 9 433 :=
  zCi_of (own := RX6) (lv := [some (.ref (zb w + o))]) (by decide +kernel) rfl (Nat.le_of_ble_eq_true rfl) rfl (fun x hr hRc hRs hnm => by
    refine zg_aload_n dX6_init_0 rfl ?_
    refine zg_objInit oi_X6 zoi_i zoi_c (by omega) (Nat.le_of_ble_eq_true rfl) dX6_init_1 ?_
    refine zg_aload_n dX6_init_4 rfl ?_
    refine zg_iconst dX6_init_5 zic_0 ?_
    refine zg_putI dX6_init_6 fl_X6_9 rfl ho (by omega) pf_6_0 rfl rfl ?_
    refine zg_aload_n dX6_init_9 rfl ?_
    refine zg_iconst dX6_init_10 zic_0 ?_
    refine zg_putI dX6_init_11 fl_X6_15 rfl ho (by omega) pf_6_1 rfl rfl ?_
    refine zg_aload_n dX6_init_14 rfl ?_
    refine zg_bipush dX6_init_15 zbi_12 ?_
    refine zg_newaI dX6_init_17 ac_int hz0 (by decide) (by rw [hN0]; rfl) (by omega) (by omega) (by omega) ?_
    refine zg_putT dX6_init_19 fl_X6_18 rfl ho (by omega) pf_6_2 hnm oc_6 rfl rfl ht2 ?_
    refine zg_aload_n dX6_init_22 rfl ?_
    refine zg_bipush dX6_init_23 zbi_12 ?_
    refine zg_newaI dX6_init_25 ac_int hz1 (by decide) (by rw [hN1]; rfl) (by omega) (by omega) (by omega) ?_
    refine zg_putT dX6_init_27 fl_X6_22 rfl ho (by omega) pf_6_3 hnm oc_6 rfl rfl ht3 ?_
    refine zg_aload_n dX6_init_30 rfl ?_
    refine zg_bipush dX6_init_31 zbi_12 ?_
    refine zg_newaJ dX6_init_33 ac_long hz2 (by decide) (by rw [hN2]; rfl) (by omega) (by omega) (by omega) ?_
    refine zg_putT dX6_init_35 fl_X6_25 rfl ho (by omega) pf_6_4 hnm oc_6 rfl rfl ht4 ?_
    refine zg_aload_n dX6_init_38 rfl ?_
    refine zg_bipush dX6_init_39 zbi_12 ?_
    refine zg_newaI dX6_init_41 ac_int hz3 (by decide) (by rw [hN3]; rfl) (by omega) (by omega) (by omega) ?_
    refine zg_putT dX6_init_43 fl_X6_29 rfl ho (by omega) pf_6_5 hnm oc_6 rfl rfl ht5 ?_
    refine zg_aload_n dX6_init_46 rfl ?_
    refine zg_bipush dX6_init_47 zbi_13 ?_
    refine zg_newaI dX6_init_49 ac_int hz4 (by decide) (by rw [hN4]; rfl) (by omega) (by omega) (by omega) ?_
    refine zg_putT dX6_init_51 fl_X6_32 rfl ho (by omega) pf_6_6 hnm oc_6 rfl rfl ht6 ?_
    refine zg_aload_n dX6_init_54 rfl ?_
    refine zg_bipush dX6_init_55 zbi_120 ?_
    refine zg_newaI dX6_init_57 ac_int hz5 (by decide) (by rw [hN5]; rfl) (by omega) (by omega) (by omega) ?_
    refine zg_putT dX6_init_59 fl_X6_35 rfl ho (by omega) pf_6_7 hnm oc_6 rfl rfl ht7 ?_
    refine zg_aload_n dX6_init_62 rfl ?_
    refine zg_bipush dX6_init_63 zbi_120 ?_
    refine zg_newaI dX6_init_65 ac_int hz6 (by decide) (by rw [hN6]; rfl) (by omega) (by omega) (by omega) ?_
    refine zg_putT dX6_init_67 fl_X6_38 rfl ho (by omega) pf_6_8 hnm oc_6 rfl rfl ht8 ?_
    refine zg_aload_n dX6_init_70 rfl ?_
    refine zg_bipush dX6_init_71 zbi_120 ?_
    refine zg_newaI dX6_init_73 ac_int hz7 (by decide) (by rw [hN7]; rfl) (by omega) (by omega) (by omega) ?_
    refine zg_putT dX6_init_75 fl_X6_41 rfl ho (by omega) pf_6_9 hnm oc_6 rfl rfl ht9 ?_
    refine zg_aload_n dX6_init_78 rfl ?_
    refine zg_bipush dX6_init_79 zbi_12 ?_
    refine zg_newaI dX6_init_81 ac_int hz8 (by decide) (by rw [hN8]; rfl) (by omega) (by omega) (by omega) ?_
    refine zg_putT dX6_init_83 fl_X6_44 rfl ho (by omega) pf_6_10 hnm oc_6 rfl rfl ht10 ?_
    refine zg_aload_n dX6_init_86 rfl ?_
    refine zg_iconst dX6_init_87 zic_0 ?_
    refine zg_putI dX6_init_88 fl_X6_47 rfl ho (by omega) pf_6_11 rfl rfl ?_
    refine zg_widen (ce' := 9) (sl' := 433) (by omega) (by omega) ?_
    exact zg_vret hr dX6_init_91)
set_option maxRecDepth 100000 in
theorem ci_X4_init {w : zWC} {t : Nat × Nat} {o n : Nat} {S : Nat → Nat → Bool} {σ : zSt} (ho : zC o = 4) (hon : o < n) (hz0 : zC (n) = 11) (hN0 : zN (n) = 40) (ht2 : zT o 2 = n) (hz1 : zC (n + 1) = 11) (hN1 : zN (n + 1) = 40) (ht3 : zT o 3 = n + 1) (hz2 : zC (n + 1 + 1) = 11) (hN2 : zN (n + 1 + 1) = 40) (ht4 : zT o 4 = n + 1 + 1) (hz3 : zC (n + 1 + 1 + 1) = 11) (hN3 : zN (n + 1 + 1 + 1) = 40) (ht5 : zT o 5 = n + 1 + 1 + 1) (hz4 : zC (n + 1 + 1 + 1 + 1) = 11) (hN4 : zN (n + 1 + 1 + 1 + 1) = 40) (ht6 : zT o 6 = n + 1 + 1 + 1 + 1) : zCi w t 1 yX4_init cX4_init 1 [.ref (zb w + o)] (zHp w n S σ) (zHp w (n + 1 + 1 + 1 + 1 + 1) (zsS (zsS (zsS (zsS (zsS S o 2) o 3) o 4) o 5) o 6) (zsI (zsI σ o 0 0) o 1 0)) 5 200 :=
  zCi_of (own := RX4) (lv := [some (.ref (zb w + o))]) (by decide +kernel) rfl (Nat.le_of_ble_eq_true rfl) rfl (fun x hr hRc hRs hnm => by
    refine zg_aload_n dX4_init_0 rfl ?_
    refine zg_objInit oi_X4 zoi_i zoi_c (by omega) (Nat.le_of_ble_eq_true rfl) dX4_init_1 ?_
    refine zg_aload_n dX4_init_4 rfl ?_
    refine zg_iconst dX4_init_5 zic_0 ?_
    refine zg_putI dX4_init_6 fl_X4_9 rfl ho (by omega) pf_4_0 rfl rfl ?_
    refine zg_aload_n dX4_init_9 rfl ?_
    refine zg_iconst dX4_init_10 zic_0 ?_
    refine zg_putI dX4_init_11 fl_X4_15 rfl ho (by omega) pf_4_1 rfl rfl ?_
    refine zg_aload_n dX4_init_14 rfl ?_
    refine zg_bipush dX4_init_15 zbi_40 ?_
    refine zg_newaI dX4_init_17 ac_int hz0 (by decide) (by rw [hN0]; rfl) (by omega) (by omega) (by omega) ?_
    refine zg_putT dX4_init_19 fl_X4_18 rfl ho (by omega) pf_4_2 hnm oc_4 rfl rfl ht2 ?_
    refine zg_aload_n dX4_init_22 rfl ?_
    refine zg_bipush dX4_init_23 zbi_40 ?_
    refine zg_newaI dX4_init_25 ac_int hz1 (by decide) (by rw [hN1]; rfl) (by omega) (by omega) (by omega) ?_
    refine zg_putT dX4_init_27 fl_X4_22 rfl ho (by omega) pf_4_3 hnm oc_4 rfl rfl ht3 ?_
    refine zg_aload_n dX4_init_30 rfl ?_
    refine zg_bipush dX4_init_31 zbi_40 ?_
    refine zg_newaI dX4_init_33 ac_int hz2 (by decide) (by rw [hN2]; rfl) (by omega) (by omega) (by omega) ?_
    refine zg_putT dX4_init_35 fl_X4_25 rfl ho (by omega) pf_4_4 hnm oc_4 rfl rfl ht4 ?_
    refine zg_aload_n dX4_init_38 rfl ?_
    refine zg_bipush dX4_init_39 zbi_40 ?_
    refine zg_newaI dX4_init_41 ac_int hz3 (by decide) (by rw [hN3]; rfl) (by omega) (by omega) (by omega) ?_
    refine zg_putT dX4_init_43 fl_X4_28 rfl ho (by omega) pf_4_5 hnm oc_4 rfl rfl ht5 ?_
    refine zg_aload_n dX4_init_46 rfl ?_
    refine zg_bipush dX4_init_47 zbi_40 ?_
    refine zg_newaI dX4_init_49 ac_int hz4 (by decide) (by rw [hN4]; rfl) (by omega) (by omega) (by omega) ?_
    refine zg_putT dX4_init_51 fl_X4_31 rfl ho (by omega) pf_4_6 hnm oc_4 rfl rfl ht6 ?_
    refine zg_widen (ce' := 5) (sl' := 200) (by omega) (by omega) ?_
    exact zg_vret hr dX4_init_54)
set_option maxRecDepth 100000 in
theorem ci_X1_init {w : zWC} {t : Nat × Nat} {o n : Nat} {S : Nat → Nat → Bool} {σ : zSt} (ho : zC o = 1) (hon : o < n) (hz0 : zC (n) = 12) (hN0 : zN (n) = 4) (ht0 : zT o 0 = n) (hz1 : zC (n + 1) = 12) (hN1 : zN (n + 1) = 20) (ht3 : zT o 3 = n + 1) (hz2 : zC (n + 1 + 1) = 11) (hN2 : zN (n + 1 + 1) = 5) (ht4 : zT o 4 = n + 1 + 1) : zCi w t 1 yX1_init cX1_init 1 [.ref (zb w + o)] (zHp w n S σ) (zHp w (n + 1 + 1 + 1) (zsS (zsS (zsS S o 0) o 3) o 4) (zsI (zsL σ o 1 0) o 2 0)) 3 29 :=
  zCi_of (own := RX1) (lv := [some (.ref (zb w + o))]) (by decide +kernel) rfl (Nat.le_of_ble_eq_true rfl) rfl (fun x hr hRc hRs hnm => by
    refine zg_aload_n dX1_init_0 rfl ?_
    refine zg_objInit oi_X1 zoi_i zoi_c (by omega) (Nat.le_of_ble_eq_true rfl) dX1_init_1 ?_
    refine zg_aload_n dX1_init_4 rfl ?_
    refine zg_iconst dX1_init_5 zic_4 ?_
    refine zg_newaJ dX1_init_6 ac_long hz0 (by decide) (by rw [hN0]; rfl) (by omega) (by omega) (by omega) ?_
    refine zg_putT dX1_init_8 fl_X1_11 rfl ho (by omega) pf_1_0 hnm oc_1 rfl rfl ht0 ?_
    refine zg_aload_n dX1_init_11 rfl ?_
    refine zg_lconst (v := 0) dX1_init_12 rfl ?_
    refine zg_putL dX1_init_13 fl_X1_15 rfl ho (by omega) pf_1_1 rfl rfl ?_
    refine zg_aload_n dX1_init_16 rfl ?_
    refine zg_iconst dX1_init_17 zic_0 ?_
    refine zg_putI dX1_init_18 fl_X1_19 rfl ho (by omega) pf_1_2 rfl rfl ?_
    refine zg_aload_n dX1_init_21 rfl ?_
    refine zg_bipush dX1_init_22 zbi_20 ?_
    refine zg_newaJ dX1_init_24 ac_long hz1 (by decide) (by rw [hN1]; rfl) (by omega) (by omega) (by omega) ?_
    refine zg_putT dX1_init_26 fl_X1_23 rfl ho (by omega) pf_1_3 hnm oc_1 rfl rfl ht3 ?_
    refine zg_aload_n dX1_init_29 rfl ?_
    refine zg_iconst dX1_init_30 zic_5 ?_
    refine zg_newaI dX1_init_31 ac_int hz2 (by decide) (by rw [hN2]; rfl) (by omega) (by omega) (by omega) ?_
    refine zg_putT dX1_init_33 fl_X1_26 rfl ho (by omega) pf_1_4 hnm oc_1 rfl rfl ht4 ?_
    refine zg_widen (ce' := 3) (sl' := 29) (by omega) (by omega) ?_
    exact zg_vret hr dX1_init_36)
