theorem pf_3_0 : ∀ C T N, vwCl[3]? = some (C, T, N) → (T 0).2.2.2 = true ∧ (T 0).1 = C ∧ parseFieldDescriptor (T 0).2.2.1 = some (.object "LeadBalls$Tape") := by
  intro C T N h
  have h : some (RX3, TX3, 12) = some (C, T, N) := h
  cases h
  exact ⟨rfl, by decide +kernel, by decide +kernel⟩
theorem pf_3_1 : ∀ C T N, vwCl[3]? = some (C, T, N) → (T 1).2.2.2 = true ∧ (T 1).1 = C ∧ parseFieldDescriptor (T 1).2.2.1 = some (.array .long) := by
  intro C T N h
  have h : some (RX3, TX3, 12) = some (C, T, N) := h
  cases h
  exact ⟨rfl, by decide +kernel, by decide +kernel⟩
theorem pf_3_10 : ∀ C T N, vwCl[3]? = some (C, T, N) → (T 10).2.2.2 = false ∧ (T 10).1 = C ∧ parseFieldDescriptor (T 10).2.2.1 = some (.int) := by
  intro C T N h
  have h : some (RX3, TX3, 12) = some (C, T, N) := h
  cases h
  exact ⟨rfl, by decide +kernel, by decide +kernel⟩
theorem pf_3_11 : ∀ C T N, vwCl[3]? = some (C, T, N) → (T 11).2.2.2 = false ∧ (T 11).1 = C ∧ parseFieldDescriptor (T 11).2.2.1 = some (.int) := by
  intro C T N h
  have h : some (RX3, TX3, 12) = some (C, T, N) := h
  cases h
  exact ⟨rfl, by decide +kernel, by decide +kernel⟩
theorem oc_3 : ∀ C T N, vwCl[3]? = some (C, T, N) → C = RX3 := by
  intro C T N h
  have h : some (RX3, TX3, 12) = some (C, T, N) := h
  cases h
  rfl
theorem oi_X3 : Cond.methodLink RX3 3 objectInit ∈ ztb := zmem 115 (by decide +kernel) rfl
theorem oi_X8 : Cond.methodLink RX8 1 objectInit ∈ ztb := zmem 90 (by decide +kernel) rfl
theorem nw_7 : ∀ k, k < 2 → (zF 7 k = 0 ∧ defaultValue (tyX7 k) = .int 0) ∨ (zF 7 k = 1 ∧ defaultValue (tyX7 k) = .long 0) ∨ (zF 7 k = 2 ∧ defaultValue (tyX7 k) = .null) ∨ (zF 7 k = 3 ∧ defaultValue (tyX7 k) = .null) := by decide +kernel
theorem ni_7 : Cond.instantiable RX7 2 ∈ ztb := zmem 94 (by decide +kernel) rfl
theorem ng_7 : Cond.initialized RX7 ∈ ztb := zmem 69 (by decide +kernel) rfl
theorem cl_X8_7 : Cond.classLink RX8 7 RX7 ∈ ztb := zmem 93 (by decide +kernel) rfl
theorem mi_X8_9 : zMIN RX8 9 "LeadBalls" yX7_init cX7_init 1 0 := ⟨by decide +kernel, zmem 96 (by decide +kernel) rfl, zmem 69 (by decide +kernel) rfl, zmem 97 (by decide +kernel) rfl, by decide +kernel, by decide, rfl⟩
theorem pf_8_0 : ∀ C T N, vwCl[8]? = some (C, T, N) → (T 0).2.2.2 = true ∧ (T 0).1 = C ∧ parseFieldDescriptor (T 0).2.2.1 = some (.object "LeadBalls$Tape") := by
  intro C T N h
  have h : some (RX8, TX8, 11) = some (C, T, N) := h
  cases h
  exact ⟨rfl, by decide +kernel, by decide +kernel⟩
theorem oc_8 : ∀ C T N, vwCl[8]? = some (C, T, N) → C = RX8 := by
  intro C T N h
  have h : some (RX8, TX8, 11) = some (C, T, N) := h
  cases h
  rfl
theorem nw_3 : ∀ k, k < 12 → (zF 3 k = 0 ∧ defaultValue (tyX3 k) = .int 0) ∨ (zF 3 k = 1 ∧ defaultValue (tyX3 k) = .long 0) ∨ (zF 3 k = 2 ∧ defaultValue (tyX3 k) = .null) ∨ (zF 3 k = 3 ∧ defaultValue (tyX3 k) = .null) := by decide +kernel
theorem ni_3 : Cond.instantiable RX3 12 ∈ ztb := zmem 111 (by decide +kernel) rfl
theorem ng_3 : Cond.initialized RX3 ∈ ztb := zmem 70 (by decide +kernel) rfl
theorem cl_X8_16 : Cond.classLink RX8 16 RX3 ∈ ztb := zmem 110 (by decide +kernel) rfl
theorem mi_X8_18 : zMI RX8 18 yX3_init cX3_init 6 1 := ⟨zmem 112 (by decide +kernel) rfl, zmem 113 (by decide +kernel) rfl, zmem 70 (by decide +kernel) rfl, zmem 114 (by decide +kernel) rfl, by decide +kernel, by decide, rfl⟩
theorem pf_8_1 : ∀ C T N, vwCl[8]? = some (C, T, N) → (T 1).2.2.2 = true ∧ (T 1).1 = C ∧ parseFieldDescriptor (T 1).2.2.1 = some (.object "LeadBalls$Reader") := by
  intro C T N h
  have h : some (RX8, TX8, 11) = some (C, T, N) := h
  cases h
  exact ⟨rfl, by decide +kernel, by decide +kernel⟩
theorem nw_5 : ∀ k, k < 4 → (zF 5 k = 0 ∧ defaultValue (tyX5 k) = .int 0) ∨ (zF 5 k = 1 ∧ defaultValue (tyX5 k) = .long 0) ∨ (zF 5 k = 2 ∧ defaultValue (tyX5 k) = .null) ∨ (zF 5 k = 3 ∧ defaultValue (tyX5 k) = .null) := by decide +kernel
theorem ni_5 : Cond.instantiable RX5 4 ∈ ztb := zmem 218 (by decide +kernel) rfl
theorem ng_5 : Cond.initialized RX5 ∈ ztb := zmem 75 (by decide +kernel) rfl
theorem cl_X8_25 : Cond.classLink RX8 25 RX5 ∈ ztb := zmem 217 (by decide +kernel) rfl
theorem mi_X8_27 : zMIN RX8 27 "LeadBalls" yX5_init cX5_init 1 0 := ⟨by decide +kernel, zmem 220 (by decide +kernel) rfl, zmem 75 (by decide +kernel) rfl, zmem 221 (by decide +kernel) rfl, by decide +kernel, by decide, rfl⟩
theorem pf_8_2 : ∀ C T N, vwCl[8]? = some (C, T, N) → (T 2).2.2.2 = false ∧ (T 2).1 = C ∧ parseFieldDescriptor (T 2).2.2.1 = some (.object "LeadBalls$Shed") := by
  intro C T N h
  have h : some (RX8, TX8, 11) = some (C, T, N) := h
  cases h
  exact ⟨rfl, by decide +kernel, by decide +kernel⟩
theorem pf_8_3 : ∀ C T N, vwCl[8]? = some (C, T, N) → (T 3).2.2.2 = false ∧ (T 3).1 = C ∧ parseFieldDescriptor (T 3).2.2.1 = some (.object "LeadBalls$Shed") := by
  intro C T N h
  have h : some (RX8, TX8, 11) = some (C, T, N) := h
  cases h
  exact ⟨rfl, by decide +kernel, by decide +kernel⟩
theorem nw_2 : ∀ k, k < 7 → (zF 2 k = 0 ∧ defaultValue (tyX2 k) = .int 0) ∨ (zF 2 k = 1 ∧ defaultValue (tyX2 k) = .long 0) ∨ (zF 2 k = 2 ∧ defaultValue (tyX2 k) = .null) ∨ (zF 2 k = 3 ∧ defaultValue (tyX2 k) = .null) := by decide +kernel
theorem ni_2 : Cond.instantiable RX2 7 ∈ ztb := zmem 282 (by decide +kernel) rfl
theorem ng_2 : Cond.initialized RX2 ∈ ztb := zmem 77 (by decide +kernel) rfl
theorem cl_X8_35 : Cond.classLink RX8 35 RX2 ∈ ztb := zmem 281 (by decide +kernel) rfl
theorem mi_X8_37 : zMIN RX8 37 "LeadBalls" yX2_init cX2_init 1 0 := ⟨by decide +kernel, zmem 284 (by decide +kernel) rfl, zmem 77 (by decide +kernel) rfl, zmem 285 (by decide +kernel) rfl, by decide +kernel, by decide, rfl⟩
theorem pf_8_4 : ∀ C T N, vwCl[8]? = some (C, T, N) → (T 4).2.2.2 = false ∧ (T 4).1 = C ∧ parseFieldDescriptor (T 4).2.2.1 = some (.object "LeadBalls$Houses") := by
  intro C T N h
  have h : some (RX8, TX8, 11) = some (C, T, N) := h
  cases h
  exact ⟨rfl, by decide +kernel, by decide +kernel⟩
theorem pf_8_5 : ∀ C T N, vwCl[8]? = some (C, T, N) → (T 5).2.2.2 = false ∧ (T 5).1 = C ∧ parseFieldDescriptor (T 5).2.2.1 = some (.object "LeadBalls$Houses") := by
  intro C T N h
  have h : some (RX8, TX8, 11) = some (C, T, N) := h
  cases h
  exact ⟨rfl, by decide +kernel, by decide +kernel⟩
theorem nw_6 : ∀ k, k < 12 → (zF 6 k = 0 ∧ defaultValue (tyX6 k) = .int 0) ∨ (zF 6 k = 1 ∧ defaultValue (tyX6 k) = .long 0) ∨ (zF 6 k = 2 ∧ defaultValue (tyX6 k) = .null) ∨ (zF 6 k = 3 ∧ defaultValue (tyX6 k) = .null) := by decide +kernel
theorem ni_6 : Cond.instantiable RX6 12 ∈ ztb := zmem 311 (by decide +kernel) rfl
theorem ng_6 : Cond.initialized RX6 ∈ ztb := zmem 78 (by decide +kernel) rfl
theorem cl_X8_45 : Cond.classLink RX8 45 RX6 ∈ ztb := zmem 310 (by decide +kernel) rfl
theorem mi_X8_47 : zMIN RX8 47 "LeadBalls" yX6_init cX6_init 1 0 := ⟨by decide +kernel, zmem 313 (by decide +kernel) rfl, zmem 78 (by decide +kernel) rfl, zmem 314 (by decide +kernel) rfl, by decide +kernel, by decide, rfl⟩
theorem pf_8_6 : ∀ C T N, vwCl[8]? = some (C, T, N) → (T 6).2.2.2 = false ∧ (T 6).1 = C ∧ parseFieldDescriptor (T 6).2.2.1 = some (.object "LeadBalls$Sum") := by
  intro C T N h
  have h : some (RX8, TX8, 11) = some (C, T, N) := h
  cases h
  exact ⟨rfl, by decide +kernel, by decide +kernel⟩
theorem pf_8_7 : ∀ C T N, vwCl[8]? = some (C, T, N) → (T 7).2.2.2 = false ∧ (T 7).1 = C ∧ parseFieldDescriptor (T 7).2.2.1 = some (.object "LeadBalls$Sum") := by
  intro C T N h
  have h : some (RX8, TX8, 11) = some (C, T, N) := h
  cases h
  exact ⟨rfl, by decide +kernel, by decide +kernel⟩
theorem nw_4 : ∀ k, k < 7 → (zF 4 k = 0 ∧ defaultValue (tyX4 k) = .int 0) ∨ (zF 4 k = 1 ∧ defaultValue (tyX4 k) = .long 0) ∨ (zF 4 k = 2 ∧ defaultValue (tyX4 k) = .null) ∨ (zF 4 k = 3 ∧ defaultValue (tyX4 k) = .null) := by decide +kernel
theorem ni_4 : Cond.instantiable RX4 7 ∈ ztb := zmem 358 (by decide +kernel) rfl
theorem ng_4 : Cond.initialized RX4 ∈ ztb := zmem 79 (by decide +kernel) rfl
theorem cl_X8_55 : Cond.classLink RX8 55 RX4 ∈ ztb := zmem 357 (by decide +kernel) rfl
theorem mi_X8_57 : zMIN RX8 57 "LeadBalls" yX4_init cX4_init 1 0 := ⟨by decide +kernel, zmem 360 (by decide +kernel) rfl, zmem 79 (by decide +kernel) rfl, zmem 361 (by decide +kernel) rfl, by decide +kernel, by decide, rfl⟩
theorem pf_8_8 : ∀ C T N, vwCl[8]? = some (C, T, N) → (T 8).2.2.2 = true ∧ (T 8).1 = C ∧ parseFieldDescriptor (T 8).2.2.1 = some (.object "LeadBalls$Readings") := by
  intro C T N h
  have h : some (RX8, TX8, 11) = some (C, T, N) := h
  cases h
  exact ⟨rfl, by decide +kernel, by decide +kernel⟩
theorem nw_1 : ∀ k, k < 5 → (zF 1 k = 0 ∧ defaultValue (tyX1 k) = .int 0) ∨ (zF 1 k = 1 ∧ defaultValue (tyX1 k) = .long 0) ∨ (zF 1 k = 2 ∧ defaultValue (tyX1 k) = .null) ∨ (zF 1 k = 3 ∧ defaultValue (tyX1 k) = .null) := by decide +kernel
theorem ni_1 : Cond.instantiable RX1 5 ∈ ztb := zmem 389 (by decide +kernel) rfl
theorem ng_1 : Cond.initialized RX1 ∈ ztb := zmem 80 (by decide +kernel) rfl
theorem cl_X8_62 : Cond.classLink RX8 62 RX1 ∈ ztb := zmem 388 (by decide +kernel) rfl
theorem mi_X8_64 : zMIN RX8 64 "LeadBalls" yX1_init cX1_init 1 0 := ⟨by decide +kernel, zmem 391 (by decide +kernel) rfl, zmem 80 (by decide +kernel) rfl, zmem 392 (by decide +kernel) rfl, by decide +kernel, by decide, rfl⟩
theorem pf_8_9 : ∀ C T N, vwCl[8]? = some (C, T, N) → (T 9).2.2.2 = true ∧ (T 9).1 = C ∧ parseFieldDescriptor (T 9).2.2.1 = some (.object "LeadBalls$Fit") := by
  intro C T N h
  have h : some (RX8, TX8, 11) = some (C, T, N) := h
  cases h
  exact ⟨rfl, by decide +kernel, by decide +kernel⟩
theorem pf_8_10 : ∀ C T N, vwCl[8]? = some (C, T, N) → (T 10).2.2.2 = true ∧ (T 10).1 = C ∧ parseFieldDescriptor (T 10).2.2.1 = some (.array .int) := by
  intro C T N h
  have h : some (RX8, TX8, 11) = some (C, T, N) := h
  cases h
  exact ⟨rfl, by decide +kernel, by decide +kernel⟩
theorem oi_X9 : Cond.methodLink RX9 1 objectInit ∈ ztb := zmem 866 (by decide +kernel) rfl
theorem pf_9_0 : ∀ C T N, vwCl[9]? = some (C, T, N) → (T 0).2.2.2 = true ∧ (T 0).1 = C ∧ parseFieldDescriptor (T 0).2.2.1 = some (.array .int) := by
  intro C T N h
  have h : some (RX9, TX9, 72) = some (C, T, N) := h
  cases h
  exact ⟨rfl, by decide +kernel, by decide +kernel⟩
theorem oc_9 : ∀ C T N, vwCl[9]? = some (C, T, N) → C = RX9 := by
  intro C T N h
  have h : some (RX9, TX9, 72) = some (C, T, N) := h
  cases h
  rfl
theorem pf_9_3 : ∀ C T N, vwCl[9]? = some (C, T, N) → (T 3).2.2.2 = false ∧ (T 3).1 = C ∧ parseFieldDescriptor (T 3).2.2.1 = some (.int) := by
  intro C T N h
  have h : some (RX9, TX9, 72) = some (C, T, N) := h
  cases h
  exact ⟨rfl, by decide +kernel, by decide +kernel⟩
theorem pf_9_11 : ∀ C T N, vwCl[9]? = some (C, T, N) → (T 11).2.2.2 = true ∧ (T 11).1 = C ∧ parseFieldDescriptor (T 11).2.2.1 = some (.array .int) := by
  intro C T N h
  have h : some (RX9, TX9, 72) = some (C, T, N) := h
  cases h
  exact ⟨rfl, by decide +kernel, by decide +kernel⟩
theorem pf_9_12 : ∀ C T N, vwCl[9]? = some (C, T, N) → (T 12).2.2.2 = true ∧ (T 12).1 = C ∧ parseFieldDescriptor (T 12).2.2.1 = some (.array .int) := by
  intro C T N h
  have h : some (RX9, TX9, 72) = some (C, T, N) := h
  cases h
  exact ⟨rfl, by decide +kernel, by decide +kernel⟩
theorem pf_9_13 : ∀ C T N, vwCl[9]? = some (C, T, N) → (T 13).2.2.2 = true ∧ (T 13).1 = C ∧ parseFieldDescriptor (T 13).2.2.1 = some (.array .int) := by
  intro C T N h
  have h : some (RX9, TX9, 72) = some (C, T, N) := h
  cases h
  exact ⟨rfl, by decide +kernel, by decide +kernel⟩
theorem pf_9_14 : ∀ C T N, vwCl[9]? = some (C, T, N) → (T 14).2.2.2 = true ∧ (T 14).1 = C ∧ parseFieldDescriptor (T 14).2.2.1 = some (.array .int) := by
  intro C T N h
  have h : some (RX9, TX9, 72) = some (C, T, N) := h
  cases h
  exact ⟨rfl, by decide +kernel, by decide +kernel⟩
theorem ac_boolean : Cond.arrayClass .boolean ∈ ztb := zmem 1091 (by decide +kernel) rfl
theorem pf_9_15 : ∀ C T N, vwCl[9]? = some (C, T, N) → (T 15).2.2.2 = true ∧ (T 15).1 = C ∧ parseFieldDescriptor (T 15).2.2.1 = some (.array .boolean) := by
  intro C T N h
  have h : some (RX9, TX9, 72) = some (C, T, N) := h
  cases h
  exact ⟨rfl, by decide +kernel, by decide +kernel⟩
theorem pf_9_16 : ∀ C T N, vwCl[9]? = some (C, T, N) → (T 16).2.2.2 = true ∧ (T 16).1 = C ∧ parseFieldDescriptor (T 16).2.2.1 = some (.array .long) := by
  intro C T N h
  have h : some (RX9, TX9, 72) = some (C, T, N) := h
  cases h
  exact ⟨rfl, by decide +kernel, by decide +kernel⟩
theorem pf_9_17 : ∀ C T N, vwCl[9]? = some (C, T, N) → (T 17).2.2.2 = true ∧ (T 17).1 = C ∧ parseFieldDescriptor (T 17).2.2.1 = some (.array .long) := by
  intro C T N h
  have h : some (RX9, TX9, 72) = some (C, T, N) := h
  cases h
  exact ⟨rfl, by decide +kernel, by decide +kernel⟩
theorem pf_9_25 : ∀ C T N, vwCl[9]? = some (C, T, N) → (T 25).2.2.2 = true ∧ (T 25).1 = C ∧ parseFieldDescriptor (T 25).2.2.1 = some (.array .int) := by
  intro C T N h
  have h : some (RX9, TX9, 72) = some (C, T, N) := h
  cases h
  exact ⟨rfl, by decide +kernel, by decide +kernel⟩
theorem pf_9_26 : ∀ C T N, vwCl[9]? = some (C, T, N) → (T 26).2.2.2 = true ∧ (T 26).1 = C ∧ parseFieldDescriptor (T 26).2.2.1 = some (.array .int) := by
  intro C T N h
  have h : some (RX9, TX9, 72) = some (C, T, N) := h
  cases h
  exact ⟨rfl, by decide +kernel, by decide +kernel⟩
theorem pf_9_27 : ∀ C T N, vwCl[9]? = some (C, T, N) → (T 27).2.2.2 = true ∧ (T 27).1 = C ∧ parseFieldDescriptor (T 27).2.2.1 = some (.array .int) := by
  intro C T N h
  have h : some (RX9, TX9, 72) = some (C, T, N) := h
  cases h
  exact ⟨rfl, by decide +kernel, by decide +kernel⟩
theorem pf_9_28 : ∀ C T N, vwCl[9]? = some (C, T, N) → (T 28).2.2.2 = true ∧ (T 28).1 = C ∧ parseFieldDescriptor (T 28).2.2.1 = some (.array .int) := by
  intro C T N h
  have h : some (RX9, TX9, 72) = some (C, T, N) := h
  cases h
  exact ⟨rfl, by decide +kernel, by decide +kernel⟩
theorem pf_9_29 : ∀ C T N, vwCl[9]? = some (C, T, N) → (T 29).2.2.2 = true ∧ (T 29).1 = C ∧ parseFieldDescriptor (T 29).2.2.1 = some (.array .int) := by
  intro C T N h
  have h : some (RX9, TX9, 72) = some (C, T, N) := h
  cases h
  exact ⟨rfl, by decide +kernel, by decide +kernel⟩
theorem pf_9_32 : ∀ C T N, vwCl[9]? = some (C, T, N) → (T 32).2.2.2 = true ∧ (T 32).1 = C ∧ parseFieldDescriptor (T 32).2.2.1 = some (.array .long) := by
  intro C T N h
  have h : some (RX9, TX9, 72) = some (C, T, N) := h
  cases h
  exact ⟨rfl, by decide +kernel, by decide +kernel⟩
theorem pf_9_33 : ∀ C T N, vwCl[9]? = some (C, T, N) → (T 33).2.2.2 = true ∧ (T 33).1 = C ∧ parseFieldDescriptor (T 33).2.2.1 = some (.array .long) := by
  intro C T N h
  have h : some (RX9, TX9, 72) = some (C, T, N) := h
  cases h
  exact ⟨rfl, by decide +kernel, by decide +kernel⟩
theorem pf_9_34 : ∀ C T N, vwCl[9]? = some (C, T, N) → (T 34).2.2.2 = true ∧ (T 34).1 = C ∧ parseFieldDescriptor (T 34).2.2.1 = some (.array .long) := by
  intro C T N h
  have h : some (RX9, TX9, 72) = some (C, T, N) := h
  cases h
  exact ⟨rfl, by decide +kernel, by decide +kernel⟩
theorem pf_9_35 : ∀ C T N, vwCl[9]? = some (C, T, N) → (T 35).2.2.2 = true ∧ (T 35).1 = C ∧ parseFieldDescriptor (T 35).2.2.1 = some (.array .long) := by
  intro C T N h
  have h : some (RX9, TX9, 72) = some (C, T, N) := h
  cases h
  exact ⟨rfl, by decide +kernel, by decide +kernel⟩
theorem pf_9_37 : ∀ C T N, vwCl[9]? = some (C, T, N) → (T 37).2.2.2 = true ∧ (T 37).1 = C ∧ parseFieldDescriptor (T 37).2.2.1 = some (.array .long) := by
  intro C T N h
  have h : some (RX9, TX9, 72) = some (C, T, N) := h
  cases h
  exact ⟨rfl, by decide +kernel, by decide +kernel⟩
theorem pf_9_38 : ∀ C T N, vwCl[9]? = some (C, T, N) → (T 38).2.2.2 = true ∧ (T 38).1 = C ∧ parseFieldDescriptor (T 38).2.2.1 = some (.array .long) := by
  intro C T N h
  have h : some (RX9, TX9, 72) = some (C, T, N) := h
  cases h
  exact ⟨rfl, by decide +kernel, by decide +kernel⟩
theorem pf_9_39 : ∀ C T N, vwCl[9]? = some (C, T, N) → (T 39).2.2.2 = true ∧ (T 39).1 = C ∧ parseFieldDescriptor (T 39).2.2.1 = some (.array .long) := by
  intro C T N h
  have h : some (RX9, TX9, 72) = some (C, T, N) := h
  cases h
  exact ⟨rfl, by decide +kernel, by decide +kernel⟩
theorem pf_9_40 : ∀ C T N, vwCl[9]? = some (C, T, N) → (T 40).2.2.2 = true ∧ (T 40).1 = C ∧ parseFieldDescriptor (T 40).2.2.1 = some (.array .long) := by
  intro C T N h
  have h : some (RX9, TX9, 72) = some (C, T, N) := h
  cases h
  exact ⟨rfl, by decide +kernel, by decide +kernel⟩
theorem pf_9_41 : ∀ C T N, vwCl[9]? = some (C, T, N) → (T 41).2.2.2 = true ∧ (T 41).1 = C ∧ parseFieldDescriptor (T 41).2.2.1 = some (.array .long) := by
  intro C T N h
  have h : some (RX9, TX9, 72) = some (C, T, N) := h
  cases h
  exact ⟨rfl, by decide +kernel, by decide +kernel⟩
theorem pf_9_42 : ∀ C T N, vwCl[9]? = some (C, T, N) → (T 42).2.2.2 = true ∧ (T 42).1 = C ∧ parseFieldDescriptor (T 42).2.2.1 = some (.array .long) := by
  intro C T N h
  have h : some (RX9, TX9, 72) = some (C, T, N) := h
  cases h
  exact ⟨rfl, by decide +kernel, by decide +kernel⟩
theorem pf_9_43 : ∀ C T N, vwCl[9]? = some (C, T, N) → (T 43).2.2.2 = true ∧ (T 43).1 = C ∧ parseFieldDescriptor (T 43).2.2.1 = some (.array .long) := by
  intro C T N h
  have h : some (RX9, TX9, 72) = some (C, T, N) := h
  cases h
  exact ⟨rfl, by decide +kernel, by decide +kernel⟩
theorem pf_9_44 : ∀ C T N, vwCl[9]? = some (C, T, N) → (T 44).2.2.2 = true ∧ (T 44).1 = C ∧ parseFieldDescriptor (T 44).2.2.1 = some (.array .int) := by
  intro C T N h
  have h : some (RX9, TX9, 72) = some (C, T, N) := h
  cases h
  exact ⟨rfl, by decide +kernel, by decide +kernel⟩
theorem pf_9_45 : ∀ C T N, vwCl[9]? = some (C, T, N) → (T 45).2.2.2 = true ∧ (T 45).1 = C ∧ parseFieldDescriptor (T 45).2.2.1 = some (.array .int) := by
  intro C T N h
  have h : some (RX9, TX9, 72) = some (C, T, N) := h
  cases h
  exact ⟨rfl, by decide +kernel, by decide +kernel⟩
theorem pf_9_46 : ∀ C T N, vwCl[9]? = some (C, T, N) → (T 46).2.2.2 = true ∧ (T 46).1 = C ∧ parseFieldDescriptor (T 46).2.2.1 = some (.array .int) := by
  intro C T N h
  have h : some (RX9, TX9, 72) = some (C, T, N) := h
  cases h
  exact ⟨rfl, by decide +kernel, by decide +kernel⟩
theorem pf_9_47 : ∀ C T N, vwCl[9]? = some (C, T, N) → (T 47).2.2.2 = true ∧ (T 47).1 = C ∧ parseFieldDescriptor (T 47).2.2.1 = some (.array .int) := by
  intro C T N h
  have h : some (RX9, TX9, 72) = some (C, T, N) := h
  cases h
  exact ⟨rfl, by decide +kernel, by decide +kernel⟩
theorem pf_9_50 : ∀ C T N, vwCl[9]? = some (C, T, N) → (T 50).2.2.2 = true ∧ (T 50).1 = C ∧ parseFieldDescriptor (T 50).2.2.1 = some (.array .long) := by
  intro C T N h
  have h : some (RX9, TX9, 72) = some (C, T, N) := h
  cases h
  exact ⟨rfl, by decide +kernel, by decide +kernel⟩
theorem zsi_300 : (Int16.ofInt (300)).toInt32 = 300 := by decide
theorem pf_9_51 : ∀ C T N, vwCl[9]? = some (C, T, N) → (T 51).2.2.2 = true ∧ (T 51).1 = C ∧ parseFieldDescriptor (T 51).2.2.1 = some (.array .int) := by
  intro C T N h
  have h : some (RX9, TX9, 72) = some (C, T, N) := h
  cases h
  exact ⟨rfl, by decide +kernel, by decide +kernel⟩
theorem pf_9_52 : ∀ C T N, vwCl[9]? = some (C, T, N) → (T 52).2.2.2 = true ∧ (T 52).1 = C ∧ parseFieldDescriptor (T 52).2.2.1 = some (.array .int) := by
  intro C T N h
  have h : some (RX9, TX9, 72) = some (C, T, N) := h
  cases h
  exact ⟨rfl, by decide +kernel, by decide +kernel⟩
theorem pf_9_53 : ∀ C T N, vwCl[9]? = some (C, T, N) → (T 53).2.2.2 = true ∧ (T 53).1 = C ∧ parseFieldDescriptor (T 53).2.2.1 = some (.array .int) := by
  intro C T N h
  have h : some (RX9, TX9, 72) = some (C, T, N) := h
  cases h
  exact ⟨rfl, by decide +kernel, by decide +kernel⟩
theorem pf_9_54 : ∀ C T N, vwCl[9]? = some (C, T, N) → (T 54).2.2.2 = true ∧ (T 54).1 = C ∧ parseFieldDescriptor (T 54).2.2.1 = some (.array .int) := by
  intro C T N h
  have h : some (RX9, TX9, 72) = some (C, T, N) := h
  cases h
  exact ⟨rfl, by decide +kernel, by decide +kernel⟩
theorem pf_9_55 : ∀ C T N, vwCl[9]? = some (C, T, N) → (T 55).2.2.2 = true ∧ (T 55).1 = C ∧ parseFieldDescriptor (T 55).2.2.1 = some (.array .int) := by
  intro C T N h
  have h : some (RX9, TX9, 72) = some (C, T, N) := h
  cases h
  exact ⟨rfl, by decide +kernel, by decide +kernel⟩
theorem pf_9_56 : ∀ C T N, vwCl[9]? = some (C, T, N) → (T 56).2.2.2 = true ∧ (T 56).1 = C ∧ parseFieldDescriptor (T 56).2.2.1 = some (.array .int) := by
  intro C T N h
  have h : some (RX9, TX9, 72) = some (C, T, N) := h
  cases h
  exact ⟨rfl, by decide +kernel, by decide +kernel⟩
theorem pf_9_57 : ∀ C T N, vwCl[9]? = some (C, T, N) → (T 57).2.2.2 = true ∧ (T 57).1 = C ∧ parseFieldDescriptor (T 57).2.2.1 = some (.array .int) := by
  intro C T N h
  have h : some (RX9, TX9, 72) = some (C, T, N) := h
  cases h
  exact ⟨rfl, by decide +kernel, by decide +kernel⟩
theorem pf_9_58 : ∀ C T N, vwCl[9]? = some (C, T, N) → (T 58).2.2.2 = true ∧ (T 58).1 = C ∧ parseFieldDescriptor (T 58).2.2.1 = some (.array .int) := by
  intro C T N h
  have h : some (RX9, TX9, 72) = some (C, T, N) := h
  cases h
  exact ⟨rfl, by decide +kernel, by decide +kernel⟩
theorem pf_9_59 : ∀ C T N, vwCl[9]? = some (C, T, N) → (T 59).2.2.2 = true ∧ (T 59).1 = C ∧ parseFieldDescriptor (T 59).2.2.1 = some (.array .int) := by
  intro C T N h
  have h : some (RX9, TX9, 72) = some (C, T, N) := h
  cases h
  exact ⟨rfl, by decide +kernel, by decide +kernel⟩
theorem zbi_70 : (Int8.ofInt (70)).toInt32 = 70 := by decide
theorem pf_9_60 : ∀ C T N, vwCl[9]? = some (C, T, N) → (T 60).2.2.2 = true ∧ (T 60).1 = C ∧ parseFieldDescriptor (T 60).2.2.1 = some (.array .int) := by
  intro C T N h
  have h : some (RX9, TX9, 72) = some (C, T, N) := h
  cases h
  exact ⟨rfl, by decide +kernel, by decide +kernel⟩
theorem pf_9_61 : ∀ C T N, vwCl[9]? = some (C, T, N) → (T 61).2.2.2 = true ∧ (T 61).1 = C ∧ parseFieldDescriptor (T 61).2.2.1 = some (.array .int) := by
  intro C T N h
  have h : some (RX9, TX9, 72) = some (C, T, N) := h
  cases h
  exact ⟨rfl, by decide +kernel, by decide +kernel⟩
theorem pf_9_69 : ∀ C T N, vwCl[9]? = some (C, T, N) → (T 69).2.2.2 = true ∧ (T 69).1 = C ∧ parseFieldDescriptor (T 69).2.2.1 = some (.array .boolean) := by
  intro C T N h
  have h : some (RX9, TX9, 72) = some (C, T, N) := h
  cases h
  exact ⟨rfl, by decide +kernel, by decide +kernel⟩
theorem pf_9_70 : ∀ C T N, vwCl[9]? = some (C, T, N) → (T 70).2.2.2 = true ∧ (T 70).1 = C ∧ parseFieldDescriptor (T 70).2.2.1 = some (.array .boolean) := by
  intro C T N h
  have h : some (RX9, TX9, 72) = some (C, T, N) := h
  cases h
  exact ⟨rfl, by decide +kernel, by decide +kernel⟩
theorem pf_9_71 : ∀ C T N, vwCl[9]? = some (C, T, N) → (T 71).2.2.2 = true ∧ (T 71).1 = C ∧ parseFieldDescriptor (T 71).2.2.1 = some (.array .int) := by
  intro C T N h
  have h : some (RX9, TX9, 72) = some (C, T, N) := h
  cases h
  exact ⟨rfl, by decide +kernel, by decide +kernel⟩
theorem ml_X9_145 : zMV RX9 145 RX9 yX9_plain cX9_plain 2 none 0 := ⟨zmem 867 (by decide +kernel) rfl, zmem 869 (by decide +kernel) rfl, zmem 20 (by decide +kernel) rfl, zmem 81 (by decide +kernel) rfl, zmem 870 (by decide +kernel) rfl, by decide +kernel, by decide⟩
def zwd (o : Nat) (σ : zSt) : Nat → Int64 × Nat × zSt
  | 0 => (0, 0, σ)
  | i + 1 => if zby i = 32 then (0, (zwd o σ i).2.1 + 1, zsL (zwd o σ i).2.2 o (zwd o σ i).2.1 (zwd o σ i).1) else ((zwd o σ i).1 * 27 + (zby i - 97 + 1).toInt64, (zwd o σ i).2.1, (zwd o σ i).2.2)
def zwc : Nat → Nat
  | 0 => 0
  | i + 1 => if zby i = 32 then zwc i + 1 else zwc i
theorem zwd_c (o : Nat) (σ : zSt) : ∀ i, (zwd o σ i).2.1 = zwc i
  | 0 => rfl
  | i + 1 => by
    unfold zwd zwc
    by_cases h : zby i = 32
    · rw [if_pos h, if_pos h, zwd_c o σ i]
    · rw [if_neg h, if_neg h, zwd_c o σ i]
theorem zwc_lt {i : Nat} (h : i < 106) : zwc i < 20 := of_decide_eq_true (List.all_eq_true.mp (show (List.range 106).all (fun i => decide (zwc i < 20)) = true by decide +kernel) i (List.mem_range.mpr h))
set_option maxRecDepth 100000 in
theorem zg_words {Q : State → Prop} {w : zWC} {t : Nat × Nat} {x : zCX} {lev ce sl : Nat} {o a1 n : Nat} {S : Nat → Nat → Bool} {σ : zSt} (ho : zC o = 3) (hon : o < n + 1) (hz : zC n = 12) (hN : zN n = 20) (hT : zT o 1 = n) (hS1 : S o 1 = true) (hlev : 4 ≤ lev) (hcc : ce ≤ (xR x).cells) (hcs : sl ≤ (xR x).slots)
    (hend : zG Q w t x RX3 cX3_init 6 lev (zHp w (n + 1) S (zwd n σ 106).2.2) ce sl 106 [some (.ref (zb w + o)), none, none, none, none, none] []) :
    ∀ (m i : Nat), m + i = 106 → zG Q w t x RX3 cX3_init 6 lev (zHp w (n + 1) S (zwd n σ i).2.2) ce sl 35 [some (.ref (zb w + o)), none, some (.long (zwd n σ i).1), none, some (.int (nI (zwd n σ i).2.1)), some (.int (nI i))] [] := by
  intro m
  induction m with
  | zero =>
    intro i hi
    obtain rfl : i = 106 := by omega
    refine zg_iload dX3_init_35 rfl ?_
    refine zg_ldcS dX3_init_37 rfl rfl ?_
    refine zg_callPV (As := []) (st := [.int (nI 106)]) ml_X3_28 cp_length (by omega) rfl rfl (Nat.le_of_ble_eq_true rfl) hcc hcs dX3_init_39 ?_
    refine zg_icmp_ge (tgt := 106) dX3_init_42 (by decide) (fun _ => ?_) (fun h => absurd (show (106 : Int32) ≤ nI 106 by decide) h)
    exact zg_weak [true, false, false, false, false, false] rfl hend
  | succ m ih =>
    intro i hi
    have hlt : i < 106 := by omega
    have hc : (zwd n σ i).2.1 < 20 := by rw [zwd_c]; exact zwc_lt hlt
    have hin : vp_in (nI i) 106 := vp_in_nI hlt (by omega)
    have hcl : (nI i).toNatClampNeg = i := nI_clamp (by omega)
    have hclc : (nI (zwd n σ i).2.1).toNatClampNeg = (zwd n σ i).2.1 := nI_clamp (by omega)
    refine zg_iload dX3_init_35 rfl ?_
    refine zg_ldcS dX3_init_37 rfl rfl ?_
    refine zg_callPV (As := []) (st := [.int (nI i)]) ml_X3_28 cp_length (by omega) rfl rfl (Nat.le_of_ble_eq_true rfl) hcc hcs dX3_init_39 ?_
    refine zg_icmp_ge (tgt := 106) dX3_init_42 (by decide) (fun h => absurd h (nI_ge (a := i) (b := 106) hlt (by omega))) (fun _ => ?_)
    refine zg_iload dX3_init_45 rfl ?_
    refine zg_bipush dX3_init_47 zbi_20 ?_
    refine zg_icmp_ge (tgt := 106) dX3_init_49 (by decide) (fun h => absurd h (nI_ge (a := (zwd n σ i).2.1) (b := 20) hc (by omega))) (fun _ => ?_)
    refine zg_ldcS dX3_init_52 rfl rfl ?_
    refine zg_iload dX3_init_54 rfl ?_
    refine zg_callPV (As := [.int (nI i)]) (st := []) ml_X3_34 (cp_charAt hin) (by omega) rfl rfl (Nat.le_of_ble_eq_true rfl) hcc hcs dX3_init_56 ?_
    refine zg_bipush dX3_init_59 zbi_32 ?_
    rw [hcl]
    refine zg_icmp_ne (tgt := 80) dX3_init_61 (by decide) (fun h => ?_) (fun h => ?_)
    · have e1 : zwd n σ (i + 1) = ((zwd n σ i).1 * 27 + (zby i - 97 + 1).toInt64, (zwd n σ i).2.1, (zwd n σ i).2.2) := by
        conv => lhs; unfold zwd
        rw [if_neg h]
      have IH := ih (i + 1) (by omega)
      rw [e1] at IH
      refine zg_lload_n dX3_init_80 rfl ?_
      refine zg_ldc2 dX3_init_81 kcL_X3_38 ?_
      refine zg_lmul dX3_init_84 ?_
      refine zg_ldcS dX3_init_85 rfl rfl ?_
      refine zg_iload dX3_init_87 rfl ?_
      refine zg_callPV (As := [.int (nI i)]) (st := [.long ((zwd n σ i).1 * 27)]) ml_X3_34 (cp_charAt hin) (by omega) rfl rfl (Nat.le_of_ble_eq_true rfl) hcc hcs dX3_init_89 ?_
      rw [hcl]
      refine zg_bipush dX3_init_92 zbi_97 ?_
      refine zg_isub dX3_init_94 ?_
      refine zg_iconst dX3_init_95 zic_1 ?_
      refine zg_iadd dX3_init_96 ?_
      refine zg_i2l dX3_init_97 ?_
      refine zg_ladd dX3_init_98 ?_
      refine zg_lstore_n (lv' := [some (.ref (zb w + o)), none, some (.long ((zwd n σ i).1 * 27 + (zby i - 97 + 1).toInt64)), none, some (.int (nI (zwd n σ i).2.1)), some (.int (nI i))]) dX3_init_99 rfl (by decide) rfl rfl ?_
      refine zg_iinc (v2 := nI (i + 1)) (lv' := [some (.ref (zb w + o)), none, some (.long ((zwd n σ i).1 * 27 + (zby i - 97 + 1).toInt64)), none, some (.int (nI (zwd n σ i).2.1)), some (.int (nI (i + 1)))]) dX3_init_100 rfl (by rw [zic_1]; exact (nI_succ i).symm) (by decide) rfl rfl ?_
      exact zg_goto (tgt := 35) dX3_init_103 (by decide) IH
    · have h : zby i = 32 := Decidable.not_not.mp h
      have e1 : zwd n σ (i + 1) = (0, (zwd n σ i).2.1 + 1, zsL (zwd n σ i).2.2 n (zwd n σ i).2.1 (zwd n σ i).1) := by
        conv => lhs; unfold zwd
        rw [if_pos h]
      have IH := ih (i + 1) (by omega)
      rw [e1] at IH
      refine zg_aload_n dX3_init_64 rfl ?_
      refine zg_getT dX3_init_65 fl_X3_15 rfl ho hon hS1 ?_
      rw [hT]
      refine zg_iload dX3_init_68 rfl ?_
      refine zg_lload_n dX3_init_70 rfl ?_
      refine zg_last dX3_init_71 hz (by omega) (by rw [hN]; exact vp_in_nI hc (by omega)) ?_
      rw [hclc]
      refine zg_iinc (v2 := nI ((zwd n σ i).2.1 + 1)) (lv' := [some (.ref (zb w + o)), none, some (.long (zwd n σ i).1), none, some (.int (nI ((zwd n σ i).2.1 + 1))), some (.int (nI i))]) dX3_init_72 rfl (by rw [zic_1]; exact (nI_succ _).symm) (by decide) rfl rfl ?_
      refine zg_lconst (v := 0) dX3_init_75 rfl ?_
      refine zg_lstore_n (lv' := [some (.ref (zb w + o)), none, some (.long 0), none, some (.int (nI ((zwd n σ i).2.1 + 1))), some (.int (nI i))]) dX3_init_76 rfl (by decide) rfl rfl ?_
      refine zg_goto (tgt := 100) dX3_init_77 (by decide) ?_
      refine zg_iinc (v2 := nI (i + 1)) (lv' := [some (.ref (zb w + o)), none, some (.long 0), none, some (.int (nI ((zwd n σ i).2.1 + 1))), some (.int (nI (i + 1)))]) dX3_init_100 rfl (by rw [zic_1]; exact (nI_succ i).symm) (by decide) rfl rfl ?_
      exact zg_goto (tgt := 35) dX3_init_103 (by decide) IH
set_option maxRecDepth 100000 in
theorem ci_X3_init {w : zWC} {t : Nat × Nat} {o n : Nat} {a1 : Nat} {S : Nat → Nat → Bool} {σ : zSt} (ho : zC o = 3) (hon : o < n) (hz0 : zC (n) = 12) (hN0 : zN (n) = 20) (ht0 : zT o 0 = a1) (ht1 : zT o 1 = n) : zCi w t 5 yX3_init cX3_init 6 [.ref (zb w + o), .ref (zb w + a1)] (zHp w n S σ) (zHp w (n + 1) (zsS (zsS S o 0) o 1) (zwd n (zsI (zsI σ o 10 0) o 11 (-1)) 106).2.2) 1 20 :=
  zCi_of (own := RX3) (lv := [some (.ref (zb w + o)), some (.ref (zb w + a1)), none, none, none, none]) (by decide +kernel) rfl (Nat.le_of_ble_eq_true rfl) rfl (fun x hr hRc hRs hnm => by
    refine zg_aload_n dX3_init_0 rfl ?_
    refine zg_objInit oi_X3 zoi_i zoi_c (by omega) (Nat.le_of_ble_eq_true rfl) dX3_init_1 ?_
    refine zg_aload_n dX3_init_4 rfl ?_
    refine zg_aload_n dX3_init_5 rfl ?_
    refine zg_putT dX3_init_6 fl_X3_9 rfl ho (by omega) pf_3_0 hnm oc_3 rfl rfl ht0 ?_
    refine zg_aload_n dX3_init_9 rfl ?_
    refine zg_bipush dX3_init_10 zbi_20 ?_
    refine zg_newaJ dX3_init_12 ac_long hz0 (by decide) (by rw [hN0]; rfl) (by omega) (by omega) (by omega) ?_
    refine zg_putT dX3_init_14 fl_X3_15 rfl ho (by omega) pf_3_1 hnm oc_3 rfl rfl ht1 ?_
    refine zg_aload_n dX3_init_17 rfl ?_
    refine zg_iconst dX3_init_18 zic_0 ?_
    refine zg_putI dX3_init_19 fl_X3_19 rfl ho (by omega) pf_3_10 rfl rfl ?_
    refine zg_aload_n dX3_init_22 rfl ?_
    refine zg_iconst dX3_init_23 zic_m1 ?_
    refine zg_putI dX3_init_24 fl_X3_23 rfl ho (by omega) pf_3_11 rfl rfl ?_
    refine zg_lconst (v := 0) dX3_init_27 rfl ?_
    refine zg_lstore_n (lv' := [some (.ref (zb w + o)), some (.ref (zb w + a1)), some (.long 0), none, none, none]) dX3_init_28 rfl (by decide) rfl rfl ?_
    refine zg_iconst dX3_init_29 zic_0 ?_
    refine zg_istore (lv' := [some (.ref (zb w + o)), some (.ref (zb w + a1)), some (.long 0), none, some (.int 0), none]) dX3_init_30 (by decide) rfl rfl ?_
    refine zg_iconst dX3_init_32 zic_0 ?_
    refine zg_istore (lv' := [some (.ref (zb w + o)), some (.ref (zb w + a1)), some (.long 0), none, some (.int 0), some (.int 0)]) dX3_init_33 (by decide) rfl rfl ?_
    refine zg_weak [true, false, true, true, true, true] rfl ?_
    refine zg_widen (ce' := 1) (sl' := 20) (by omega) (by omega) ?_
    exact zg_words (σ := zsI (zsI σ o 10 0) o 11 (-1)) (a1 := a1) ho (by omega) hz0 hN0 ht1 (by simp [zsS]) (by omega) (by omega) (by omega) (zg_vret hr dX3_init_106) 106 0 rfl)
set_option maxRecDepth 100000 in
theorem ci_X8_init {w : zWC} {t : Nat × Nat} {S : Nat → Nat → Bool} {σ : zSt} : zCi w t 6 yX8_init cX8_init 1 [.ref (zb w + 0)] (zHp w 1 S σ) (zHp w 64 (zsS (zsS (zsS (zsS (zsS (zsS (zsS (zsS (zsS (zsS (zsS (zsS (zsS (zsS (zsS (zsS (zsS (zsS (zsS (zsS (zsS (zsS (zsS (zsS (zsS (zsS (zsS (zsS (zsS (zsS (zsS (zsS (zsS (zsS (zsS (zsS (zsS (zsS (zsS (zsS (zsS (zsS (zsS (zsS (zsS (zsS (zsS (zsS (zsS (zsS (zsS (zsS (zsS (zsS (zsS (zsS (zsS (zsS (zsS (zsS (zsS (zsS (zsS (zsS S 1 0) 0 0) 3 0) 3 1) 0 1) (6) 2) (6) 3) (6) 4) (6) 5) 5 1) 5 2) 0 2) (13) 2) (13) 3) (13) 4) (13) 5) 12 1) 12 2) 0 3) 19 1) 19 2) 19 3) 19 4) 19 5) 19 6) 0 4) 26 1) 26 2) 26 3) 26 4) 26 5) 26 6) 0 5) 33 2) 33 3) 33 4) 33 5) 33 6) 33 7) 33 8) 33 9) 33 10) 0 6) 43 2) 43 3) 43 4) 43 5) 43 6) 43 7) 43 8) 43 9) 43 10) 0 7) 53 2) 53 3) 53 4) 53 5) 53 6) 0 8) 59 0) 59 3) 59 4) 0 9) 0 10) (zsI (zsL (zsI (zsI (zsR (zsI (zsI (zsI (zsR (zsI (zsI (zsI (zsR (zsI (zsR (zsI (zsR (zsI (zcpU (zsI (zsI (zsI (zsI (zsI (zsR (zsI (zcpU (zsI (zsI (zsI (zsI (zsI (zwd ((4)) (zsI (zsI (zsI σ 1 1 0) 3 10 0) 3 11 (-1)) 106).2.2 5 0 0) (6) 0 0) (6) 1 0) (6) 6 0) (6) 7 0) ((6) + 1 + 1 + 1 + 1 + 1)) 5 3 0) 0 2 5) 12 0 0) (13) 0 0) (13) 1 0) (13) 6 0) (13) 7 0) ((13) + 1 + 1 + 1 + 1 + 1)) 12 3 0) 0 3 12) 19 0 0) 0 4 19) 26 0 0) 0 5 26) 33 0 0) 33 1 0) 33 11 0) 0 6 33) 43 0 0) 43 1 0) 43 11 0) 0 7 43) 53 0 0) 53 1 0) 59 1 0) 59 2 0)) 63 2742 :=
  zCi_of (own := RX8) (lv := [some (.ref (zb w + 0))]) (by decide +kernel) rfl (Nat.le_of_ble_eq_true rfl) rfl (fun x hr hRc hRs hnm => by
    refine zg_aload_n dX8_init_0 rfl ?_
    refine zg_objInit oi_X8 zoi_i zoi_c (by decide) (Nat.le_of_ble_eq_true rfl) dX8_init_1 ?_
    refine zg_aload_n dX8_init_4 rfl ?_
    refine zg_new (n := 1) (C := RX7) (T := TX7) tyX7 dX8_init_5 rfl (by decide) zin_7 tyX7_ok cl_X8_7 ni_7 ng_7 rfl rfl nw_7 (by rw [hRc]; decide) (by rw [hRs]; decide) ?_
    refine zg_dup dX8_init_8 rfl ?_
    refine zg_callIN0 (As := []) (st := [.ref (zb w + 1), .ref (zb w + 0)]) mi_X8_9 (ci_X7_init (o := 1) (n := 2) (S := S) (σ := σ) rfl (by decide) rfl rfl rfl) (by decide) rfl rfl (Nat.le_of_ble_eq_true rfl) dX8_init_9 (by rw [hRc]; decide) (by rw [hRs]; decide) ?_
    refine zg_putT (o := 0) (n := 3) dX8_init_12 fl_X8_10 rfl rfl (by decide) pf_8_0 hnm oc_8 rfl rfl rfl ?_
    refine zg_aload_n dX8_init_15 rfl ?_
    refine zg_new (n := 3) (C := RX3) (T := TX3) tyX3 dX8_init_16 rfl (by decide) zin_3 tyX3_ok cl_X8_16 ni_3 ng_3 rfl rfl nw_3 (by rw [hRc]; decide) (by rw [hRs]; decide) ?_
    refine zg_dup dX8_init_19 rfl ?_
    refine zg_aload_n dX8_init_20 rfl ?_
    refine zg_getT (o := 0) (n := 4) dX8_init_21 fl_X8_10 rfl rfl (by decide) (by simp [zsS]) ?_
    refine zg_callI0 (As := [.ref (zb w + 1)]) (st := [.ref (zb w + 3), .ref (zb w + 0)]) mi_X8_18 (ci_X3_init (o := 3) (n := 4) (a1 := 1) (S := (zsS (zsS S 1 0) 0 0)) (σ := (zsI σ 1 1 0)) rfl (by decide) rfl rfl rfl rfl) (by decide) rfl rfl (Nat.le_of_ble_eq_true rfl) dX8_init_24 (by rw [hRc]; decide) (by rw [hRs]; decide) ?_
    refine zg_putT (o := 0) (n := 5) dX8_init_27 fl_X8_21 rfl rfl (by decide) pf_8_1 hnm oc_8 rfl rfl rfl ?_
    refine zg_aload_n dX8_init_30 rfl ?_
    refine zg_new (n := 5) (C := RX5) (T := TX5) tyX5 dX8_init_31 rfl (by decide) zin_5 tyX5_ok cl_X8_25 ni_5 ng_5 rfl rfl nw_5 (by rw [hRc]; decide) (by rw [hRs]; decide) ?_
    refine zg_dup dX8_init_34 rfl ?_
    refine zg_callIN0 (As := []) (st := [.ref (zb w + 5), .ref (zb w + 0)]) mi_X8_27 (ci_X5_init (o := 5) (n := 6) (S := (zsS (zsS (zsS (zsS (zsS S 1 0) 0 0) 3 0) 3 1) 0 1)) (σ := (zwd ((4)) (zsI (zsI (zsI σ 1 1 0) 3 10 0) 3 11 (-1)) 106).2.2) rfl (by decide) rfl rfl rfl rfl rfl rfl rfl rfl rfl rfl rfl rfl rfl rfl rfl rfl rfl rfl) (by decide) rfl rfl (Nat.le_of_ble_eq_true rfl) dX8_init_35 (by rw [hRc]; decide) (by rw [hRs]; decide) ?_
    refine zg_putR (v := 5) (o := 0) (n := 12) dX8_init_38 fl_X8_28 rfl rfl (by decide) pf_8_2 rfl rfl ?_
    refine zg_aload_n dX8_init_41 rfl ?_
    refine zg_new (n := 12) (C := RX5) (T := TX5) tyX5 dX8_init_42 rfl (by decide) zin_5 tyX5_ok cl_X8_25 ni_5 ng_5 rfl rfl nw_5 (by rw [hRc]; decide) (by rw [hRs]; decide) ?_
    refine zg_dup dX8_init_45 rfl ?_
    refine zg_callIN0 (As := []) (st := [.ref (zb w + 12), .ref (zb w + 0)]) mi_X8_27 (ci_X5_init (o := 12) (n := 13) (S := (zsS (zsS (zsS (zsS (zsS (zsS (zsS (zsS (zsS (zsS (zsS (zsS S 1 0) 0 0) 3 0) 3 1) 0 1) (6) 2) (6) 3) (6) 4) (6) 5) 5 1) 5 2) 0 2)) (σ := (zsR (zsI (zcpU (zsI (zsI (zsI (zsI (zsI (zwd ((4)) (zsI (zsI (zsI σ 1 1 0) 3 10 0) 3 11 (-1)) 106).2.2 5 0 0) (6) 0 0) (6) 1 0) (6) 6 0) (6) 7 0) ((6) + 1 + 1 + 1 + 1 + 1)) 5 3 0) 0 2 5)) rfl (by decide) rfl rfl rfl rfl rfl rfl rfl rfl rfl rfl rfl rfl rfl rfl rfl rfl rfl rfl) (by decide) rfl rfl (Nat.le_of_ble_eq_true rfl) dX8_init_46 (by rw [hRc]; decide) (by rw [hRs]; decide) ?_
    refine zg_putR (v := 12) (o := 0) (n := 19) dX8_init_49 fl_X8_32 rfl rfl (by decide) pf_8_3 rfl rfl ?_
    refine zg_aload_n dX8_init_52 rfl ?_
    refine zg_new (n := 19) (C := RX2) (T := TX2) tyX2 dX8_init_53 rfl (by decide) zin_2 tyX2_ok cl_X8_35 ni_2 ng_2 rfl rfl nw_2 (by rw [hRc]; decide) (by rw [hRs]; decide) ?_
    refine zg_dup dX8_init_56 rfl ?_
    refine zg_callIN0 (As := []) (st := [.ref (zb w + 19), .ref (zb w + 0)]) mi_X8_37 (ci_X2_init (o := 19) (n := 20) (S := (zsS (zsS (zsS (zsS (zsS (zsS (zsS (zsS (zsS (zsS (zsS (zsS (zsS (zsS (zsS (zsS (zsS (zsS (zsS S 1 0) 0 0) 3 0) 3 1) 0 1) (6) 2) (6) 3) (6) 4) (6) 5) 5 1) 5 2) 0 2) (13) 2) (13) 3) (13) 4) (13) 5) 12 1) 12 2) 0 3)) (σ := (zsR (zsI (zcpU (zsI (zsI (zsI (zsI (zsI (zsR (zsI (zcpU (zsI (zsI (zsI (zsI (zsI (zwd ((4)) (zsI (zsI (zsI σ 1 1 0) 3 10 0) 3 11 (-1)) 106).2.2 5 0 0) (6) 0 0) (6) 1 0) (6) 6 0) (6) 7 0) ((6) + 1 + 1 + 1 + 1 + 1)) 5 3 0) 0 2 5) 12 0 0) (13) 0 0) (13) 1 0) (13) 6 0) (13) 7 0) ((13) + 1 + 1 + 1 + 1 + 1)) 12 3 0) 0 3 12)) rfl (by decide) rfl rfl rfl rfl rfl rfl rfl rfl rfl rfl rfl rfl rfl rfl rfl rfl rfl rfl) (by decide) rfl rfl (Nat.le_of_ble_eq_true rfl) dX8_init_57 (by rw [hRc]; decide) (by rw [hRs]; decide) ?_
    refine zg_putR (v := 19) (o := 0) (n := 26) dX8_init_60 fl_X8_38 rfl rfl (by decide) pf_8_4 rfl rfl ?_
    refine zg_aload_n dX8_init_63 rfl ?_
    refine zg_new (n := 26) (C := RX2) (T := TX2) tyX2 dX8_init_64 rfl (by decide) zin_2 tyX2_ok cl_X8_35 ni_2 ng_2 rfl rfl nw_2 (by rw [hRc]; decide) (by rw [hRs]; decide) ?_
    refine zg_dup dX8_init_67 rfl ?_
    refine zg_callIN0 (As := []) (st := [.ref (zb w + 26), .ref (zb w + 0)]) mi_X8_37 (ci_X2_init (o := 26) (n := 27) (S := (zsS (zsS (zsS (zsS (zsS (zsS (zsS (zsS (zsS (zsS (zsS (zsS (zsS (zsS (zsS (zsS (zsS (zsS (zsS (zsS (zsS (zsS (zsS (zsS (zsS (zsS S 1 0) 0 0) 3 0) 3 1) 0 1) (6) 2) (6) 3) (6) 4) (6) 5) 5 1) 5 2) 0 2) (13) 2) (13) 3) (13) 4) (13) 5) 12 1) 12 2) 0 3) 19 1) 19 2) 19 3) 19 4) 19 5) 19 6) 0 4)) (σ := (zsR (zsI (zsR (zsI (zcpU (zsI (zsI (zsI (zsI (zsI (zsR (zsI (zcpU (zsI (zsI (zsI (zsI (zsI (zwd ((4)) (zsI (zsI (zsI σ 1 1 0) 3 10 0) 3 11 (-1)) 106).2.2 5 0 0) (6) 0 0) (6) 1 0) (6) 6 0) (6) 7 0) ((6) + 1 + 1 + 1 + 1 + 1)) 5 3 0) 0 2 5) 12 0 0) (13) 0 0) (13) 1 0) (13) 6 0) (13) 7 0) ((13) + 1 + 1 + 1 + 1 + 1)) 12 3 0) 0 3 12) 19 0 0) 0 4 19)) rfl (by decide) rfl rfl rfl rfl rfl rfl rfl rfl rfl rfl rfl rfl rfl rfl rfl rfl rfl rfl) (by decide) rfl rfl (Nat.le_of_ble_eq_true rfl) dX8_init_68 (by rw [hRc]; decide) (by rw [hRs]; decide) ?_
    refine zg_putR (v := 26) (o := 0) (n := 33) dX8_init_71 fl_X8_42 rfl rfl (by decide) pf_8_5 rfl rfl ?_
    refine zg_aload_n dX8_init_74 rfl ?_
    refine zg_new (n := 33) (C := RX6) (T := TX6) tyX6 dX8_init_75 rfl (by decide) zin_6 tyX6_ok cl_X8_45 ni_6 ng_6 rfl rfl nw_6 (by rw [hRc]; decide) (by rw [hRs]; decide) ?_
    refine zg_dup dX8_init_78 rfl ?_
    refine zg_callIN0 (As := []) (st := [.ref (zb w + 33), .ref (zb w + 0)]) mi_X8_47 (ci_X6_init (o := 33) (n := 34) (S := (zsS (zsS (zsS (zsS (zsS (zsS (zsS (zsS (zsS (zsS (zsS (zsS (zsS (zsS (zsS (zsS (zsS (zsS (zsS (zsS (zsS (zsS (zsS (zsS (zsS (zsS (zsS (zsS (zsS (zsS (zsS (zsS (zsS S 1 0) 0 0) 3 0) 3 1) 0 1) (6) 2) (6) 3) (6) 4) (6) 5) 5 1) 5 2) 0 2) (13) 2) (13) 3) (13) 4) (13) 5) 12 1) 12 2) 0 3) 19 1) 19 2) 19 3) 19 4) 19 5) 19 6) 0 4) 26 1) 26 2) 26 3) 26 4) 26 5) 26 6) 0 5)) (σ := (zsR (zsI (zsR (zsI (zsR (zsI (zcpU (zsI (zsI (zsI (zsI (zsI (zsR (zsI (zcpU (zsI (zsI (zsI (zsI (zsI (zwd ((4)) (zsI (zsI (zsI σ 1 1 0) 3 10 0) 3 11 (-1)) 106).2.2 5 0 0) (6) 0 0) (6) 1 0) (6) 6 0) (6) 7 0) ((6) + 1 + 1 + 1 + 1 + 1)) 5 3 0) 0 2 5) 12 0 0) (13) 0 0) (13) 1 0) (13) 6 0) (13) 7 0) ((13) + 1 + 1 + 1 + 1 + 1)) 12 3 0) 0 3 12) 19 0 0) 0 4 19) 26 0 0) 0 5 26)) rfl (by decide) rfl rfl rfl rfl rfl rfl rfl rfl rfl rfl rfl rfl rfl rfl rfl rfl rfl rfl rfl rfl rfl rfl rfl rfl rfl rfl rfl) (by decide) rfl rfl (Nat.le_of_ble_eq_true rfl) dX8_init_79 (by rw [hRc]; decide) (by rw [hRs]; decide) ?_
    refine zg_putR (v := 33) (o := 0) (n := 43) dX8_init_82 fl_X8_48 rfl rfl (by decide) pf_8_6 rfl rfl ?_
    refine zg_aload_n dX8_init_85 rfl ?_
    refine zg_new (n := 43) (C := RX6) (T := TX6) tyX6 dX8_init_86 rfl (by decide) zin_6 tyX6_ok cl_X8_45 ni_6 ng_6 rfl rfl nw_6 (by rw [hRc]; decide) (by rw [hRs]; decide) ?_
    refine zg_dup dX8_init_89 rfl ?_
    refine zg_callIN0 (As := []) (st := [.ref (zb w + 43), .ref (zb w + 0)]) mi_X8_47 (ci_X6_init (o := 43) (n := 44) (S := (zsS (zsS (zsS (zsS (zsS (zsS (zsS (zsS (zsS (zsS (zsS (zsS (zsS (zsS (zsS (zsS (zsS (zsS (zsS (zsS (zsS (zsS (zsS (zsS (zsS (zsS (zsS (zsS (zsS (zsS (zsS (zsS (zsS (zsS (zsS (zsS (zsS (zsS (zsS (zsS (zsS (zsS (zsS S 1 0) 0 0) 3 0) 3 1) 0 1) (6) 2) (6) 3) (6) 4) (6) 5) 5 1) 5 2) 0 2) (13) 2) (13) 3) (13) 4) (13) 5) 12 1) 12 2) 0 3) 19 1) 19 2) 19 3) 19 4) 19 5) 19 6) 0 4) 26 1) 26 2) 26 3) 26 4) 26 5) 26 6) 0 5) 33 2) 33 3) 33 4) 33 5) 33 6) 33 7) 33 8) 33 9) 33 10) 0 6)) (σ := (zsR (zsI (zsI (zsI (zsR (zsI (zsR (zsI (zsR (zsI (zcpU (zsI (zsI (zsI (zsI (zsI (zsR (zsI (zcpU (zsI (zsI (zsI (zsI (zsI (zwd ((4)) (zsI (zsI (zsI σ 1 1 0) 3 10 0) 3 11 (-1)) 106).2.2 5 0 0) (6) 0 0) (6) 1 0) (6) 6 0) (6) 7 0) ((6) + 1 + 1 + 1 + 1 + 1)) 5 3 0) 0 2 5) 12 0 0) (13) 0 0) (13) 1 0) (13) 6 0) (13) 7 0) ((13) + 1 + 1 + 1 + 1 + 1)) 12 3 0) 0 3 12) 19 0 0) 0 4 19) 26 0 0) 0 5 26) 33 0 0) 33 1 0) 33 11 0) 0 6 33)) rfl (by decide) rfl rfl rfl rfl rfl rfl rfl rfl rfl rfl rfl rfl rfl rfl rfl rfl rfl rfl rfl rfl rfl rfl rfl rfl rfl rfl rfl) (by decide) rfl rfl (Nat.le_of_ble_eq_true rfl) dX8_init_90 (by rw [hRc]; decide) (by rw [hRs]; decide) ?_
    refine zg_putR (v := 43) (o := 0) (n := 53) dX8_init_93 fl_X8_52 rfl rfl (by decide) pf_8_7 rfl rfl ?_
    refine zg_aload_n dX8_init_96 rfl ?_
    refine zg_new (n := 53) (C := RX4) (T := TX4) tyX4 dX8_init_97 rfl (by decide) zin_4 tyX4_ok cl_X8_55 ni_4 ng_4 rfl rfl nw_4 (by rw [hRc]; decide) (by rw [hRs]; decide) ?_
    refine zg_dup dX8_init_100 rfl ?_
    refine zg_callIN0 (As := []) (st := [.ref (zb w + 53), .ref (zb w + 0)]) mi_X8_57 (ci_X4_init (o := 53) (n := 54) (S := (zsS (zsS (zsS (zsS (zsS (zsS (zsS (zsS (zsS (zsS (zsS (zsS (zsS (zsS (zsS (zsS (zsS (zsS (zsS (zsS (zsS (zsS (zsS (zsS (zsS (zsS (zsS (zsS (zsS (zsS (zsS (zsS (zsS (zsS (zsS (zsS (zsS (zsS (zsS (zsS (zsS (zsS (zsS (zsS (zsS (zsS (zsS (zsS (zsS (zsS (zsS (zsS (zsS S 1 0) 0 0) 3 0) 3 1) 0 1) (6) 2) (6) 3) (6) 4) (6) 5) 5 1) 5 2) 0 2) (13) 2) (13) 3) (13) 4) (13) 5) 12 1) 12 2) 0 3) 19 1) 19 2) 19 3) 19 4) 19 5) 19 6) 0 4) 26 1) 26 2) 26 3) 26 4) 26 5) 26 6) 0 5) 33 2) 33 3) 33 4) 33 5) 33 6) 33 7) 33 8) 33 9) 33 10) 0 6) 43 2) 43 3) 43 4) 43 5) 43 6) 43 7) 43 8) 43 9) 43 10) 0 7)) (σ := (zsR (zsI (zsI (zsI (zsR (zsI (zsI (zsI (zsR (zsI (zsR (zsI (zsR (zsI (zcpU (zsI (zsI (zsI (zsI (zsI (zsR (zsI (zcpU (zsI (zsI (zsI (zsI (zsI (zwd ((4)) (zsI (zsI (zsI σ 1 1 0) 3 10 0) 3 11 (-1)) 106).2.2 5 0 0) (6) 0 0) (6) 1 0) (6) 6 0) (6) 7 0) ((6) + 1 + 1 + 1 + 1 + 1)) 5 3 0) 0 2 5) 12 0 0) (13) 0 0) (13) 1 0) (13) 6 0) (13) 7 0) ((13) + 1 + 1 + 1 + 1 + 1)) 12 3 0) 0 3 12) 19 0 0) 0 4 19) 26 0 0) 0 5 26) 33 0 0) 33 1 0) 33 11 0) 0 6 33) 43 0 0) 43 1 0) 43 11 0) 0 7 43)) rfl (by decide) rfl rfl rfl rfl rfl rfl rfl rfl rfl rfl rfl rfl rfl rfl rfl) (by decide) rfl rfl (Nat.le_of_ble_eq_true rfl) dX8_init_101 (by rw [hRc]; decide) (by rw [hRs]; decide) ?_
    refine zg_putT (o := 0) (n := 59) dX8_init_104 fl_X8_58 rfl rfl (by decide) pf_8_8 hnm oc_8 rfl rfl rfl ?_
    refine zg_aload_n dX8_init_107 rfl ?_
    refine zg_new (n := 59) (C := RX1) (T := TX1) tyX1 dX8_init_108 rfl (by decide) zin_1 tyX1_ok cl_X8_62 ni_1 ng_1 rfl rfl nw_1 (by rw [hRc]; decide) (by rw [hRs]; decide) ?_
    refine zg_dup dX8_init_111 rfl ?_
    refine zg_callIN0 (As := []) (st := [.ref (zb w + 59), .ref (zb w + 0)]) mi_X8_64 (ci_X1_init (o := 59) (n := 60) (S := (zsS (zsS (zsS (zsS (zsS (zsS (zsS (zsS (zsS (zsS (zsS (zsS (zsS (zsS (zsS (zsS (zsS (zsS (zsS (zsS (zsS (zsS (zsS (zsS (zsS (zsS (zsS (zsS (zsS (zsS (zsS (zsS (zsS (zsS (zsS (zsS (zsS (zsS (zsS (zsS (zsS (zsS (zsS (zsS (zsS (zsS (zsS (zsS (zsS (zsS (zsS (zsS (zsS (zsS (zsS (zsS (zsS (zsS (zsS S 1 0) 0 0) 3 0) 3 1) 0 1) (6) 2) (6) 3) (6) 4) (6) 5) 5 1) 5 2) 0 2) (13) 2) (13) 3) (13) 4) (13) 5) 12 1) 12 2) 0 3) 19 1) 19 2) 19 3) 19 4) 19 5) 19 6) 0 4) 26 1) 26 2) 26 3) 26 4) 26 5) 26 6) 0 5) 33 2) 33 3) 33 4) 33 5) 33 6) 33 7) 33 8) 33 9) 33 10) 0 6) 43 2) 43 3) 43 4) 43 5) 43 6) 43 7) 43 8) 43 9) 43 10) 0 7) 53 2) 53 3) 53 4) 53 5) 53 6) 0 8)) (σ := (zsI (zsI (zsR (zsI (zsI (zsI (zsR (zsI (zsI (zsI (zsR (zsI (zsR (zsI (zsR (zsI (zcpU (zsI (zsI (zsI (zsI (zsI (zsR (zsI (zcpU (zsI (zsI (zsI (zsI (zsI (zwd ((4)) (zsI (zsI (zsI σ 1 1 0) 3 10 0) 3 11 (-1)) 106).2.2 5 0 0) (6) 0 0) (6) 1 0) (6) 6 0) (6) 7 0) ((6) + 1 + 1 + 1 + 1 + 1)) 5 3 0) 0 2 5) 12 0 0) (13) 0 0) (13) 1 0) (13) 6 0) (13) 7 0) ((13) + 1 + 1 + 1 + 1 + 1)) 12 3 0) 0 3 12) 19 0 0) 0 4 19) 26 0 0) 0 5 26) 33 0 0) 33 1 0) 33 11 0) 0 6 33) 43 0 0) 43 1 0) 43 11 0) 0 7 43) 53 0 0) 53 1 0)) rfl (by decide) rfl rfl rfl rfl rfl rfl rfl rfl rfl) (by decide) rfl rfl (Nat.le_of_ble_eq_true rfl) dX8_init_112 (by rw [hRc]; decide) (by rw [hRs]; decide) ?_
    refine zg_putT (o := 0) (n := 63) dX8_init_115 fl_X8_65 rfl rfl (by decide) pf_8_9 hnm oc_8 rfl rfl rfl ?_
    refine zg_aload_n dX8_init_118 rfl ?_
    refine zg_bipush dX8_init_119 zbi_13 ?_
    refine zg_newaI (n := 63) dX8_init_121 ac_int rfl (by decide) rfl (by decide) (by rw [hRc]; decide) (by rw [hRs]; decide) ?_
    refine zg_putT (o := 0) (n := 64) dX8_init_123 fl_X8_69 rfl rfl (by decide) pf_8_10 hnm oc_8 rfl rfl rfl ?_
    refine zg_widen (ce' := 63) (sl' := 2742) (by decide) (by decide) ?_
    exact zg_vret hr dX8_init_126)
set_option maxRecDepth 100000 in
theorem ci_X9_init {w : zWC} {t : Nat × Nat} {S : Nat → Nat → Bool} {σ σ1 : zSt} (hfull : (List.range 108).all (fun o' => (List.range 72).all (fun k => (zF (zC o') k != 2 && zF (zC o') k != 3) || ((zsS (zsS (zsS (zsS (zsS (zsS (zsS (zsS (zsS (zsS (zsS (zsS (zsS (zsS (zsS (zsS (zsS (zsS (zsS (zsS (zsS (zsS (zsS (zsS (zsS (zsS (zsS (zsS (zsS (zsS (zsS (zsS (zsS (zsS (zsS (zsS (zsS (zsS (zsS (zsS (zsS (zsS (zsS S 64 0) 64 11) 64 12) 64 13) 64 14) 64 15) 64 16) 64 17) 64 25) 64 26) 64 27) 64 28) 64 29) 64 32) 64 33) 64 34) 64 35) 64 37) 64 38) 64 39) 64 40) 64 41) 64 42) 64 43) 64 44) 64 45) 64 46) 64 47) 64 50) 64 51) 64 52) 64 53) 64 54) 64 55) 64 56) 64 57) 64 58) 64 59) 64 60) 64 61) 64 69) 64 70) 64 71)) o' k)) = true) (hpl : m_X9_plain 64 (zsI σ 64 3 (-1)) = some σ1) : zCi w t 2 yX9_init cX9_init 1 [.ref (zb w + 64)] (zHp w 65 S σ) (fun H => va_P (zD w) vwCl (zW w σ1) H) 43 3035 :=
  zCi_of (own := RX9) (lv := [some (.ref (zb w + 64))]) (by decide +kernel) rfl (Nat.le_of_ble_eq_true rfl) rfl (fun x hr hRc hRs hnm => by
    refine zg_aload_n dX9_init_0 rfl ?_
    refine zg_objInit oi_X9 zoi_i zoi_c (by decide) (Nat.le_of_ble_eq_true rfl) dX9_init_1 ?_
    refine zg_aload_n dX9_init_4 rfl ?_
    refine zg_sipush dX9_init_5 zsi_800 ?_
    refine zg_newaI (n := 65) dX9_init_8 ac_int rfl (by decide) rfl (by decide) (by rw [hRc]; decide) (by rw [hRs]; decide) ?_
    refine zg_putT (o := 64) (n := 66) dX9_init_10 fl_X9_7 rfl rfl (by decide) pf_9_0 hnm oc_9 rfl rfl rfl ?_
    refine zg_aload_n dX9_init_13 rfl ?_
    refine zg_iconst dX9_init_14 zic_m1 ?_
    refine zg_putI (o := 64) (n := 66) dX9_init_15 fl_X9_13 rfl rfl (by decide) pf_9_3 rfl rfl ?_
    refine zg_aload_n dX9_init_18 rfl ?_
    refine zg_bipush dX9_init_19 zbi_11 ?_
    refine zg_newaI (n := 66) dX9_init_21 ac_int rfl (by decide) rfl (by decide) (by rw [hRc]; decide) (by rw [hRs]; decide) ?_
    refine zg_putT (o := 64) (n := 67) dX9_init_23 fl_X9_17 rfl rfl (by decide) pf_9_11 hnm oc_9 rfl rfl rfl ?_
    refine zg_aload_n dX9_init_26 rfl ?_
    refine zg_bipush dX9_init_27 zbi_11 ?_
    refine zg_newaI (n := 67) dX9_init_29 ac_int rfl (by decide) rfl (by decide) (by rw [hRc]; decide) (by rw [hRs]; decide) ?_
    refine zg_putT (o := 64) (n := 68) dX9_init_31 fl_X9_20 rfl rfl (by decide) pf_9_12 hnm oc_9 rfl rfl rfl ?_
    refine zg_aload_n dX9_init_34 rfl ?_
    refine zg_bipush dX9_init_35 zbi_8 ?_
    refine zg_newaI (n := 68) dX9_init_37 ac_int rfl (by decide) rfl (by decide) (by rw [hRc]; decide) (by rw [hRs]; decide) ?_
    refine zg_putT (o := 64) (n := 69) dX9_init_39 fl_X9_23 rfl rfl (by decide) pf_9_13 hnm oc_9 rfl rfl rfl ?_
    refine zg_aload_n dX9_init_42 rfl ?_
    refine zg_bipush dX9_init_43 zbi_8 ?_
    refine zg_newaI (n := 69) dX9_init_45 ac_int rfl (by decide) rfl (by decide) (by rw [hRc]; decide) (by rw [hRs]; decide) ?_
    refine zg_putT (o := 64) (n := 70) dX9_init_47 fl_X9_26 rfl rfl (by decide) pf_9_14 hnm oc_9 rfl rfl rfl ?_
    refine zg_aload_n dX9_init_50 rfl ?_
    refine zg_bipush dX9_init_51 zbi_11 ?_
    refine zg_newaZ (n := 70) dX9_init_53 ac_boolean rfl (by decide) rfl (by decide) (by rw [hRc]; decide) (by rw [hRs]; decide) ?_
    refine zg_putT (o := 64) (n := 71) dX9_init_55 fl_X9_29 rfl rfl (by decide) pf_9_15 hnm oc_9 rfl rfl rfl ?_
    refine zg_aload_n dX9_init_58 rfl ?_
    refine zg_bipush dX9_init_59 zbi_8 ?_
    refine zg_newaJ (n := 71) dX9_init_61 ac_long rfl (by decide) rfl (by decide) (by rw [hRc]; decide) (by rw [hRs]; decide) ?_
    refine zg_putT (o := 64) (n := 72) dX9_init_63 fl_X9_33 rfl rfl (by decide) pf_9_16 hnm oc_9 rfl rfl rfl ?_
    refine zg_aload_n dX9_init_66 rfl ?_
    refine zg_bipush dX9_init_67 zbi_8 ?_
    refine zg_newaJ (n := 72) dX9_init_69 ac_long rfl (by decide) rfl (by decide) (by rw [hRc]; decide) (by rw [hRs]; decide) ?_
    refine zg_putT (o := 64) (n := 73) dX9_init_71 fl_X9_37 rfl rfl (by decide) pf_9_17 hnm oc_9 rfl rfl rfl ?_
    refine zg_aload_n dX9_init_74 rfl ?_
    refine zg_bipush dX9_init_75 zbi_40 ?_
    refine zg_newaI (n := 73) dX9_init_77 ac_int rfl (by decide) rfl (by decide) (by rw [hRc]; decide) (by rw [hRs]; decide) ?_
    refine zg_putT (o := 64) (n := 74) dX9_init_79 fl_X9_40 rfl rfl (by decide) pf_9_25 hnm oc_9 rfl rfl rfl ?_
    refine zg_aload_n dX9_init_82 rfl ?_
    refine zg_bipush dX9_init_83 zbi_40 ?_
    refine zg_newaI (n := 74) dX9_init_85 ac_int rfl (by decide) rfl (by decide) (by rw [hRc]; decide) (by rw [hRs]; decide) ?_
    refine zg_putT (o := 64) (n := 75) dX9_init_87 fl_X9_43 rfl rfl (by decide) pf_9_26 hnm oc_9 rfl rfl rfl ?_
    refine zg_aload_n dX9_init_90 rfl ?_
    refine zg_bipush dX9_init_91 zbi_40 ?_
    refine zg_newaI (n := 75) dX9_init_93 ac_int rfl (by decide) rfl (by decide) (by rw [hRc]; decide) (by rw [hRs]; decide) ?_
    refine zg_putT (o := 64) (n := 76) dX9_init_95 fl_X9_46 rfl rfl (by decide) pf_9_27 hnm oc_9 rfl rfl rfl ?_
    refine zg_aload_n dX9_init_98 rfl ?_
    refine zg_bipush dX9_init_99 zbi_40 ?_
    refine zg_newaI (n := 76) dX9_init_101 ac_int rfl (by decide) rfl (by decide) (by rw [hRc]; decide) (by rw [hRs]; decide) ?_
    refine zg_putT (o := 64) (n := 77) dX9_init_103 fl_X9_49 rfl rfl (by decide) pf_9_28 hnm oc_9 rfl rfl rfl ?_
    refine zg_aload_n dX9_init_106 rfl ?_
    refine zg_bipush dX9_init_107 zbi_40 ?_
    refine zg_newaI (n := 77) dX9_init_109 ac_int rfl (by decide) rfl (by decide) (by rw [hRc]; decide) (by rw [hRs]; decide) ?_
    refine zg_putT (o := 64) (n := 78) dX9_init_111 fl_X9_52 rfl rfl (by decide) pf_9_29 hnm oc_9 rfl rfl rfl ?_
    refine zg_aload_n dX9_init_114 rfl ?_
    refine zg_bipush dX9_init_115 zbi_16 ?_
    refine zg_newaJ (n := 78) dX9_init_117 ac_long rfl (by decide) rfl (by decide) (by rw [hRc]; decide) (by rw [hRs]; decide) ?_
    refine zg_putT (o := 64) (n := 79) dX9_init_119 fl_X9_55 rfl rfl (by decide) pf_9_32 hnm oc_9 rfl rfl rfl ?_
    refine zg_aload_n dX9_init_122 rfl ?_
    refine zg_iconst dX9_init_123 zic_4 ?_
    refine zg_newaJ (n := 79) dX9_init_124 ac_long rfl (by decide) rfl (by decide) (by rw [hRc]; decide) (by rw [hRs]; decide) ?_
    refine zg_putT (o := 64) (n := 80) dX9_init_126 fl_X9_58 rfl rfl (by decide) pf_9_33 hnm oc_9 rfl rfl rfl ?_
    refine zg_aload_n dX9_init_129 rfl ?_
    refine zg_bipush dX9_init_130 zbi_16 ?_
    refine zg_newaJ (n := 80) dX9_init_132 ac_long rfl (by decide) rfl (by decide) (by rw [hRc]; decide) (by rw [hRs]; decide) ?_
    refine zg_putT (o := 64) (n := 81) dX9_init_134 fl_X9_61 rfl rfl (by decide) pf_9_34 hnm oc_9 rfl rfl rfl ?_
    refine zg_aload_n dX9_init_137 rfl ?_
    refine zg_iconst dX9_init_138 zic_4 ?_
    refine zg_newaJ (n := 81) dX9_init_139 ac_long rfl (by decide) rfl (by decide) (by rw [hRc]; decide) (by rw [hRs]; decide) ?_
    refine zg_putT (o := 64) (n := 82) dX9_init_141 fl_X9_64 rfl rfl (by decide) pf_9_35 hnm oc_9 rfl rfl rfl ?_
    refine zg_aload_n dX9_init_144 rfl ?_
    refine zg_iconst dX9_init_145 zic_3 ?_
    refine zg_newaJ (n := 82) dX9_init_146 ac_long rfl (by decide) rfl (by decide) (by rw [hRc]; decide) (by rw [hRs]; decide) ?_
    refine zg_putT (o := 64) (n := 83) dX9_init_148 fl_X9_67 rfl rfl (by decide) pf_9_37 hnm oc_9 rfl rfl rfl ?_
    refine zg_aload_n dX9_init_151 rfl ?_
    refine zg_iconst dX9_init_152 zic_3 ?_
    refine zg_newaJ (n := 83) dX9_init_153 ac_long rfl (by decide) rfl (by decide) (by rw [hRc]; decide) (by rw [hRs]; decide) ?_
    refine zg_putT (o := 64) (n := 84) dX9_init_155 fl_X9_70 rfl rfl (by decide) pf_9_38 hnm oc_9 rfl rfl rfl ?_
    refine zg_aload_n dX9_init_158 rfl ?_
    refine zg_bipush dX9_init_159 zbi_12 ?_
    refine zg_newaJ (n := 84) dX9_init_161 ac_long rfl (by decide) rfl (by decide) (by rw [hRc]; decide) (by rw [hRs]; decide) ?_
    refine zg_putT (o := 64) (n := 85) dX9_init_163 fl_X9_73 rfl rfl (by decide) pf_9_39 hnm oc_9 rfl rfl rfl ?_
    refine zg_aload_n dX9_init_166 rfl ?_
    refine zg_bipush dX9_init_167 zbi_12 ?_
    refine zg_newaJ (n := 85) dX9_init_169 ac_long rfl (by decide) rfl (by decide) (by rw [hRc]; decide) (by rw [hRs]; decide) ?_
    refine zg_putT (o := 64) (n := 86) dX9_init_171 fl_X9_76 rfl rfl (by decide) pf_9_40 hnm oc_9 rfl rfl rfl ?_
    refine zg_aload_n dX9_init_174 rfl ?_
    refine zg_bipush dX9_init_175 zbi_12 ?_
    refine zg_newaJ (n := 86) dX9_init_177 ac_long rfl (by decide) rfl (by decide) (by rw [hRc]; decide) (by rw [hRs]; decide) ?_
    refine zg_putT (o := 64) (n := 87) dX9_init_179 fl_X9_79 rfl rfl (by decide) pf_9_41 hnm oc_9 rfl rfl rfl ?_
    refine zg_aload_n dX9_init_182 rfl ?_
    refine zg_bipush dX9_init_183 zbi_12 ?_
    refine zg_newaJ (n := 87) dX9_init_185 ac_long rfl (by decide) rfl (by decide) (by rw [hRc]; decide) (by rw [hRs]; decide) ?_
    refine zg_putT (o := 64) (n := 88) dX9_init_187 fl_X9_82 rfl rfl (by decide) pf_9_42 hnm oc_9 rfl rfl rfl ?_
    refine zg_aload_n dX9_init_190 rfl ?_
    refine zg_bipush dX9_init_191 zbi_12 ?_
    refine zg_newaJ (n := 88) dX9_init_193 ac_long rfl (by decide) rfl (by decide) (by rw [hRc]; decide) (by rw [hRs]; decide) ?_
    refine zg_putT (o := 64) (n := 89) dX9_init_195 fl_X9_85 rfl rfl (by decide) pf_9_43 hnm oc_9 rfl rfl rfl ?_
    refine zg_aload_n dX9_init_198 rfl ?_
    refine zg_bipush dX9_init_199 zbi_12 ?_
    refine zg_newaI (n := 89) dX9_init_201 ac_int rfl (by decide) rfl (by decide) (by rw [hRc]; decide) (by rw [hRs]; decide) ?_
    refine zg_putT (o := 64) (n := 90) dX9_init_203 fl_X9_88 rfl rfl (by decide) pf_9_44 hnm oc_9 rfl rfl rfl ?_
    refine zg_aload_n dX9_init_206 rfl ?_
    refine zg_bipush dX9_init_207 zbi_12 ?_
    refine zg_newaI (n := 90) dX9_init_209 ac_int rfl (by decide) rfl (by decide) (by rw [hRc]; decide) (by rw [hRs]; decide) ?_
    refine zg_putT (o := 64) (n := 91) dX9_init_211 fl_X9_91 rfl rfl (by decide) pf_9_45 hnm oc_9 rfl rfl rfl ?_
    refine zg_aload_n dX9_init_214 rfl ?_
    refine zg_bipush dX9_init_215 zbi_12 ?_
    refine zg_newaI (n := 91) dX9_init_217 ac_int rfl (by decide) rfl (by decide) (by rw [hRc]; decide) (by rw [hRs]; decide) ?_
    refine zg_putT (o := 64) (n := 92) dX9_init_219 fl_X9_94 rfl rfl (by decide) pf_9_46 hnm oc_9 rfl rfl rfl ?_
    refine zg_aload_n dX9_init_222 rfl ?_
    refine zg_bipush dX9_init_223 zbi_12 ?_
    refine zg_newaI (n := 92) dX9_init_225 ac_int rfl (by decide) rfl (by decide) (by rw [hRc]; decide) (by rw [hRs]; decide) ?_
    refine zg_putT (o := 64) (n := 93) dX9_init_227 fl_X9_97 rfl rfl (by decide) pf_9_47 hnm oc_9 rfl rfl rfl ?_
    refine zg_aload_n dX9_init_230 rfl ?_
    refine zg_bipush dX9_init_231 zbi_12 ?_
    refine zg_newaJ (n := 93) dX9_init_233 ac_long rfl (by decide) rfl (by decide) (by rw [hRc]; decide) (by rw [hRs]; decide) ?_
    refine zg_putT (o := 64) (n := 94) dX9_init_235 fl_X9_100 rfl rfl (by decide) pf_9_50 hnm oc_9 rfl rfl rfl ?_
    refine zg_aload_n dX9_init_238 rfl ?_
    refine zg_sipush dX9_init_239 zsi_300 ?_
    refine zg_newaI (n := 94) dX9_init_242 ac_int rfl (by decide) rfl (by decide) (by rw [hRc]; decide) (by rw [hRs]; decide) ?_
    refine zg_putT (o := 64) (n := 95) dX9_init_244 fl_X9_103 rfl rfl (by decide) pf_9_51 hnm oc_9 rfl rfl rfl ?_
    refine zg_aload_n dX9_init_247 rfl ?_
    refine zg_sipush dX9_init_248 zsi_300 ?_
    refine zg_newaI (n := 95) dX9_init_251 ac_int rfl (by decide) rfl (by decide) (by rw [hRc]; decide) (by rw [hRs]; decide) ?_
    refine zg_putT (o := 64) (n := 96) dX9_init_253 fl_X9_106 rfl rfl (by decide) pf_9_52 hnm oc_9 rfl rfl rfl ?_
    refine zg_aload_n dX9_init_256 rfl ?_
    refine zg_bipush dX9_init_257 zbi_13 ?_
    refine zg_newaI (n := 96) dX9_init_259 ac_int rfl (by decide) rfl (by decide) (by rw [hRc]; decide) (by rw [hRs]; decide) ?_
    refine zg_putT (o := 64) (n := 97) dX9_init_261 fl_X9_109 rfl rfl (by decide) pf_9_53 hnm oc_9 rfl rfl rfl ?_
    refine zg_aload_n dX9_init_264 rfl ?_
    refine zg_bipush dX9_init_265 zbi_12 ?_
    refine zg_newaI (n := 97) dX9_init_267 ac_int rfl (by decide) rfl (by decide) (by rw [hRc]; decide) (by rw [hRs]; decide) ?_
    refine zg_putT (o := 64) (n := 98) dX9_init_269 fl_X9_112 rfl rfl (by decide) pf_9_54 hnm oc_9 rfl rfl rfl ?_
    refine zg_aload_n dX9_init_272 rfl ?_
    refine zg_sipush dX9_init_273 zsi_300 ?_
    refine zg_newaI (n := 98) dX9_init_276 ac_int rfl (by decide) rfl (by decide) (by rw [hRc]; decide) (by rw [hRs]; decide) ?_
    refine zg_putT (o := 64) (n := 99) dX9_init_278 fl_X9_115 rfl rfl (by decide) pf_9_55 hnm oc_9 rfl rfl rfl ?_
    refine zg_aload_n dX9_init_281 rfl ?_
    refine zg_sipush dX9_init_282 zsi_300 ?_
    refine zg_newaI (n := 99) dX9_init_285 ac_int rfl (by decide) rfl (by decide) (by rw [hRc]; decide) (by rw [hRs]; decide) ?_
    refine zg_putT (o := 64) (n := 100) dX9_init_287 fl_X9_118 rfl rfl (by decide) pf_9_56 hnm oc_9 rfl rfl rfl ?_
    refine zg_aload_n dX9_init_290 rfl ?_
    refine zg_bipush dX9_init_291 zbi_13 ?_
    refine zg_newaI (n := 100) dX9_init_293 ac_int rfl (by decide) rfl (by decide) (by rw [hRc]; decide) (by rw [hRs]; decide) ?_
    refine zg_putT (o := 64) (n := 101) dX9_init_295 fl_X9_121 rfl rfl (by decide) pf_9_57 hnm oc_9 rfl rfl rfl ?_
    refine zg_aload_n dX9_init_298 rfl ?_
    refine zg_bipush dX9_init_299 zbi_12 ?_
    refine zg_newaI (n := 101) dX9_init_301 ac_int rfl (by decide) rfl (by decide) (by rw [hRc]; decide) (by rw [hRs]; decide) ?_
    refine zg_putT (o := 64) (n := 102) dX9_init_303 fl_X9_124 rfl rfl (by decide) pf_9_58 hnm oc_9 rfl rfl rfl ?_
    refine zg_aload_n dX9_init_306 rfl ?_
    refine zg_sipush dX9_init_307 zsi_200 ?_
    refine zg_newaI (n := 102) dX9_init_310 ac_int rfl (by decide) rfl (by decide) (by rw [hRc]; decide) (by rw [hRs]; decide) ?_
    refine zg_putT (o := 64) (n := 103) dX9_init_312 fl_X9_127 rfl rfl (by decide) pf_9_59 hnm oc_9 rfl rfl rfl ?_
    refine zg_aload_n dX9_init_315 rfl ?_
    refine zg_bipush dX9_init_316 zbi_70 ?_
    refine zg_newaI (n := 103) dX9_init_318 ac_int rfl (by decide) rfl (by decide) (by rw [hRc]; decide) (by rw [hRs]; decide) ?_
    refine zg_putT (o := 64) (n := 104) dX9_init_320 fl_X9_130 rfl rfl (by decide) pf_9_60 hnm oc_9 rfl rfl rfl ?_
    refine zg_aload_n dX9_init_323 rfl ?_
    refine zg_bipush dX9_init_324 zbi_12 ?_
    refine zg_newaI (n := 104) dX9_init_326 ac_int rfl (by decide) rfl (by decide) (by rw [hRc]; decide) (by rw [hRs]; decide) ?_
    refine zg_putT (o := 64) (n := 105) dX9_init_328 fl_X9_133 rfl rfl (by decide) pf_9_61 hnm oc_9 rfl rfl rfl ?_
    refine zg_aload_n dX9_init_331 rfl ?_
    refine zg_bipush dX9_init_332 zbi_8 ?_
    refine zg_newaZ (n := 105) dX9_init_334 ac_boolean rfl (by decide) rfl (by decide) (by rw [hRc]; decide) (by rw [hRs]; decide) ?_
    refine zg_putT (o := 64) (n := 106) dX9_init_336 fl_X9_136 rfl rfl (by decide) pf_9_69 hnm oc_9 rfl rfl rfl ?_
    refine zg_aload_n dX9_init_339 rfl ?_
    refine zg_bipush dX9_init_340 zbi_8 ?_
    refine zg_newaZ (n := 106) dX9_init_342 ac_boolean rfl (by decide) rfl (by decide) (by rw [hRc]; decide) (by rw [hRs]; decide) ?_
    refine zg_putT (o := 64) (n := 107) dX9_init_344 fl_X9_139 rfl rfl (by decide) pf_9_70 hnm oc_9 rfl rfl rfl ?_
    refine zg_aload_n dX9_init_347 rfl ?_
    refine zg_sipush dX9_init_348 zsi_256 ?_
    refine zg_newaI (n := 107) dX9_init_351 ac_int rfl (by decide) rfl (by decide) (by rw [hRc]; decide) (by rw [hRs]; decide) ?_
    refine zg_putT (o := 64) (n := 108) dX9_init_353 fl_X9_142 rfl rfl (by decide) pf_9_71 hnm oc_9 rfl rfl rfl ?_
    refine zg_widen (ce' := 43) (sl' := 3035) (by decide) (by decide) ?_
    refine zg_Wp (Wp' := fun H => va_P (zD w) vwCl (zW w (zsI σ 64 3 (-1))) H) (fun H hH => by rw [← zWn_full hfull]; exact hH.2.1) ?_
    refine zg_toJ (Qf := zQf w (xw x 43 3035) zeV) (m := zcv (m_X9_plain 64 (zsI σ 64 3 (-1))) (fun s1 => some s1)) (b := σ1) (by rw [hpl]; rfl) rfl (by rw [hRc]; decide) (by rw [hRs]; decide) ?_
    refine zj_aload_n dX9_init_356 rfl ?_
    refine zj_cVV0 ml_X9_145 (fun a h => c_X9_plain (o0 := 64) rfl h) rfl rfl (Nat.le_of_ble_eq_true rfl) (Nat.le_of_ble_eq_true rfl) dX9_init_357 (fun s1 => ?_)
    exact zj_vret hr dX9_init_360)
