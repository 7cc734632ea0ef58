theorem nw_8 : ∀ k, k < 11 → (zF 8 k = 0 ∧ defaultValue (tyX8 k) = .int 0) ∨ (zF 8 k = 1 ∧ defaultValue (tyX8 k) = .long 0) ∨ (zF 8 k = 2 ∧ defaultValue (tyX8 k) = .null) ∨ (zF 8 k = 3 ∧ defaultValue (tyX8 k) = .null) := by decide +kernel
theorem ni_8 : Cond.instantiable RX8 11 ∈ ztb := zmem 86 (by decide +kernel) rfl
theorem ng_8 : Cond.initialized RX8 ∈ ztb := zmem 68 (by decide +kernel) rfl
theorem nw_9 : ∀ k, k < 72 → (zF 9 k = 0 ∧ defaultValue (tyX9 k) = .int 0) ∨ (zF 9 k = 1 ∧ defaultValue (tyX9 k) = .long 0) ∨ (zF 9 k = 2 ∧ defaultValue (tyX9 k) = .null) ∨ (zF 9 k = 3 ∧ defaultValue (tyX9 k) = .null) := by decide +kernel
theorem ni_9 : Cond.instantiable RX9 72 ∈ ztb := zmem 862 (by decide +kernel) rfl
theorem ng_9 : Cond.initialized RX9 ∈ ztb := zmem 81 (by decide +kernel) rfl
theorem mi_L_9 : zMI RL 9 yX8_init cX8_init 1 0 := ⟨zmem 87 (by decide +kernel) rfl, zmem 88 (by decide +kernel) rfl, zmem 68 (by decide +kernel) rfl, zmem 89 (by decide +kernel) rfl, by decide +kernel, by decide, rfl⟩
theorem mi_L_12 : zMI RL 12 yX9_init cX9_init 1 0 := ⟨zmem 863 (by decide +kernel) rfl, zmem 864 (by decide +kernel) rfl, zmem 81 (by decide +kernel) rfl, zmem 865 (by decide +kernel) rfl, by decide +kernel, by decide, rfl⟩
def zS0 : Nat → Nat → Bool := fun _ _ => false
def z00 : zSt := (fun _ _ => 0, fun _ _ => 0, fun _ _ => 0)
def zS8 : Nat → Nat → Bool := (zsS (zsS (zsS (zsS (zsS (zsS (zsS (zsS (zsS (zsS (zsS (zsS (zsS (zsS (zsS (zsS (zsS (zsS (zsS (zsS (zsS (zsS (zsS (zsS (zsS (zsS (zsS (zsS (zsS (zsS (zsS (zsS (zsS (zsS (zsS (zsS (zsS (zsS (zsS (zsS (zsS (zsS (zsS (zsS (zsS (zsS (zsS (zsS (zsS (zsS (zsS (zsS (zsS (zsS (zsS (zsS (zsS (zsS (zsS (zsS (zsS (zsS (zsS (zsS zS0 1 0) 0 0) 3 0) 3 1) 0 1) (6) 2) (6) 3) (6) 4) (6) 5) 5 1) 5 2) 0 2) (13) 2) (13) 3) (13) 4) (13) 5) 12 1) 12 2) 0 3) 19 1) 19 2) 19 3) 19 4) 19 5) 19 6) 0 4) 26 1) 26 2) 26 3) 26 4) 26 5) 26 6) 0 5) 33 2) 33 3) 33 4) 33 5) 33 6) 33 7) 33 8) 33 9) 33 10) 0 6) 43 2) 43 3) 43 4) 43 5) 43 6) 43 7) 43 8) 43 9) 43 10) 0 7) 53 2) 53 3) 53 4) 53 5) 53 6) 0 8) 59 0) 59 3) 59 4) 0 9) 0 10)
def zg8 : zSt := (zsI (zsL (zsI (zsI (zsR (zsI (zsI (zsI (zsR (zsI (zsI (zsI (zsR (zsI (zsR (zsI (zsR (zsI (zcpU (zsI (zsI (zsI (zsI (zsI (zsR (zsI (zcpU (zsI (zsI (zsI (zsI (zsI (zwd ((4)) (zsI (zsI (zsI z00 1 1 0) 3 10 0) 3 11 (-1)) 106).2.2 5 0 0) (6) 0 0) (6) 1 0) (6) 6 0) (6) 7 0) ((6) + 1 + 1 + 1 + 1 + 1)) 5 3 0) 0 2 5) 12 0 0) (13) 0 0) (13) 1 0) (13) 6 0) (13) 7 0) ((13) + 1 + 1 + 1 + 1 + 1)) 12 3 0) 0 3 12) 19 0 0) 0 4 19) 26 0 0) 0 5 26) 33 0 0) 33 1 0) 33 11 0) 0 6 33) 43 0 0) 43 1 0) 43 11 0) 0 7 43) 53 0 0) 53 1 0) 59 1 0) 59 2 0)
def zS9 : Nat → Nat → Bool := (zsS (zsS (zsS (zsS (zsS (zsS (zsS (zsS (zsS (zsS (zsS (zsS (zsS (zsS (zsS (zsS (zsS (zsS (zsS (zsS (zsS (zsS (zsS (zsS (zsS (zsS (zsS (zsS (zsS (zsS (zsS (zsS (zsS (zsS (zsS (zsS (zsS (zsS (zsS (zsS (zsS (zsS (zsS zS8 64 0) 64 11) 64 12) 64 13) 64 14) 64 15) 64 16) 64 17) 64 25) 64 26) 64 27) 64 28) 64 29) 64 32) 64 33) 64 34) 64 35) 64 37) 64 38) 64 39) 64 40) 64 41) 64 42) 64 43) 64 44) 64 45) 64 46) 64 47) 64 50) 64 51) 64 52) 64 53) 64 54) 64 55) 64 56) 64 57) 64 58) 64 59) 64 60) 64 61) 64 69) 64 70) 64 71)
def zg9 : zSt := (zsI zg8 64 3 (-1))
theorem zfull : (List.range 108).all (fun o' => (List.range 72).all (fun k => (zF (zC o') k != 2 && zF (zC o') k != 3) || zS9 o' k)) = true := by decide +kernel
theorem z_arr {s : State} {A : Array Value} {ty : FieldType} (h : (Cond.arrayClass ty).before A s = true) (hty : refKind ty = false) : ∃ cA : ClassId, ArrOfT s cA ty ∧ va_RA s cA ty := by
  obtain ⟨c, k, comp, h1, h2, h3⟩ := Cond.arrayClass_spec (args := A) (first := s) (o := none) (s := s) (idx := []) (type := ty) h
  refine ⟨c, fun n z => ⟨fun k' h' => (by cases h'), k, h2, comp, h3⟩, ?_⟩
  cases ty <;> first | exact h1 | cases hty
theorem z_static {s : State} {A : Array Value} {nm : String} {f : Nat → Int32} {B : Nat → Prop} {kI : ClassId} (hkI : s.vm.findClass "[I" = some kI) (hl : (Cond.laysStatic "LeadBalls" nm "[I").before A s = true) (hini : (Cond.initialized "LeadBalls").before A s = true) (har : (Cond.arrayOf (.static "LeadBalls" nm "[I") .int).before A s = true) (hex : (Cond.exactly (.static "LeadBalls" nm "[I") "[I").before A s = true) (hle : (Cond.eq (.length (.static "LeadBalls" nm "[I")) (.int 11)).before A s = true) (hel : ∀ j : Nat, j < 11 → (Cond.eq (.elem (.static "LeadBalls" nm "[I") (.int (Int32.ofNat j))) (.int (f j))).before A s = true) (hB : ∀ a : Nat, a < s.heap.size → ¬ B a) :
    ∃ t : Nat, va_Z "LeadBalls" nm "[I" (.ref t) B s s.heap ∧ va_T .int t 11 (fun j => .int (f j)) B s s.heap ∧ ∃ cell : Cell, s.heap[t]? = some cell ∧ cell.cls = kI ∧ cell.vm ≠ .unknown ∧ (∀ k, cell.vm ≠ .statics k) ∧ cell.slots.size = 11 ∧ (∀ j : Nat, j < 11 → cell.slots[j]? = some (.int (f j))) ∧ ¬ B t := by
  obtain ⟨t, ht, hT⟩ := va_Tof (f := fun j => .int (f j)) (A := B) (N := 11) (by decide) har (va_eqt hle) (fun j hj => va_eqt (hel j hj)) hB
  refine ⟨t, va_Zref hl hini ht hB, hT, ?_⟩
  obtain ⟨a, c, cellE, k, q1, q2, q3, q4, q5, q6, -⟩ := Cond.exactly_spec (args := A) (first := s) (o := none) (s := s) (idx := []) hex
  cases ht.symm.trans q1
  obtain ⟨cell, c1, c2, c3, c4, c5, c6, c7⟩ := hT
  obtain rfl : cellE = cell := Option.some.inj (q3.symm.trans c1)
  have hv := va_eqt hle
  obtain ⟨b', cell', g1, g2, g3⟩ := Term.length_spec hv
  cases ht.symm.trans g1
  obtain ⟨g4, -, -, -⟩ := State.arrayAt?_spec g2
  obtain rfl : cell' = cellE := Option.some.inj (g4.symm.trans c1)
  have hsz : cell'.slots.size < 2147483648 := by
    have hv2 : ((Term.static "LeadBalls" nm "[I").eval A s none [] s).bind (fun v => match v with
      | Value.ref a => (s.arrayAt? a).bind fun z => if z.slots.size < 2147483648 then some (Value.int z.slots.size.toInt32) else none
      | _ => none) = some (Value.int 11) := hv
    rw [ht] at hv2
    simp only [Option.bind_some, g2] at hv2
    by_cases hlt : cell'.slots.size < 2147483648
    · exact hlt
    · simp [hlt] at hv2
  have h11 : cell'.slots.size = 11 := by
    have e1 : (Int32.ofNat cell'.slots.size).toInt = (Int32.ofNat 11).toInt := by
      have : cell'.slots.size.toInt32 = Int32.ofNat 11 := c5
      rw [← this]
    rw [Int32.toInt_ofNat_of_lt (by omega), Int32.toInt_ofNat_of_lt (by omega)] at e1
    omega
  exact ⟨cell', c1, by rw [q6]; exact Option.some.inj (q2.symm.trans hkI), c3, (fun k' hk => by rw [hk] at q5; cases q5), h11, c6, c7⟩
theorem zfm {c : Cond} (i : Nat) (h : (flatC (Jvm.Cond.and given_1 narrow_1))[i]? = some c) : c ∈ flatC (Jvm.Cond.and given_1 narrow_1) := List.mem_of_getElem? h
theorem zel_U : ∀ j : Nat, j < 11 → Cond.eq (.elem (.static "LeadBalls" "UNTOLD_SETTING" "[I") (.int (Int32.ofNat j))) (.int (ztabU j)) ∈ flatC (Jvm.Cond.and given_1 narrow_1) := by
  intro j hj
  exact zfm (12 + j) (of_decide_eq_true (List.all_eq_true.mp (show (List.range 11).all (fun j => decide ((flatC (Jvm.Cond.and given_1 narrow_1))[12 + j]? = some (Cond.eq (.elem (.static "LeadBalls" "UNTOLD_SETTING" "[I") (.int (Int32.ofNat j))) (.int (ztabU j))))) = true by decide +kernel) j (List.mem_range.mpr hj)))
theorem zel_L : ∀ j : Nat, j < 11 → Cond.eq (.elem (.static "LeadBalls" "LEAST_SETTING" "[I") (.int (Int32.ofNat j))) (.int (ztabL j)) ∈ flatC (Jvm.Cond.and given_1 narrow_1) := by
  intro j hj
  exact zfm (26 + j) (of_decide_eq_true (List.all_eq_true.mp (show (List.range 11).all (fun j => decide ((flatC (Jvm.Cond.and given_1 narrow_1))[26 + j]? = some (Cond.eq (.elem (.static "LeadBalls" "LEAST_SETTING" "[I") (.int (Int32.ofNat j))) (.int (ztabL j))))) = true by decide +kernel) j (List.mem_range.mpr hj)))
theorem zel_M : ∀ j : Nat, j < 11 → Cond.eq (.elem (.static "LeadBalls" "MOST_SETTING" "[I") (.int (Int32.ofNat j))) (.int (ztabM j)) ∈ flatC (Jvm.Cond.and given_1 narrow_1) := by
  intro j hj
  exact zfm (40 + j) (of_decide_eq_true (List.all_eq_true.mp (show (List.range 11).all (fun j => decide ((flatC (Jvm.Cond.and given_1 narrow_1))[40 + j]? = some (Cond.eq (.elem (.static "LeadBalls" "MOST_SETTING" "[I") (.int (Int32.ofNat j))) (.int (ztabM j))))) = true by decide +kernel) j (List.mem_range.mpr hj)))
theorem zel_S : ∀ j : Nat, j < 106 → Cond.eq (.elem (.field (.string "LeadBalls$Reader" 26) "java/lang/String" "value" "[B") (.int (Int32.ofNat j))) (.int (zby j)) ∈ flatC (Jvm.Cond.and given_1 narrow_1) := by
  intro j hj
  exact zfm (55 + j) (of_decide_eq_true (List.all_eq_true.mp (show (List.range 106).all (fun j => decide ((flatC (Jvm.Cond.and given_1 narrow_1))[55 + j]? = some (Cond.eq (.elem (.field (.string "LeadBalls$Reader" 26) "java/lang/String" "value" "[B") (.int (Int32.ofNat j))) (.int (zby j))))) = true by decide +kernel) j (List.mem_range.mpr hj)))
theorem z_text {s : State} {A : Array Value} {B : Nat → Prop} (hfl : ∀ q ∈ flatC (Jvm.Cond.and given_1 narrow_1), q.before A s = true) (hsr : (Cond.stringRef "LeadBalls$Reader" 26 zTx).before A s = true) (hB : ∀ a : Nat, a < s.heap.size → ¬ B a) : ∃ t : Nat × Nat, vk_R "LeadBalls$Reader" 26 zTx t.1 s ∧ va_O "java/lang/String" t.1 B s s.heap ∧ va_OF "java/lang/String" "coder" "B" (.int 0) t.1 B s s.heap ∧ va_OF "java/lang/String" "value" "[B" (.ref t.2) t.1 B s s.heap ∧ va_T .byte t.2 106 (fun j => .int (zby j)) B s s.heap := by
  obtain ⟨a, c, cA, kA, q1, q2, q3, q4, q5, q6, -⟩ := Cond.exactly_spec (args := A) (first := s) (o := none) (s := s) (idx := []) (t := .string "LeadBalls$Reader" 26) (cls := "java/lang/String") (hfl _ (zfm 51 (by decide +kernel)))
  obtain ⟨t, ht, hT⟩ := va_Tof (tm := .field (.string "LeadBalls$Reader" 26) "java/lang/String" "value" "[B") (ty := .byte) (f := fun j => .int (zby j)) (A := B) (N := 106) (by decide) (hfl _ (zfm 53 (by decide +kernel))) (va_eqt (hfl _ (zfm 54 (by decide +kernel)))) (fun j hj => va_eqt (hfl _ (zel_S j hj))) hB
  refine ⟨(a, t), ?_, ⟨cA, q3, q5, by rw [q6]; exact q2, hB a (Array.getElem?_eq_some_iff.mp q3).1⟩, vk_OFof q1 (va_eqt (hfl _ (zfm 52 (by decide +kernel)))) hB, vk_OFof q1 ht hB, hT⟩
  exact vk_R.of hsr q1
set_option maxHeartbeats 4000000 in
set_option maxRecDepth 100000 in
theorem whole_open (hpure : ∃ σ1 : zSt, m_X9_plain 64 zg9 = some σ1 ∧ ∀ (L : Nat) (xv : Nat → Int32), L ≤ 3072 → ∃ σe : zSt, lp_L_law_18 L xv zFuel 0 σ1 = some (1, σe)) {p : Program} {e : Env} {s : State} {m : MethodId} {below : List Frame} {meth : Method} {c : Code} (l : Launch) {b L : Nat} {xs' : Nat → Int32} (hL : L ≤ 3072) (C0 : lw_At p s m meth c b L xs') : W p l e room_1 s m #[Value.ref b] below meth c s.heap [] 0 0 (lw_Z below #[Value.ref b] s) (entryFrame m ([Value.ref b] : List Value).toArray 4) := by
  obtain ⟨hx, hb, hr, hml, hown, hts, hX, hbl, hlocks, hgv⟩ := id C0
  obtain ⟨σ1, hpl, hlaw⟩ := hpure
  obtain ⟨σe, hend⟩ := hlaw L xs' hL
  have hfl := flat_of_before _ hgv
  have hA : ∀ a : Nat, a < s.heap.size → ¬ (fun q : Nat => s.heap.size ≤ q) a := fun a h => Nat.not_le.mpr h
  obtain ⟨c0, iS0, hKn0⟩ := u_known (C := RX0) (T := TX0) (N := 8) (n := 8) hts (fun q hq => (List.mem_filter.mp (zin_0 q hq)).1) (hts (.instantiable RX0 8) (List.mem_of_getElem? (i := 224) (by decide +kernel)))
  obtain ⟨c1, iS1, hKn1⟩ := u_known (C := RX1) (T := TX1) (N := 5) (n := 5) hts (fun q hq => (List.mem_filter.mp (zin_1 q hq)).1) (hts (.instantiable RX1 5) (List.mem_of_getElem? (i := 389) (by decide +kernel)))
  obtain ⟨c2, iS2, hKn2⟩ := u_known (C := RX2) (T := TX2) (N := 7) (n := 7) hts (fun q hq => (List.mem_filter.mp (zin_2 q hq)).1) (hts (.instantiable RX2 7) (List.mem_of_getElem? (i := 282) (by decide +kernel)))
  obtain ⟨c3, iS3, hKn3⟩ := u_known (C := RX3) (T := TX3) (N := 12) (n := 12) hts (fun q hq => (List.mem_filter.mp (zin_3 q hq)).1) (hts (.instantiable RX3 12) (List.mem_of_getElem? (i := 111) (by decide +kernel)))
  obtain ⟨c4, iS4, hKn4⟩ := u_known (C := RX4) (T := TX4) (N := 7) (n := 7) hts (fun q hq => (List.mem_filter.mp (zin_4 q hq)).1) (hts (.instantiable RX4 7) (List.mem_of_getElem? (i := 358) (by decide +kernel)))
  obtain ⟨c5, iS5, hKn5⟩ := u_known (C := RX5) (T := TX5) (N := 4) (n := 4) hts (fun q hq => (List.mem_filter.mp (zin_5 q hq)).1) (hts (.instantiable RX5 4) (List.mem_of_getElem? (i := 218) (by decide +kernel)))
  obtain ⟨c6, iS6, hKn6⟩ := u_known (C := RX6) (T := TX6) (N := 12) (n := 12) hts (fun q hq => (List.mem_filter.mp (zin_6 q hq)).1) (hts (.instantiable RX6 12) (List.mem_of_getElem? (i := 311) (by decide +kernel)))
  obtain ⟨c7, iS7, hKn7⟩ := u_known (C := RX7) (T := TX7) (N := 2) (n := 2) hts (fun q hq => (List.mem_filter.mp (zin_7 q hq)).1) (hts (.instantiable RX7 2) (List.mem_of_getElem? (i := 94) (by decide +kernel)))
  obtain ⟨c8, iS8, hKn8⟩ := u_known (C := RX8) (T := TX8) (N := 11) (n := 11) hts (fun q hq => (List.mem_filter.mp (zin_8 q hq)).1) (hts (.instantiable RX8 11) (List.mem_of_getElem? (i := 86) (by decide +kernel)))
  obtain ⟨c9, iS9, hKn9⟩ := u_known (C := RX9) (T := TX9) (N := 72) (n := 72) hts (fun q hq => (List.mem_filter.mp (zin_9 q hq)).1) (hts (.instantiable RX9 72) (List.mem_of_getElem? (i := 862) (by decide +kernel)))
  obtain ⟨kB, hAB, hRB⟩ := z_arr (hts (.arrayClass .byte) (List.mem_of_getElem? (i := 109) (by decide +kernel))) rfl
  obtain ⟨kI, hAI, hRI⟩ := z_arr (hts (.arrayClass .int) (List.mem_of_getElem? (i := 256) (by decide +kernel))) rfl
  obtain ⟨kJ, hAJ, hRJ⟩ := z_arr (hts (.arrayClass .long) (List.mem_of_getElem? (i := 216) (by decide +kernel))) rfl
  obtain ⟨kZ, hAZ, hRZ⟩ := z_arr (hts (.arrayClass .boolean) (List.mem_of_getElem? (i := 1091) (by decide +kernel))) rfl
  have hkI : s.vm.findClass "[I" = some kI := va_nm_int hRI
  obtain ⟨tU, hzU, hTU, hcU⟩ := z_static (nm := "UNTOLD_SETTING") (f := ztabU) (B := fun q : Nat => s.heap.size ≤ q) (kI := kI) hkI (hts _ (List.mem_of_getElem? (i := 258) (by decide +kernel))) (hts _ (List.mem_of_getElem? (i := 68) (by decide +kernel))) (hfl _ (zfm 10 (by decide +kernel))) (hfl _ (zfm 164 (by decide +kernel))) (hfl _ (zfm 11 (by decide +kernel))) (fun j hj => hfl _ (zel_U j hj)) hA
  obtain ⟨tL, hzL, hTL, hcL⟩ := z_static (nm := "LEAST_SETTING") (f := ztabL) (B := fun q : Nat => s.heap.size ≤ q) (kI := kI) hkI (hts _ (List.mem_of_getElem? (i := 528) (by decide +kernel))) (hts _ (List.mem_of_getElem? (i := 68) (by decide +kernel))) (hfl _ (zfm 24 (by decide +kernel))) (hfl _ (zfm 165 (by decide +kernel))) (hfl _ (zfm 25 (by decide +kernel))) (fun j hj => hfl _ (zel_L j hj)) hA
  obtain ⟨tM, hzM, hTM, hcM⟩ := z_static (nm := "MOST_SETTING") (f := ztabM) (B := fun q : Nat => s.heap.size ≤ q) (kI := kI) hkI (hts _ (List.mem_of_getElem? (i := 530) (by decide +kernel))) (hts _ (List.mem_of_getElem? (i := 68) (by decide +kernel))) (hfl _ (zfm 38 (by decide +kernel))) (hfl _ (zfm 166 (by decide +kernel))) (hfl _ (zfm 39 (by decide +kernel))) (fun j hj => hfl _ (zel_M j hj)) hA
  obtain ⟨tt, hs1, hs2, hs3, hs4, hs5⟩ := z_text (B := fun q : Nat => s.heap.size ≤ q) hfl (hts _ (List.mem_of_getElem? (i := 116) (by decide +kernel))) hA
  have hZc : va_Z "java/lang/String" "COMPACT_STRINGS" "Z" (.int 1) (fun q : Nat => s.heap.size ≤ q) s s.heap := va_Zof (hts _ (List.mem_of_getElem? (i := 126) (by decide +kernel))) (hts _ (List.mem_of_getElem? (i := 71) (by decide +kernel))) (va_eqi (hfl _ (zfm 4 (by decide +kernel)))) hA
  have hZq : va_Zq "jdk/internal/util/Preconditions" "SIOOBE_FORMATTER" "Ljava/util/function/BiFunction;" (fun q : Nat => s.heap.size ≤ q) s s.heap := va_Zqof (hts _ (List.mem_of_getElem? (i := 142) (by decide +kernel))) (hts _ (List.mem_of_getElem? (i := 73) (by decide +kernel))) (hfl _ (zfm 5 (by decide +kernel))) hA
  obtain ⟨dC, dI, hKc⟩ : ∃ (dC : Nat → ClassId) (dI : Nat → Nat → Nat), ∀ (k : Nat) (q : vw_C), vwCl[k]? = some q → u_Kn s q.1 q.2.1 q.2.2 (dC k) (dI k) := by
    refine ⟨fun k => if k = 0 then c0 else if k = 1 then c1 else if k = 2 then c2 else if k = 3 then c3 else if k = 4 then c4 else if k = 5 then c5 else if k = 6 then c6 else if k = 7 then c7 else if k = 8 then c8 else c9, fun k => if k = 0 then iS0 else if k = 1 then iS1 else if k = 2 then iS2 else if k = 3 then iS3 else if k = 4 then iS4 else if k = 5 then iS5 else if k = 6 then iS6 else if k = 7 then iS7 else if k = 8 then iS8 else iS9, ?_⟩
    intro k q hq
    match k, hq with
    | 0, hq => cases hq; exact hKn0
    | 1, hq => cases hq; exact hKn1
    | 2, hq => cases hq; exact hKn2
    | 3, hq => cases hq; exact hKn3
    | 4, hq => cases hq; exact hKn4
    | 5, hq => cases hq; exact hKn5
    | 6, hq => cases hq; exact hKn6
    | 7, hq => cases hq; exact hKn7
    | 8, hq => cases hq; exact hKn8
    | 9, hq => cases hq; exact hKn9
    | k + 10, hq => simp [vwCl] at hq
  have hK : va_K (dC, dI) vwCl [(kB, .byte), (kI, .int), (kJ, .long), (kZ, .boolean)] s := by
    refine ⟨hKc, fun k q h => ?_⟩
    match k, h with
    | 0, h => cases h; exact ⟨hAB, hRB⟩
    | 1, h => cases h; exact ⟨hAI, hRI⟩
    | 2, h => cases h; exact ⟨hAJ, hRJ⟩
    | 3, h => cases h; exact ⟨hAZ, hRZ⟩
    | k + 4, h => simp at h
  have hzK : zK (l, s.heap.size, (dC, dI), (kB, kI, kJ, kZ), (tU, tL, tM)) s := by
    refine ⟨hK, fun q hq => va_Nw.of rfl (hts _ ?_), fun q hq => va_Nw.of rfl (hts _ ?_)⟩
    · exact of_decide_eq_true (List.all_eq_true.mp (show zNM.all (fun q => decide (Cond.methodLinkNest q.1 q.2.1 q.2.2.1 q.2.2.2 ∈ lw_tbl)) = true by decide +kernel) q hq)
    · exact of_decide_eq_true (List.all_eq_true.mp (show zNF.all (fun q => decide (Cond.fieldLinkNest q.1 q.2.1 q.2.2.1 q.2.2.2.1 q.2.2.2.2.1 q.2.2.2.2.2 ∈ lw_tbl)) = true by decide +kernel) q hq)
  have hcast : va_Nw (.castable "[I" "java/lang/Cloneable") s := va_Nw.of rfl (hts _ zcast)
  have hOH : zOH (l, s.heap.size, (dC, dI), (kB, kI, kJ, kZ), (tU, tL, tM)) tt (p, e, room_1, s, m, #[Value.ref b], below, meth, c, 0, 0) RL cL_law 4 1000 := ⟨hx, hb, hml, hown, fun q hq => hts q (List.mem_filter.mp hq).1, hzK, ⟨⟨hzU, hTU⟩, ⟨hzL, hTL⟩, ⟨hzM, hTM⟩⟩, ⟨(by show 1000 ≤ 2048; decide), (by show 64 * 1000 ≤ 84000; decide)⟩, ⟨hs1, hs2, hs3, hs4, hs5, hZc, hZq, hkI, hcast, hcU⟩, hlocks⟩
  have hl := lv_entry ([.ref b]) (n := 4) (Nat.le_of_ble_eq_true rfl)
  rw [lg_entry_eq]
  have hG : zG (lw_Z below #[Value.ref b] s) (l, s.heap.size, (dC, dI), (kB, kI, kJ, kZ), (tU, tL, tM)) tt (p, e, room_1, s, m, #[Value.ref b], below, meth, c, 0, 0) RL cL_law 4 1000 (zHp (l, s.heap.size, (dC, dI), (kB, kI, kJ, kZ), (tU, tL, tM)) 0 zS0 z00) 0 0 0 [some (.ref b), none, none, none] [] := by
    refine zg_new (n := 0) (C := RX8) (T := TX8) tyX8 dL_law_0 rfl (by decide) zin_8 tyX8_ok (zmem 85 (by decide +kernel) rfl) ni_8 ng_8 rfl rfl nw_8 (by show _ ≤ 600000; decide) (by show _ ≤ 7302250; decide) ?_
    refine zg_dup dL_law_3 rfl ?_
    refine zg_callI0 (As := []) (st := [.ref (s.heap.size + 0)]) mi_L_9 (ci_X8_init (S := zS0) (σ := z00)) (by decide) rfl rfl (Nat.le_of_ble_eq_true rfl) dL_law_4 (by show _ ≤ 600000; decide) (by show _ ≤ 7302250; decide) ?_
    refine zg_astore_n (lv' := [some (.ref b), some (.ref (s.heap.size + 0)), none, none]) dL_law_7 rfl (by decide) rfl rfl ?_
    refine zg_new (n := 64) (C := RX9) (T := TX9) tyX9 dL_law_8 rfl (by decide) zin_9 tyX9_ok (zmem 861 (by decide +kernel) rfl) ni_9 ng_9 rfl rfl nw_9 (by show _ ≤ 600000; decide) (by show _ ≤ 7302250; decide) ?_
    refine zg_dup dL_law_11 rfl ?_
    refine zg_callI0 (As := []) (st := [.ref (s.heap.size + 64)]) mi_L_12 (ci_X9_init (S := zS8) (σ := zg8) (σ1 := σ1) zfull hpl) (by decide) rfl rfl (Nat.le_of_ble_eq_true rfl) dL_law_12 (by show _ ≤ 600000; decide) (by show _ ≤ 7302250; decide) ?_
    refine zg_astore_n (lv' := [some (.ref b), some (.ref (s.heap.size + 0)), some (.ref (s.heap.size + 64)), none]) dL_law_15 rfl (by decide) rfl rfl ?_
    refine zg_iconst dL_law_16 zic_0 ?_
    refine zg_istore_n (lv' := [some (.ref b), some (.ref (s.heap.size + 0)), some (.ref (s.heap.size + 64)), some (.int 0)]) dL_law_17 rfl (by decide) rfl rfl ?_
    refine zg_widen (ce' := 108) (sl' := 5860) (by decide) (by decide) ?_
    have hLw : zLw (l, s.heap.size, (dC, dI), (kB, kI, kJ, kZ), (tU, tL, tM)) (xw (p, e, room_1, s, m, #[Value.ref b], below, meth, c, 0, 0) 108 5860) b L xs' := ⟨hX, hbl, Nat.not_le.mpr hbl, rfl, rfl, hr, rfl, (by show 108 ≤ 600000; decide), (by show 5860 ≤ 7302250; decide)⟩
    have hj := jl_L_law_18 hLw zFuel 0 σ1
    intro ok ls H locs hl hP hS T hT X
    obtain ⟨t, h1, h2⟩ := hj (1, σe) hend ⟨ok.1, ok.2.1, ok.2.2.1, ok.2.2.2.1, ok.2.2.2.2.1, ok.2.2.2.2.2.1, ok.2.2.2.2.2.2.1, ok.2.2.2.2.2.2.2.1, ⟨(by show 108 ≤ 600000; decide), (by show 5860 ≤ 7302250; decide)⟩, hlocks⟩ ls H locs hl hP hS T hT X
    exact ⟨t, h1, h2 rfl⟩
  refine hG hOH _ s.heap [] (zent_has hl) ⟨rfl, fun k q h => by simp [zWn] at h, fun o _ k => ⟨rfl, rfl, rfl⟩⟩ va_S.rf
