section ZR
variable {w : zWC} {x : zCX} {own : String} {cc : ByteArray} {nL lev : Nat} {pc : Nat} {lv : List (Option Value)} {σ : zSt}
theorem zj_iret {v : Int32} (hr : zrt x = some .int) (d : decode cc pc = .ok (.ireturn, 1)) : zJ (zQf w x zeI) w x own cc nL lev (some (v, σ)) pc lv [.int v] σ := by
  intro a hm ok ls H locs hl hP hS
  cases hm
  exact W.iret (v := v) ok.1 ok.2.1 hr (fun t ht hW => ⟨rfl, by rw [ht]; exact hP, hS.F ht⟩) (fun q hq => hS.2.2 q hq) d ok.2.2.2.2.2.2.2.2.2
theorem zj_zret {v : Int32} (hr : zrt x = some .boolean) (hn : narrow .boolean (.int v) = .int v) (d : decode cc pc = .ok (.ireturn, 1)) : zJ (zQf w x zeI) w x own cc nL lev (some (v, σ)) pc lv [.int v] σ := by
  intro a hm ok ls H locs hl hP hS
  cases hm
  exact W.zret (v := v) ok.1 ok.2.1 hr hn (fun t ht hW => ⟨rfl, by rw [ht]; exact hP, hS.F ht⟩) (fun q hq => hS.2.2 q hq) d ok.2.2.2.2.2.2.2.2.2
theorem zj_zretG {v : Int32} {dc : Decidable (v = 0 ∨ v = 1)} (hr : zrt x = some .boolean) (d : decode cc pc = .ok (.ireturn, 1)) : zJ (zQf w x zeI) w x own cc nL lev (@ite _ (v = 0 ∨ v = 1) dc (some (v, σ)) none) pc lv [.int v] σ := by
  refine zj_split (fun h => ?_) (fun _ => zj_none)
  refine zj_zret hr ?_ d
  rcases h with rfl | rfl <;> rfl
theorem zj_lret {v : Int64} (hr : zrt x = some .long) (d : decode cc pc = .ok (.lreturn, 1)) : zJ (zQf w x zeL) w x own cc nL lev (some (v, σ)) pc lv [.long v] σ := by
  intro a hm ok ls H locs hl hP hS
  cases hm
  exact W.lret (v := v) ok.1 ok.2.1 hr (fun t ht hW => ⟨rfl, by rw [ht]; exact hP, hS.F ht⟩) (fun q hq => hS.2.2 q hq) d ok.2.2.2.2.2.2.2.2.2
theorem zj_vret (hr : zrt x = none) (d : decode cc pc = .ok (.return_, 1)) : zJ (zQf w x zeV) w x own cc nL lev (some σ) pc lv [] σ := by
  intro a hm ok ls H locs hl hP hS
  cases hm
  exact W.vret ok.1 ok.2.1 hr (fun t ht hW => ⟨rfl, by rw [ht]; exact hP, hS.F ht⟩) (fun q hq => hS.2.2 q hq) d ok.2.2.2.2.2.2.2.2.2
end ZR
theorem zMet {l : Launch} {y : MethodName} {ws ws' : List Cond} {rm : Room} {Pc : Array Value → State → Prop} {Qc : Array Value → State → Outcome → State → Prop} {mc ms : Nat} {free : Addr → Prop} {cc : ByteArray} {maxL : Nat} {ret : Option FieldType}
    (hy : plainFor y = true) (hw : ws = Cond.code y cc maxL ret :: ws')
    (body : ∀ p e s m args below meth c s₁, BodyLoose p l y (headSpec ws rm) cc maxL ret e s m args below meth c s₁ → c.maxLocals = maxL → Pc args s →
      W p l e (headSpec ws rm).room s m args below meth c s.heap [] 0 0 (MQ below Qc args s mc ms free) (entryFrame m args maxL)) : Met l y ws rm Pc Qc mc ms free := by
  refine MetFree.of_bodySF (code := cc) (maxLocals := maxL) (ret := ret) hy ?_ ?_
  · intro args s m h hn
    obtain ⟨meth, c, h1, h2, h3, h4, h5, h6, -, -⟩ := Cond.code_spec hn (atoms_spec (ws := ws) h _ (by rw [hw]; exact List.mem_cons_self))
    exact ⟨meth, c, h1, h2, h3, h4, h5, h6⟩
  · intro p e s m args below meth c s₁ B hml hP _
    have hh0 : s₁.heap = s.heap := by rw [B.state]; rfl
    obtain ⟨t, a1, o, b1, b2, b3⟩ := body p e s m args below meth c s₁ B hml hP s₁ hh0 (Stand.of_body B)
    exact ⟨t, o, a1, b1, b2, ⟨b3.1, b3.2⟩⟩
/-- a contract out of the judgement -/
theorem zCn_of {α : Type} {enc : α → Option Value × zSt} {w : zWC} {n : Nat} {y : MethodName} {own : String} {cc : ByteArray} {nL : Nat} {ret : Option FieldType} {args : List Value} {σ : zSt} {m : Option α} (hy : plainFor y = true) (ho : y.cls = own) (hn : (lg_sl args).length ≤ nL) {lv : List (Option Value)} (hlv : zent args nL = lv)
    (h : ∀ x : zCX, zrt x = ret → zJ (zQf w x enc) w x own cc nL n m 0 lv [] σ) {a : α} (hm : m = some a) : zCn w n y cc nL ret args σ (enc a).1 (enc a).2 := by
  subst ho
  subst hlv
  refine zMet (cc := cc) (maxL := nL) (ret := ret) hy rfl ?_
  intro p e s m' args' below meth c s₁ B hml hv
  obtain ⟨rfl, hP, hK, hS3⟩ := hv
  have hts := atoms_spec (ws := zws y cc nL ret) B.pre
  have hown : s.vm.findClass y.cls = some m'.cls := findClass_of_methodNamed B.named
  have hl := lv_entry args (n := nL) hn
  rw [lg_entry_eq]
  exact h (p, e, (headSpec (zws y cc nL ret) (zRoom n)).room, s, m', args.toArray, below, meth, c, 0, 0) B.returns a hm ⟨B.exec, B.bytes, hml, hown, fun q hq => hts q (List.mem_cons_of_mem _ hq), hK, hS3, ⟨Nat.le_refl _, Nat.le_refl _⟩, ⟨Nat.zero_le _, Nat.zero_le _⟩, B.notSynchronized⟩ _ s.heap [] (zent_has hl) hP va_S.rf
section ZA
variable {p : Program} {l : Launch} {e : Env} {R : Room} {s : State} {m : MethodId} {args : Array Value} {below : List Frame} {meth : Method} {c : Code} {H : Heap} {locs : List Loc} {cells slots : Nat} {Q : State → Prop}
variable {pc : Nat} {ls : Array Slot} {rest st0 : List Value} {a : Array Value} {w : zWC} {r : Option Value} {σ' : zSt}
theorem z_after (hr : va_Run p l e R s m args below meth c H locs cells slots 0 0 (F0 m pc ls st0) rest (zQc w r σ' a) (zA w)) (hS : va_S (zA w) s.heap H locs)
    (kk : ∀ (H1 : Heap) (locs1 : List Loc), va_P (zD w) vwCl (zW w σ') H1 → va_S (zA w) s.heap H1 locs1 → W p l e R s m args below meth c H1 locs1 cells slots Q (F0 m (pc + 3) ls (r.toList ++ rest))) : W p l e R s m args below meth c H locs cells slots Q (F0 m pc ls st0) := by
  intro T hT X
  obtain ⟨v, st₀, t, T', L, h0, X', hL, e1, e2, ⟨hv, hp, hz, hk⟩, st⟩ := hr T hT X
  cases hv
  rw [h0] at hz hk
  obtain ⟨t2, a1, b1⟩ := kk T'.heap (locs ++ L) (by rw [e1]; exact hp)
    ⟨Nat.le_trans hS.1 (by rw [e1]; exact hz), fun q h1 h2 => by rw [e1, hk q (Nat.lt_of_lt_of_le h1 hS.1) h2]; exact hS.2.1 q h1 h2, fun q hq => by
      rcases List.mem_append.mp hq with h | h
      · exact hS.2.2 q h
      · exact hL q h⟩ T' rfl X'
  exact ⟨t2, st t2 a1, b1⟩
end ZA
theorem z_blind {w : zWC} {σ : zSt} {av : List Value} : FrameBlind (va_Pc av (zPic w σ)) := by
  intro a U g mk h
  obtain ⟨h1, h2, h3, h4⟩ := h
  exact ⟨h1, h2, h3.same rfl, zS3.moved (u := U) (U := U.calling g mk a) (Vm.Alike.refl U.vm) h4⟩
theorem z_pre {w : zWC} {σ : zSt} {s : State} {H : Heap} {locs : List Loc} (hP : va_P (zD w) vwCl (zW w σ) H) (hK : zK w s) (h3 : zS3 w s s.heap) (hS : va_S (zA w) s.heap H locs) (U : State) (hU : U.heap = H) (hW : s.WarmedH U.vm) : zPic w σ U := ⟨by rw [hU]; exact hP, hK.warm hW, by rw [hU]; exact (h3.moved hW.alike).kept hS.2.1⟩
/-- what a call of a method links -/
def zMV (own : String) (idx : Nat) (C : String) (y : MethodName) (cc : ByteArray) (nL : Nat) (ret : Option FieldType) (n : Nat) : Prop := Cond.methodLink own idx y ∈ ztb ∧ Cond.instanceMethod y ∈ ztb ∧ Cond.selects C y y ∈ ztb ∧ Cond.initialized C ∈ ztb ∧ Cond.code y cc nL ret ∈ ztb ∧ (y.cls = C ∧ y.cls ≠ "java/lang/invoke/MethodHandle" ∧ y.cls ≠ "java/lang/invoke/VarHandle" ∧ (parseMethodDescriptor y.desc).map (fun d => d.parameters.length) = some n) ∧ nL ≤ 45
def zMS (own : String) (idx : Nat) (y : MethodName) (cc : ByteArray) (nL : Nat) (ret : Option FieldType) (n : Nat) : Prop := Cond.methodLink own idx y ∈ ztb ∧ Cond.static y ∈ ztb ∧ Cond.initialized y.cls ∈ ztb ∧ Cond.code y cc nL ret ∈ ztb ∧ (y.cls ≠ "java/lang/invoke/MethodHandle" ∧ y.cls ≠ "java/lang/invoke/VarHandle" ∧ (parseMethodDescriptor y.desc).map (fun d => d.parameters.length) = some n) ∧ nL ≤ 45
def zMN (own : String) (idx : Nat) (host : String) (y : MethodName) (cc : ByteArray) (nL : Nat) (ret : Option FieldType) (n : Nat) : Prop := (own, idx, y, host) ∈ zNM ∧ Cond.static y ∈ ztb ∧ Cond.initialized y.cls ∈ ztb ∧ Cond.code y cc nL ret ∈ ztb ∧ (y.cls ≠ "java/lang/invoke/MethodHandle" ∧ y.cls ≠ "java/lang/invoke/VarHandle" ∧ (parseMethodDescriptor y.desc).map (fun d => d.parameters.length) = some n) ∧ nL ≤ 45
theorem z_goodws {y : MethodName} {cc : ByteArray} {nL : Nat} {ret : Option FieldType} (h : Cond.code y cc nL ret ∈ ztb) : GoodIn ztb (zws y cc nL ret) := by
  intro q hq
  rcases List.mem_cons.mp hq with rfl | hq
  · exact ⟨h, ztb_good h⟩
  · exact ⟨hq, ztb_good hq⟩
section ZC
variable {α β : Type} {Qf : α → State → Prop} {w : zWC} {x : zCX} {own : String} {cc : ByteArray} {nL lev : Nat} {pc : Nat} {lv : List (Option Value)} {st : List Value} {σ σ1 : zSt}
variable {idx n' np : Nat} {y : MethodName} {cc' : ByteArray} {nL' : Nat} {ret' : Option FieldType} {As : List Value} {stk : List Value} {r : Option Value}
/-- a call of an instance method -/
theorem z_callV {C host : String} {ci o : Nat} {a : α} (hM : zMV own idx C y cc' nL' ret' np) (hC : zCn w n' y cc' nL' ret' (.ref (zb w + o) :: As) σ r σ1) (ho : zC o = ci) (hci : (vwCl[ci]?).map (fun q => q.1) = some C) (hlev : n' + 1 ≤ lev) (hnp : As.length = np) (hst : stk = As.reverse ++ .ref (zb w + o) :: st) (hcat : (st.map fun v => v.category).sum ≤ 8) (d : decode cc pc = .ok (.invokevirtual idx, 3))
    (ok : zOK w x own cc nL lev) {ls : Array Slot} {H : Heap} {locs : List Loc} (hl : zlv ls nL lv) (hP : va_P (zD w) vwCl (zW w σ) H) (hS : va_S (zA w) (xs x).heap H locs)
    (kk : ∀ (H1 : Heap) (locs1 : List Loc), va_P (zD w) vwCl (zW w σ1) H1 → va_S (zA w) (xs x).heap H1 locs1 → W (xp x) (zl w) (xe x) (xR x) (xs x) (xm x) (xa x) (xb x) (xme x) (xc x) H1 locs1 (xce x) (xsl x) (Qf a) (F0 (xm x) (pc + 3) ls (r.toList ++ st))) : W (xp x) (zl w) (xe x) (xR x) (xs x) (xm x) (xa x) (xb x) (xme x) (xc x) H locs (xce x) (xsl x) (Qf a) (F0 (xm x) pc ls stk) := by
  obtain ⟨m1, m2, m3, m4, m5, m6, m7⟩ := hM
  obtain ⟨hx, hb, hml, hown, hts, hK, h3, hrm, hcs, hlk⟩ := ok
  subst hst
  have hci10 : ci < 10 := by
    rcases Nat.lt_or_ge ci 10 with h | h
    · exact h
    · rw [List.getElem?_eq_none (by simpa [vwCl] using h)] at hci; cases hci
  have hcell := zcell (w := w) (σ := σ) ho (by omega)
  rw [zE_O ho hci10] at hcell
  cases hq : vwCl[ci]? with
  | none => rw [hq] at hci; cases hci
  | some q =>
    rw [hq] at hci
    obtain rfl : q.1 = C := Option.some.inj hci
    refine z_after (va_runV (As := As) (rest := st) (mc := 0) (ms := 0) (n := np) ⟨hx, hb, hml, hown, hts⟩ hC (cwV np hts ?_ rfl rfl rfl m6 ⟨?_, ?_⟩) ⟨z_blind, va_recv hK.1 hP hq hcell, fun U hU hW => ⟨rfl, z_pre hP hK h3 hS U hU hW⟩⟩ rfl hnp hl.1 rfl (lv_room hcat) d ⟨by show xce x + 0 ≤ _; omega, by show xsl x + 0 ≤ _; omega⟩) hS kk
    · intro q' hq'
      unfold wsV at hq'
      rcases List.mem_append.mp hq' with h | h
      · have hz : q' ∈ ztb := by
          simp only [List.mem_cons, List.not_mem_nil, or_false] at h
          rcases h with rfl | rfl | rfl | rfl
          · exact m1
          · exact m2
          · exact m3
          · exact m4
        exact ⟨hz, ztb_good hz⟩
      · exact z_goodws m5 q' h
    · show n' + 1 ≤ _; omega
    · show 8 + (nL' + 11) + 64 * n' ≤ _; omega
theorem z_callS {a : α} (hM : zMS own idx y cc' nL' ret' np) (hC : zCn w n' y cc' nL' ret' As σ r σ1) (hlev : n' + 1 ≤ lev) (hnp : As.length = np) (hst : stk = As.reverse ++ st) (hcat : (st.map fun v => v.category).sum ≤ 8) (d : decode cc pc = .ok (.invokestatic idx, 3))
    (ok : zOK w x own cc nL lev) {ls : Array Slot} {H : Heap} {locs : List Loc} (hl : zlv ls nL lv) (hP : va_P (zD w) vwCl (zW w σ) H) (hS : va_S (zA w) (xs x).heap H locs)
    (kk : ∀ (H1 : Heap) (locs1 : List Loc), va_P (zD w) vwCl (zW w σ1) H1 → va_S (zA w) (xs x).heap H1 locs1 → W (xp x) (zl w) (xe x) (xR x) (xs x) (xm x) (xa x) (xb x) (xme x) (xc x) H1 locs1 (xce x) (xsl x) (Qf a) (F0 (xm x) (pc + 3) ls (r.toList ++ st))) : W (xp x) (zl w) (xe x) (xR x) (xs x) (xm x) (xa x) (xb x) (xme x) (xc x) H locs (xce x) (xsl x) (Qf a) (F0 (xm x) pc ls stk) := by
  obtain ⟨m1, m2, m3, m4, m5, m6⟩ := hM
  obtain ⟨hx, hb, hml, hown, hts, hK, h3, hrm, hcs, hlk⟩ := ok
  subst hst
  refine z_after (va_runS (As := As) (rest := st) (mc := 0) (ms := 0) (n := np) ⟨hx, hb, hml, hown, hts⟩ hC (va_cwS np hts ?_ rfl rfl rfl m5 ⟨?_, ?_⟩) ⟨z_blind, fun U hU hW => ⟨rfl, z_pre hP hK h3 hS U hU hW⟩⟩ rfl hnp hl.1 rfl (lv_room hcat) d ⟨by show xce x + 0 ≤ _; omega, by show xsl x + 0 ≤ _; omega⟩) hS kk
  · intro q' hq'
    unfold va_wsS at hq'
    rcases List.mem_append.mp hq' with h | h
    · have hz : q' ∈ ztb := by
        simp only [List.mem_cons, List.not_mem_nil, or_false] at h
        rcases h with rfl | rfl | rfl
        · exact m1
        · exact m2
        · exact m3
      exact ⟨hz, ztb_good hz⟩
    · exact z_goodws m4 q' h
  · show n' + 1 ≤ _; omega
  · show 8 + (nL' + 11) + 64 * n' ≤ _; omega
theorem z_callN {host : String} {a : α} (hM : zMN own idx host y cc' nL' ret' np) (hC : zCn w n' y cc' nL' ret' As σ r σ1) (hlev : n' + 1 ≤ lev) (hnp : As.length = np) (hst : stk = As.reverse ++ st) (hcat : (st.map fun v => v.category).sum ≤ 8) (d : decode cc pc = .ok (.invokestatic idx, 3))
    (ok : zOK w x own cc nL lev) {ls : Array Slot} {H : Heap} {locs : List Loc} (hl : zlv ls nL lv) (hP : va_P (zD w) vwCl (zW w σ) H) (hS : va_S (zA w) (xs x).heap H locs)
    (kk : ∀ (H1 : Heap) (locs1 : List Loc), va_P (zD w) vwCl (zW w σ1) H1 → va_S (zA w) (xs x).heap H1 locs1 → W (xp x) (zl w) (xe x) (xR x) (xs x) (xm x) (xa x) (xb x) (xme x) (xc x) H1 locs1 (xce x) (xsl x) (Qf a) (F0 (xm x) (pc + 3) ls (r.toList ++ st))) : W (xp x) (zl w) (xe x) (xR x) (xs x) (xm x) (xa x) (xb x) (xme x) (xc x) H locs (xce x) (xsl x) (Qf a) (F0 (xm x) pc ls stk) := by
  obtain ⟨m1, m2, m3, m4, m5, m6⟩ := hM
  obtain ⟨hx, hb, hml, hown, hts, hK, h3, hrm, hcs, hlk⟩ := ok
  subst hst
  refine z_after (va_runSN (As := As) (rest := st) (mc := 0) (ms := 0) (n := np) (host := host) ⟨hx, hb, hml, hown, hts⟩ hC ⟨va_cnB np hts (z_goodws m4) rfl rfl rfl (hK.2.1 _ m1) (hts _ m3) m5 ⟨?_, ?_⟩, hts _ m2, trivial⟩ ⟨z_blind, fun U hU hW => ⟨rfl, z_pre hP hK h3 hS U hU hW⟩⟩ rfl hnp hl.1 rfl (lv_room hcat) d ⟨by show xce x + 0 ≤ _; omega, by show xsl x + 0 ≤ _; omega⟩) hS kk
  · show n' + 1 ≤ _; omega
  · show 8 + (nL' + 11) + 64 * n' ≤ _; omega
theorem zj_cVI0 {C : String} {ci o : Nat} {mc : Option (Int32 × zSt)} {f : Int32 → zSt → Option α} (hM : zMV own idx C y cc' nL' ret' 0) (hC : ∀ a, mc = some a → zCn w n' y cc' nL' ret' (.ref (zb w + o) :: []) σ (some (.int a.1)) a.2) (ho : zC o = ci) (hci : (vwCl[ci]?).map (fun q => q.1) = some C) (hlev : n' + 1 ≤ lev) (hcat : (st.map fun v => v.category).sum ≤ 8) (d : decode cc pc = .ok (.invokevirtual idx, 3)) (kk : ∀ r1 σ1, zJ Qf w x own cc nL lev (f r1 σ1) (pc + 3) lv (.int r1 :: st) σ1) : zJ Qf w x own cc nL lev (zcl mc f) pc lv (.ref (zb w + o) :: st) σ := by
  intro a0 hm ok ls H locs hl hP hS
  cases hb1 : mc with
  | none => rw [hb1] at hm; cases hm
  | some b1 =>
    rw [hb1] at hm
    exact z_callV (host := C) hM (hC b1 hb1) ho hci hlev rfl rfl hcat d ok hl hP hS (fun H1 locs1 hP1 hS1 => kk b1.1 b1.2 a0 hm ok ls H1 locs1 hl hP1 hS1)
theorem zj_cVI1 {C : String} {ci o : Nat} {v1 : Value} {mc : Option (Int32 × zSt)} {f : Int32 → zSt → Option α} (hM : zMV own idx C y cc' nL' ret' 1) (hC : ∀ a, mc = some a → zCn w n' y cc' nL' ret' (.ref (zb w + o) :: [v1]) σ (some (.int a.1)) a.2) (ho : zC o = ci) (hci : (vwCl[ci]?).map (fun q => q.1) = some C) (hlev : n' + 1 ≤ lev) (hcat : (st.map fun v => v.category).sum ≤ 8) (d : decode cc pc = .ok (.invokevirtual idx, 3)) (kk : ∀ r1 σ1, zJ Qf w x own cc nL lev (f r1 σ1) (pc + 3) lv (.int r1 :: st) σ1) : zJ Qf w x own cc nL lev (zcl mc f) pc lv (v1 :: .ref (zb w + o) :: st) σ := by
  intro a0 hm ok ls H locs hl hP hS
  cases hb1 : mc with
  | none => rw [hb1] at hm; cases hm
  | some b1 =>
    rw [hb1] at hm
    exact z_callV (host := C) hM (hC b1 hb1) ho hci hlev rfl rfl hcat d ok hl hP hS (fun H1 locs1 hP1 hS1 => kk b1.1 b1.2 a0 hm ok ls H1 locs1 hl hP1 hS1)
theorem zj_cVI2 {C : String} {ci o : Nat} {v1 v2 : Value} {mc : Option (Int32 × zSt)} {f : Int32 → zSt → Option α} (hM : zMV own idx C y cc' nL' ret' 2) (hC : ∀ a, mc = some a → zCn w n' y cc' nL' ret' (.ref (zb w + o) :: [v1, v2]) σ (some (.int a.1)) a.2) (ho : zC o = ci) (hci : (vwCl[ci]?).map (fun q => q.1) = some C) (hlev : n' + 1 ≤ lev) (hcat : (st.map fun v => v.category).sum ≤ 8) (d : decode cc pc = .ok (.invokevirtual idx, 3)) (kk : ∀ r1 σ1, zJ Qf w x own cc nL lev (f r1 σ1) (pc + 3) lv (.int r1 :: st) σ1) : zJ Qf w x own cc nL lev (zcl mc f) pc lv (v2 :: v1 :: .ref (zb w + o) :: st) σ := by
  intro a0 hm ok ls H locs hl hP hS
  cases hb1 : mc with
  | none => rw [hb1] at hm; cases hm
  | some b1 =>
    rw [hb1] at hm
    exact z_callV (host := C) hM (hC b1 hb1) ho hci hlev rfl rfl hcat d ok hl hP hS (fun H1 locs1 hP1 hS1 => kk b1.1 b1.2 a0 hm ok ls H1 locs1 hl hP1 hS1)
theorem zj_cVI3 {C : String} {ci o : Nat} {v1 v2 v3 : Value} {mc : Option (Int32 × zSt)} {f : Int32 → zSt → Option α} (hM : zMV own idx C y cc' nL' ret' 3) (hC : ∀ a, mc = some a → zCn w n' y cc' nL' ret' (.ref (zb w + o) :: [v1, v2, v3]) σ (some (.int a.1)) a.2) (ho : zC o = ci) (hci : (vwCl[ci]?).map (fun q => q.1) = some C) (hlev : n' + 1 ≤ lev) (hcat : (st.map fun v => v.category).sum ≤ 8) (d : decode cc pc = .ok (.invokevirtual idx, 3)) (kk : ∀ r1 σ1, zJ Qf w x own cc nL lev (f r1 σ1) (pc + 3) lv (.int r1 :: st) σ1) : zJ Qf w x own cc nL lev (zcl mc f) pc lv (v3 :: v2 :: v1 :: .ref (zb w + o) :: st) σ := by
  intro a0 hm ok ls H locs hl hP hS
  cases hb1 : mc with
  | none => rw [hb1] at hm; cases hm
  | some b1 =>
    rw [hb1] at hm
    exact z_callV (host := C) hM (hC b1 hb1) ho hci hlev rfl rfl hcat d ok hl hP hS (fun H1 locs1 hP1 hS1 => kk b1.1 b1.2 a0 hm ok ls H1 locs1 hl hP1 hS1)
theorem zj_cVI4 {C : String} {ci o : Nat} {v1 v2 v3 v4 : Value} {mc : Option (Int32 × zSt)} {f : Int32 → zSt → Option α} (hM : zMV own idx C y cc' nL' ret' 4) (hC : ∀ a, mc = some a → zCn w n' y cc' nL' ret' (.ref (zb w + o) :: [v1, v2, v3, v4]) σ (some (.int a.1)) a.2) (ho : zC o = ci) (hci : (vwCl[ci]?).map (fun q => q.1) = some C) (hlev : n' + 1 ≤ lev) (hcat : (st.map fun v => v.category).sum ≤ 8) (d : decode cc pc = .ok (.invokevirtual idx, 3)) (kk : ∀ r1 σ1, zJ Qf w x own cc nL lev (f r1 σ1) (pc + 3) lv (.int r1 :: st) σ1) : zJ Qf w x own cc nL lev (zcl mc f) pc lv (v4 :: v3 :: v2 :: v1 :: .ref (zb w + o) :: st) σ := by
  intro a0 hm ok ls H locs hl hP hS
  cases hb1 : mc with
  | none => rw [hb1] at hm; cases hm
  | some b1 =>
    rw [hb1] at hm
    exact z_callV (host := C) hM (hC b1 hb1) ho hci hlev rfl rfl hcat d ok hl hP hS (fun H1 locs1 hP1 hS1 => kk b1.1 b1.2 a0 hm ok ls H1 locs1 hl hP1 hS1)
theorem zj_cVI5 {C : String} {ci o : Nat} {v1 v2 v3 v4 v5 : Value} {mc : Option (Int32 × zSt)} {f : Int32 → zSt → Option α} (hM : zMV own idx C y cc' nL' ret' 5) (hC : ∀ a, mc = some a → zCn w n' y cc' nL' ret' (.ref (zb w + o) :: [v1, v2, v3, v4, v5]) σ (some (.int a.1)) a.2) (ho : zC o = ci) (hci : (vwCl[ci]?).map (fun q => q.1) = some C) (hlev : n' + 1 ≤ lev) (hcat : (st.map fun v => v.category).sum ≤ 8) (d : decode cc pc = .ok (.invokevirtual idx, 3)) (kk : ∀ r1 σ1, zJ Qf w x own cc nL lev (f r1 σ1) (pc + 3) lv (.int r1 :: st) σ1) : zJ Qf w x own cc nL lev (zcl mc f) pc lv (v5 :: v4 :: v3 :: v2 :: v1 :: .ref (zb w + o) :: st) σ := by
  intro a0 hm ok ls H locs hl hP hS
  cases hb1 : mc with
  | none => rw [hb1] at hm; cases hm
  | some b1 =>
    rw [hb1] at hm
    exact z_callV (host := C) hM (hC b1 hb1) ho hci hlev rfl rfl hcat d ok hl hP hS (fun H1 locs1 hP1 hS1 => kk b1.1 b1.2 a0 hm ok ls H1 locs1 hl hP1 hS1)
theorem zj_cVI6 {C : String} {ci o : Nat} {v1 v2 v3 v4 v5 v6 : Value} {mc : Option (Int32 × zSt)} {f : Int32 → zSt → Option α} (hM : zMV own idx C y cc' nL' ret' 6) (hC : ∀ a, mc = some a → zCn w n' y cc' nL' ret' (.ref (zb w + o) :: [v1, v2, v3, v4, v5, v6]) σ (some (.int a.1)) a.2) (ho : zC o = ci) (hci : (vwCl[ci]?).map (fun q => q.1) = some C) (hlev : n' + 1 ≤ lev) (hcat : (st.map fun v => v.category).sum ≤ 8) (d : decode cc pc = .ok (.invokevirtual idx, 3)) (kk : ∀ r1 σ1, zJ Qf w x own cc nL lev (f r1 σ1) (pc + 3) lv (.int r1 :: st) σ1) : zJ Qf w x own cc nL lev (zcl mc f) pc lv (v6 :: v5 :: v4 :: v3 :: v2 :: v1 :: .ref (zb w + o) :: st) σ := by
  intro a0 hm ok ls H locs hl hP hS
  cases hb1 : mc with
  | none => rw [hb1] at hm; cases hm
  | some b1 =>
    rw [hb1] at hm
    exact z_callV (host := C) hM (hC b1 hb1) ho hci hlev rfl rfl hcat d ok hl hP hS (fun H1 locs1 hP1 hS1 => kk b1.1 b1.2 a0 hm ok ls H1 locs1 hl hP1 hS1)
theorem zj_cVL0 {C : String} {ci o : Nat} {mc : Option (Int64 × zSt)} {f : Int64 → zSt → Option α} (hM : zMV own idx C y cc' nL' ret' 0) (hC : ∀ a, mc = some a → zCn w n' y cc' nL' ret' (.ref (zb w + o) :: []) σ (some (.long a.1)) a.2) (ho : zC o = ci) (hci : (vwCl[ci]?).map (fun q => q.1) = some C) (hlev : n' + 1 ≤ lev) (hcat : (st.map fun v => v.category).sum ≤ 8) (d : decode cc pc = .ok (.invokevirtual idx, 3)) (kk : ∀ r1 σ1, zJ Qf w x own cc nL lev (f r1 σ1) (pc + 3) lv (.long r1 :: st) σ1) : zJ Qf w x own cc nL lev (zcl mc f) pc lv (.ref (zb w + o) :: st) σ := by
  intro a0 hm ok ls H locs hl hP hS
  cases hb1 : mc with
  | none => rw [hb1] at hm; cases hm
  | some b1 =>
    rw [hb1] at hm
    exact z_callV (host := C) hM (hC b1 hb1) ho hci hlev rfl rfl hcat d ok hl hP hS (fun H1 locs1 hP1 hS1 => kk b1.1 b1.2 a0 hm ok ls H1 locs1 hl hP1 hS1)
theorem zj_cVL1 {C : String} {ci o : Nat} {v1 : Value} {mc : Option (Int64 × zSt)} {f : Int64 → zSt → Option α} (hM : zMV own idx C y cc' nL' ret' 1) (hC : ∀ a, mc = some a → zCn w n' y cc' nL' ret' (.ref (zb w + o) :: [v1]) σ (some (.long a.1)) a.2) (ho : zC o = ci) (hci : (vwCl[ci]?).map (fun q => q.1) = some C) (hlev : n' + 1 ≤ lev) (hcat : (st.map fun v => v.category).sum ≤ 8) (d : decode cc pc = .ok (.invokevirtual idx, 3)) (kk : ∀ r1 σ1, zJ Qf w x own cc nL lev (f r1 σ1) (pc + 3) lv (.long r1 :: st) σ1) : zJ Qf w x own cc nL lev (zcl mc f) pc lv (v1 :: .ref (zb w + o) :: st) σ := by
  intro a0 hm ok ls H locs hl hP hS
  cases hb1 : mc with
  | none => rw [hb1] at hm; cases hm
  | some b1 =>
    rw [hb1] at hm
    exact z_callV (host := C) hM (hC b1 hb1) ho hci hlev rfl rfl hcat d ok hl hP hS (fun H1 locs1 hP1 hS1 => kk b1.1 b1.2 a0 hm ok ls H1 locs1 hl hP1 hS1)
theorem zj_cVL2 {C : String} {ci o : Nat} {v1 v2 : Value} {mc : Option (Int64 × zSt)} {f : Int64 → zSt → Option α} (hM : zMV own idx C y cc' nL' ret' 2) (hC : ∀ a, mc = some a → zCn w n' y cc' nL' ret' (.ref (zb w + o) :: [v1, v2]) σ (some (.long a.1)) a.2) (ho : zC o = ci) (hci : (vwCl[ci]?).map (fun q => q.1) = some C) (hlev : n' + 1 ≤ lev) (hcat : (st.map fun v => v.category).sum ≤ 8) (d : decode cc pc = .ok (.invokevirtual idx, 3)) (kk : ∀ r1 σ1, zJ Qf w x own cc nL lev (f r1 σ1) (pc + 3) lv (.long r1 :: st) σ1) : zJ Qf w x own cc nL lev (zcl mc f) pc lv (v2 :: v1 :: .ref (zb w + o) :: st) σ := by
  intro a0 hm ok ls H locs hl hP hS
  cases hb1 : mc with
  | none => rw [hb1] at hm; cases hm
  | some b1 =>
    rw [hb1] at hm
    exact z_callV (host := C) hM (hC b1 hb1) ho hci hlev rfl rfl hcat d ok hl hP hS (fun H1 locs1 hP1 hS1 => kk b1.1 b1.2 a0 hm ok ls H1 locs1 hl hP1 hS1)
theorem zj_cVL3 {C : String} {ci o : Nat} {v1 v2 v3 : Value} {mc : Option (Int64 × zSt)} {f : Int64 → zSt → Option α} (hM : zMV own idx C y cc' nL' ret' 3) (hC : ∀ a, mc = some a → zCn w n' y cc' nL' ret' (.ref (zb w + o) :: [v1, v2, v3]) σ (some (.long a.1)) a.2) (ho : zC o = ci) (hci : (vwCl[ci]?).map (fun q => q.1) = some C) (hlev : n' + 1 ≤ lev) (hcat : (st.map fun v => v.category).sum ≤ 8) (d : decode cc pc = .ok (.invokevirtual idx, 3)) (kk : ∀ r1 σ1, zJ Qf w x own cc nL lev (f r1 σ1) (pc + 3) lv (.long r1 :: st) σ1) : zJ Qf w x own cc nL lev (zcl mc f) pc lv (v3 :: v2 :: v1 :: .ref (zb w + o) :: st) σ := by
  intro a0 hm ok ls H locs hl hP hS
  cases hb1 : mc with
  | none => rw [hb1] at hm; cases hm
  | some b1 =>
    rw [hb1] at hm
    exact z_callV (host := C) hM (hC b1 hb1) ho hci hlev rfl rfl hcat d ok hl hP hS (fun H1 locs1 hP1 hS1 => kk b1.1 b1.2 a0 hm ok ls H1 locs1 hl hP1 hS1)
theorem zj_cVL4 {C : String} {ci o : Nat} {v1 v2 v3 v4 : Value} {mc : Option (Int64 × zSt)} {f : Int64 → zSt → Option α} (hM : zMV own idx C y cc' nL' ret' 4) (hC : ∀ a, mc = some a → zCn w n' y cc' nL' ret' (.ref (zb w + o) :: [v1, v2, v3, v4]) σ (some (.long a.1)) a.2) (ho : zC o = ci) (hci : (vwCl[ci]?).map (fun q => q.1) = some C) (hlev : n' + 1 ≤ lev) (hcat : (st.map fun v => v.category).sum ≤ 8) (d : decode cc pc = .ok (.invokevirtual idx, 3)) (kk : ∀ r1 σ1, zJ Qf w x own cc nL lev (f r1 σ1) (pc + 3) lv (.long r1 :: st) σ1) : zJ Qf w x own cc nL lev (zcl mc f) pc lv (v4 :: v3 :: v2 :: v1 :: .ref (zb w + o) :: st) σ := by
  intro a0 hm ok ls H locs hl hP hS
  cases hb1 : mc with
  | none => rw [hb1] at hm; cases hm
  | some b1 =>
    rw [hb1] at hm
    exact z_callV (host := C) hM (hC b1 hb1) ho hci hlev rfl rfl hcat d ok hl hP hS (fun H1 locs1 hP1 hS1 => kk b1.1 b1.2 a0 hm ok ls H1 locs1 hl hP1 hS1)
theorem zj_cVL5 {C : String} {ci o : Nat} {v1 v2 v3 v4 v5 : Value} {mc : Option (Int64 × zSt)} {f : Int64 → zSt → Option α} (hM : zMV own idx C y cc' nL' ret' 5) (hC : ∀ a, mc = some a → zCn w n' y cc' nL' ret' (.ref (zb w + o) :: [v1, v2, v3, v4, v5]) σ (some (.long a.1)) a.2) (ho : zC o = ci) (hci : (vwCl[ci]?).map (fun q => q.1) = some C) (hlev : n' + 1 ≤ lev) (hcat : (st.map fun v => v.category).sum ≤ 8) (d : decode cc pc = .ok (.invokevirtual idx, 3)) (kk : ∀ r1 σ1, zJ Qf w x own cc nL lev (f r1 σ1) (pc + 3) lv (.long r1 :: st) σ1) : zJ Qf w x own cc nL lev (zcl mc f) pc lv (v5 :: v4 :: v3 :: v2 :: v1 :: .ref (zb w + o) :: st) σ := by
  intro a0 hm ok ls H locs hl hP hS
  cases hb1 : mc with
  | none => rw [hb1] at hm; cases hm
  | some b1 =>
    rw [hb1] at hm
    exact z_callV (host := C) hM (hC b1 hb1) ho hci hlev rfl rfl hcat d ok hl hP hS (fun H1 locs1 hP1 hS1 => kk b1.1 b1.2 a0 hm ok ls H1 locs1 hl hP1 hS1)
theorem zj_cVL6 {C : String} {ci o : Nat} {v1 v2 v3 v4 v5 v6 : Value} {mc : Option (Int64 × zSt)} {f : Int64 → zSt → Option α} (hM : zMV own idx C y cc' nL' ret' 6) (hC : ∀ a, mc = some a → zCn w n' y cc' nL' ret' (.ref (zb w + o) :: [v1, v2, v3, v4, v5, v6]) σ (some (.long a.1)) a.2) (ho : zC o = ci) (hci : (vwCl[ci]?).map (fun q => q.1) = some C) (hlev : n' + 1 ≤ lev) (hcat : (st.map fun v => v.category).sum ≤ 8) (d : decode cc pc = .ok (.invokevirtual idx, 3)) (kk : ∀ r1 σ1, zJ Qf w x own cc nL lev (f r1 σ1) (pc + 3) lv (.long r1 :: st) σ1) : zJ Qf w x own cc nL lev (zcl mc f) pc lv (v6 :: v5 :: v4 :: v3 :: v2 :: v1 :: .ref (zb w + o) :: st) σ := by
  intro a0 hm ok ls H locs hl hP hS
  cases hb1 : mc with
  | none => rw [hb1] at hm; cases hm
  | some b1 =>
    rw [hb1] at hm
    exact z_callV (host := C) hM (hC b1 hb1) ho hci hlev rfl rfl hcat d ok hl hP hS (fun H1 locs1 hP1 hS1 => kk b1.1 b1.2 a0 hm ok ls H1 locs1 hl hP1 hS1)
theorem zj_cVV0 {C : String} {ci o : Nat} {mc : Option zSt} {f : zSt → Option α} (hM : zMV own idx C y cc' nL' ret' 0) (hC : ∀ a, mc = some a → zCn w n' y cc' nL' ret' (.ref (zb w + o) :: []) σ none a) (ho : zC o = ci) (hci : (vwCl[ci]?).map (fun q => q.1) = some C) (hlev : n' + 1 ≤ lev) (hcat : (st.map fun v => v.category).sum ≤ 8) (d : decode cc pc = .ok (.invokevirtual idx, 3)) (kk : ∀ σ1, zJ Qf w x own cc nL lev (f σ1) (pc + 3) lv st σ1) : zJ Qf w x own cc nL lev (zcv mc f) pc lv (.ref (zb w + o) :: st) σ := by
  intro a0 hm ok ls H locs hl hP hS
  cases hb1 : mc with
  | none => rw [hb1] at hm; cases hm
  | some b1 =>
    rw [hb1] at hm
    exact z_callV (host := C) hM (hC b1 hb1) ho hci hlev rfl rfl hcat d ok hl hP hS (fun H1 locs1 hP1 hS1 => kk b1 a0 hm ok ls H1 locs1 hl hP1 hS1)
theorem zj_cVV1 {C : String} {ci o : Nat} {v1 : Value} {mc : Option zSt} {f : zSt → Option α} (hM : zMV own idx C y cc' nL' ret' 1) (hC : ∀ a, mc = some a → zCn w n' y cc' nL' ret' (.ref (zb w + o) :: [v1]) σ none a) (ho : zC o = ci) (hci : (vwCl[ci]?).map (fun q => q.1) = some C) (hlev : n' + 1 ≤ lev) (hcat : (st.map fun v => v.category).sum ≤ 8) (d : decode cc pc = .ok (.invokevirtual idx, 3)) (kk : ∀ σ1, zJ Qf w x own cc nL lev (f σ1) (pc + 3) lv st σ1) : zJ Qf w x own cc nL lev (zcv mc f) pc lv (v1 :: .ref (zb w + o) :: st) σ := by
  intro a0 hm ok ls H locs hl hP hS
  cases hb1 : mc with
  | none => rw [hb1] at hm; cases hm
  | some b1 =>
    rw [hb1] at hm
    exact z_callV (host := C) hM (hC b1 hb1) ho hci hlev rfl rfl hcat d ok hl hP hS (fun H1 locs1 hP1 hS1 => kk b1 a0 hm ok ls H1 locs1 hl hP1 hS1)
theorem zj_cVV2 {C : String} {ci o : Nat} {v1 v2 : Value} {mc : Option zSt} {f : zSt → Option α} (hM : zMV own idx C y cc' nL' ret' 2) (hC : ∀ a, mc = some a → zCn w n' y cc' nL' ret' (.ref (zb w + o) :: [v1, v2]) σ none a) (ho : zC o = ci) (hci : (vwCl[ci]?).map (fun q => q.1) = some C) (hlev : n' + 1 ≤ lev) (hcat : (st.map fun v => v.category).sum ≤ 8) (d : decode cc pc = .ok (.invokevirtual idx, 3)) (kk : ∀ σ1, zJ Qf w x own cc nL lev (f σ1) (pc + 3) lv st σ1) : zJ Qf w x own cc nL lev (zcv mc f) pc lv (v2 :: v1 :: .ref (zb w + o) :: st) σ := by
  intro a0 hm ok ls H locs hl hP hS
  cases hb1 : mc with
  | none => rw [hb1] at hm; cases hm
  | some b1 =>
    rw [hb1] at hm
    exact z_callV (host := C) hM (hC b1 hb1) ho hci hlev rfl rfl hcat d ok hl hP hS (fun H1 locs1 hP1 hS1 => kk b1 a0 hm ok ls H1 locs1 hl hP1 hS1)
theorem zj_cVV3 {C : String} {ci o : Nat} {v1 v2 v3 : Value} {mc : Option zSt} {f : zSt → Option α} (hM : zMV own idx C y cc' nL' ret' 3) (hC : ∀ a, mc = some a → zCn w n' y cc' nL' ret' (.ref (zb w + o) :: [v1, v2, v3]) σ none a) (ho : zC o = ci) (hci : (vwCl[ci]?).map (fun q => q.1) = some C) (hlev : n' + 1 ≤ lev) (hcat : (st.map fun v => v.category).sum ≤ 8) (d : decode cc pc = .ok (.invokevirtual idx, 3)) (kk : ∀ σ1, zJ Qf w x own cc nL lev (f σ1) (pc + 3) lv st σ1) : zJ Qf w x own cc nL lev (zcv mc f) pc lv (v3 :: v2 :: v1 :: .ref (zb w + o) :: st) σ := by
  intro a0 hm ok ls H locs hl hP hS
  cases hb1 : mc with
  | none => rw [hb1] at hm; cases hm
  | some b1 =>
    rw [hb1] at hm
    exact z_callV (host := C) hM (hC b1 hb1) ho hci hlev rfl rfl hcat d ok hl hP hS (fun H1 locs1 hP1 hS1 => kk b1 a0 hm ok ls H1 locs1 hl hP1 hS1)
theorem zj_cVV4 {C : String} {ci o : Nat} {v1 v2 v3 v4 : Value} {mc : Option zSt} {f : zSt → Option α} (hM : zMV own idx C y cc' nL' ret' 4) (hC : ∀ a, mc = some a → zCn w n' y cc' nL' ret' (.ref (zb w + o) :: [v1, v2, v3, v4]) σ none a) (ho : zC o = ci) (hci : (vwCl[ci]?).map (fun q => q.1) = some C) (hlev : n' + 1 ≤ lev) (hcat : (st.map fun v => v.category).sum ≤ 8) (d : decode cc pc = .ok (.invokevirtual idx, 3)) (kk : ∀ σ1, zJ Qf w x own cc nL lev (f σ1) (pc + 3) lv st σ1) : zJ Qf w x own cc nL lev (zcv mc f) pc lv (v4 :: v3 :: v2 :: v1 :: .ref (zb w + o) :: st) σ := by
  intro a0 hm ok ls H locs hl hP hS
  cases hb1 : mc with
  | none => rw [hb1] at hm; cases hm
  | some b1 =>
    rw [hb1] at hm
    exact z_callV (host := C) hM (hC b1 hb1) ho hci hlev rfl rfl hcat d ok hl hP hS (fun H1 locs1 hP1 hS1 => kk b1 a0 hm ok ls H1 locs1 hl hP1 hS1)
theorem zj_cVV5 {C : String} {ci o : Nat} {v1 v2 v3 v4 v5 : Value} {mc : Option zSt} {f : zSt → Option α} (hM : zMV own idx C y cc' nL' ret' 5) (hC : ∀ a, mc = some a → zCn w n' y cc' nL' ret' (.ref (zb w + o) :: [v1, v2, v3, v4, v5]) σ none a) (ho : zC o = ci) (hci : (vwCl[ci]?).map (fun q => q.1) = some C) (hlev : n' + 1 ≤ lev) (hcat : (st.map fun v => v.category).sum ≤ 8) (d : decode cc pc = .ok (.invokevirtual idx, 3)) (kk : ∀ σ1, zJ Qf w x own cc nL lev (f σ1) (pc + 3) lv st σ1) : zJ Qf w x own cc nL lev (zcv mc f) pc lv (v5 :: v4 :: v3 :: v2 :: v1 :: .ref (zb w + o) :: st) σ := by
  intro a0 hm ok ls H locs hl hP hS
  cases hb1 : mc with
  | none => rw [hb1] at hm; cases hm
  | some b1 =>
    rw [hb1] at hm
    exact z_callV (host := C) hM (hC b1 hb1) ho hci hlev rfl rfl hcat d ok hl hP hS (fun H1 locs1 hP1 hS1 => kk b1 a0 hm ok ls H1 locs1 hl hP1 hS1)
theorem zj_cVV6 {C : String} {ci o : Nat} {v1 v2 v3 v4 v5 v6 : Value} {mc : Option zSt} {f : zSt → Option α} (hM : zMV own idx C y cc' nL' ret' 6) (hC : ∀ a, mc = some a → zCn w n' y cc' nL' ret' (.ref (zb w + o) :: [v1, v2, v3, v4, v5, v6]) σ none a) (ho : zC o = ci) (hci : (vwCl[ci]?).map (fun q => q.1) = some C) (hlev : n' + 1 ≤ lev) (hcat : (st.map fun v => v.category).sum ≤ 8) (d : decode cc pc = .ok (.invokevirtual idx, 3)) (kk : ∀ σ1, zJ Qf w x own cc nL lev (f σ1) (pc + 3) lv st σ1) : zJ Qf w x own cc nL lev (zcv mc f) pc lv (v6 :: v5 :: v4 :: v3 :: v2 :: v1 :: .ref (zb w + o) :: st) σ := by
  intro a0 hm ok ls H locs hl hP hS
  cases hb1 : mc with
  | none => rw [hb1] at hm; cases hm
  | some b1 =>
    rw [hb1] at hm
    exact z_callV (host := C) hM (hC b1 hb1) ho hci hlev rfl rfl hcat d ok hl hP hS (fun H1 locs1 hP1 hS1 => kk b1 a0 hm ok ls H1 locs1 hl hP1 hS1)
theorem zj_cSI0 {mc : Option (Int32 × zSt)} {f : Int32 → zSt → Option α} (hM : zMS own idx y cc' nL' ret' 0) (hC : ∀ a, mc = some a → zCn w n' y cc' nL' ret' [] σ (some (.int a.1)) a.2) (hlev : n' + 1 ≤ lev) (hcat : (st.map fun v => v.category).sum ≤ 8) (d : decode cc pc = .ok (.invokestatic idx, 3)) (kk : ∀ r1 σ1, zJ Qf w x own cc nL lev (f r1 σ1) (pc + 3) lv (.int r1 :: st) σ1) : zJ Qf w x own cc nL lev (zcl mc f) pc lv (st) σ := by
  intro a0 hm ok ls H locs hl hP hS
  cases hb1 : mc with
  | none => rw [hb1] at hm; cases hm
  | some b1 =>
    rw [hb1] at hm
    exact z_callS hM (hC b1 hb1) hlev rfl rfl hcat d ok hl hP hS (fun H1 locs1 hP1 hS1 => kk b1.1 b1.2 a0 hm ok ls H1 locs1 hl hP1 hS1)
theorem zj_cSI1 {v1 : Value} {mc : Option (Int32 × zSt)} {f : Int32 → zSt → Option α} (hM : zMS own idx y cc' nL' ret' 1) (hC : ∀ a, mc = some a → zCn w n' y cc' nL' ret' [v1] σ (some (.int a.1)) a.2) (hlev : n' + 1 ≤ lev) (hcat : (st.map fun v => v.category).sum ≤ 8) (d : decode cc pc = .ok (.invokestatic idx, 3)) (kk : ∀ r1 σ1, zJ Qf w x own cc nL lev (f r1 σ1) (pc + 3) lv (.int r1 :: st) σ1) : zJ Qf w x own cc nL lev (zcl mc f) pc lv (v1 :: st) σ := by
  intro a0 hm ok ls H locs hl hP hS
  cases hb1 : mc with
  | none => rw [hb1] at hm; cases hm
  | some b1 =>
    rw [hb1] at hm
    exact z_callS hM (hC b1 hb1) hlev rfl rfl hcat d ok hl hP hS (fun H1 locs1 hP1 hS1 => kk b1.1 b1.2 a0 hm ok ls H1 locs1 hl hP1 hS1)
theorem zj_cSI2 {v1 v2 : Value} {mc : Option (Int32 × zSt)} {f : Int32 → zSt → Option α} (hM : zMS own idx y cc' nL' ret' 2) (hC : ∀ a, mc = some a → zCn w n' y cc' nL' ret' [v1, v2] σ (some (.int a.1)) a.2) (hlev : n' + 1 ≤ lev) (hcat : (st.map fun v => v.category).sum ≤ 8) (d : decode cc pc = .ok (.invokestatic idx, 3)) (kk : ∀ r1 σ1, zJ Qf w x own cc nL lev (f r1 σ1) (pc + 3) lv (.int r1 :: st) σ1) : zJ Qf w x own cc nL lev (zcl mc f) pc lv (v2 :: v1 :: st) σ := by
  intro a0 hm ok ls H locs hl hP hS
  cases hb1 : mc with
  | none => rw [hb1] at hm; cases hm
  | some b1 =>
    rw [hb1] at hm
    exact z_callS hM (hC b1 hb1) hlev rfl rfl hcat d ok hl hP hS (fun H1 locs1 hP1 hS1 => kk b1.1 b1.2 a0 hm ok ls H1 locs1 hl hP1 hS1)
theorem zj_cSI3 {v1 v2 v3 : Value} {mc : Option (Int32 × zSt)} {f : Int32 → zSt → Option α} (hM : zMS own idx y cc' nL' ret' 3) (hC : ∀ a, mc = some a → zCn w n' y cc' nL' ret' [v1, v2, v3] σ (some (.int a.1)) a.2) (hlev : n' + 1 ≤ lev) (hcat : (st.map fun v => v.category).sum ≤ 8) (d : decode cc pc = .ok (.invokestatic idx, 3)) (kk : ∀ r1 σ1, zJ Qf w x own cc nL lev (f r1 σ1) (pc + 3) lv (.int r1 :: st) σ1) : zJ Qf w x own cc nL lev (zcl mc f) pc lv (v3 :: v2 :: v1 :: st) σ := by
  intro a0 hm ok ls H locs hl hP hS
  cases hb1 : mc with
  | none => rw [hb1] at hm; cases hm
  | some b1 =>
    rw [hb1] at hm
    exact z_callS hM (hC b1 hb1) hlev rfl rfl hcat d ok hl hP hS (fun H1 locs1 hP1 hS1 => kk b1.1 b1.2 a0 hm ok ls H1 locs1 hl hP1 hS1)
theorem zj_cSI4 {v1 v2 v3 v4 : Value} {mc : Option (Int32 × zSt)} {f : Int32 → zSt → Option α} (hM : zMS own idx y cc' nL' ret' 4) (hC : ∀ a, mc = some a → zCn w n' y cc' nL' ret' [v1, v2, v3, v4] σ (some (.int a.1)) a.2) (hlev : n' + 1 ≤ lev) (hcat : (st.map fun v => v.category).sum ≤ 8) (d : decode cc pc = .ok (.invokestatic idx, 3)) (kk : ∀ r1 σ1, zJ Qf w x own cc nL lev (f r1 σ1) (pc + 3) lv (.int r1 :: st) σ1) : zJ Qf w x own cc nL lev (zcl mc f) pc lv (v4 :: v3 :: v2 :: v1 :: st) σ := by
  intro a0 hm ok ls H locs hl hP hS
  cases hb1 : mc with
  | none => rw [hb1] at hm; cases hm
  | some b1 =>
    rw [hb1] at hm
    exact z_callS hM (hC b1 hb1) hlev rfl rfl hcat d ok hl hP hS (fun H1 locs1 hP1 hS1 => kk b1.1 b1.2 a0 hm ok ls H1 locs1 hl hP1 hS1)
theorem zj_cSI5 {v1 v2 v3 v4 v5 : Value} {mc : Option (Int32 × zSt)} {f : Int32 → zSt → Option α} (hM : zMS own idx y cc' nL' ret' 5) (hC : ∀ a, mc = some a → zCn w n' y cc' nL' ret' [v1, v2, v3, v4, v5] σ (some (.int a.1)) a.2) (hlev : n' + 1 ≤ lev) (hcat : (st.map fun v => v.category).sum ≤ 8) (d : decode cc pc = .ok (.invokestatic idx, 3)) (kk : ∀ r1 σ1, zJ Qf w x own cc nL lev (f r1 σ1) (pc + 3) lv (.int r1 :: st) σ1) : zJ Qf w x own cc nL lev (zcl mc f) pc lv (v5 :: v4 :: v3 :: v2 :: v1 :: st) σ := by
  intro a0 hm ok ls H locs hl hP hS
  cases hb1 : mc with
  | none => rw [hb1] at hm; cases hm
  | some b1 =>
    rw [hb1] at hm
    exact z_callS hM (hC b1 hb1) hlev rfl rfl hcat d ok hl hP hS (fun H1 locs1 hP1 hS1 => kk b1.1 b1.2 a0 hm ok ls H1 locs1 hl hP1 hS1)
theorem zj_cSI6 {v1 v2 v3 v4 v5 v6 : Value} {mc : Option (Int32 × zSt)} {f : Int32 → zSt → Option α} (hM : zMS own idx y cc' nL' ret' 6) (hC : ∀ a, mc = some a → zCn w n' y cc' nL' ret' [v1, v2, v3, v4, v5, v6] σ (some (.int a.1)) a.2) (hlev : n' + 1 ≤ lev) (hcat : (st.map fun v => v.category).sum ≤ 8) (d : decode cc pc = .ok (.invokestatic idx, 3)) (kk : ∀ r1 σ1, zJ Qf w x own cc nL lev (f r1 σ1) (pc + 3) lv (.int r1 :: st) σ1) : zJ Qf w x own cc nL lev (zcl mc f) pc lv (v6 :: v5 :: v4 :: v3 :: v2 :: v1 :: st) σ := by
  intro a0 hm ok ls H locs hl hP hS
  cases hb1 : mc with
  | none => rw [hb1] at hm; cases hm
  | some b1 =>
    rw [hb1] at hm
    exact z_callS hM (hC b1 hb1) hlev rfl rfl hcat d ok hl hP hS (fun H1 locs1 hP1 hS1 => kk b1.1 b1.2 a0 hm ok ls H1 locs1 hl hP1 hS1)
theorem zj_cSL0 {mc : Option (Int64 × zSt)} {f : Int64 → zSt → Option α} (hM : zMS own idx y cc' nL' ret' 0) (hC : ∀ a, mc = some a → zCn w n' y cc' nL' ret' [] σ (some (.long a.1)) a.2) (hlev : n' + 1 ≤ lev) (hcat : (st.map fun v => v.category).sum ≤ 8) (d : decode cc pc = .ok (.invokestatic idx, 3)) (kk : ∀ r1 σ1, zJ Qf w x own cc nL lev (f r1 σ1) (pc + 3) lv (.long r1 :: st) σ1) : zJ Qf w x own cc nL lev (zcl mc f) pc lv (st) σ := by
  intro a0 hm ok ls H locs hl hP hS
  cases hb1 : mc with
  | none => rw [hb1] at hm; cases hm
  | some b1 =>
    rw [hb1] at hm
    exact z_callS hM (hC b1 hb1) hlev rfl rfl hcat d ok hl hP hS (fun H1 locs1 hP1 hS1 => kk b1.1 b1.2 a0 hm ok ls H1 locs1 hl hP1 hS1)
theorem zj_cSL1 {v1 : Value} {mc : Option (Int64 × zSt)} {f : Int64 → zSt → Option α} (hM : zMS own idx y cc' nL' ret' 1) (hC : ∀ a, mc = some a → zCn w n' y cc' nL' ret' [v1] σ (some (.long a.1)) a.2) (hlev : n' + 1 ≤ lev) (hcat : (st.map fun v => v.category).sum ≤ 8) (d : decode cc pc = .ok (.invokestatic idx, 3)) (kk : ∀ r1 σ1, zJ Qf w x own cc nL lev (f r1 σ1) (pc + 3) lv (.long r1 :: st) σ1) : zJ Qf w x own cc nL lev (zcl mc f) pc lv (v1 :: st) σ := by
  intro a0 hm ok ls H locs hl hP hS
  cases hb1 : mc with
  | none => rw [hb1] at hm; cases hm
  | some b1 =>
    rw [hb1] at hm
    exact z_callS hM (hC b1 hb1) hlev rfl rfl hcat d ok hl hP hS (fun H1 locs1 hP1 hS1 => kk b1.1 b1.2 a0 hm ok ls H1 locs1 hl hP1 hS1)
theorem zj_cSL2 {v1 v2 : Value} {mc : Option (Int64 × zSt)} {f : Int64 → zSt → Option α} (hM : zMS own idx y cc' nL' ret' 2) (hC : ∀ a, mc = some a → zCn w n' y cc' nL' ret' [v1, v2] σ (some (.long a.1)) a.2) (hlev : n' + 1 ≤ lev) (hcat : (st.map fun v => v.category).sum ≤ 8) (d : decode cc pc = .ok (.invokestatic idx, 3)) (kk : ∀ r1 σ1, zJ Qf w x own cc nL lev (f r1 σ1) (pc + 3) lv (.long r1 :: st) σ1) : zJ Qf w x own cc nL lev (zcl mc f) pc lv (v2 :: v1 :: st) σ := by
  intro a0 hm ok ls H locs hl hP hS
  cases hb1 : mc with
  | none => rw [hb1] at hm; cases hm
  | some b1 =>
    rw [hb1] at hm
    exact z_callS hM (hC b1 hb1) hlev rfl rfl hcat d ok hl hP hS (fun H1 locs1 hP1 hS1 => kk b1.1 b1.2 a0 hm ok ls H1 locs1 hl hP1 hS1)
theorem zj_cSL3 {v1 v2 v3 : Value} {mc : Option (Int64 × zSt)} {f : Int64 → zSt → Option α} (hM : zMS own idx y cc' nL' ret' 3) (hC : ∀ a, mc = some a → zCn w n' y cc' nL' ret' [v1, v2, v3] σ (some (.long a.1)) a.2) (hlev : n' + 1 ≤ lev) (hcat : (st.map fun v => v.category).sum ≤ 8) (d : decode cc pc = .ok (.invokestatic idx, 3)) (kk : ∀ r1 σ1, zJ Qf w x own cc nL lev (f r1 σ1) (pc + 3) lv (.long r1 :: st) σ1) : zJ Qf w x own cc nL lev (zcl mc f) pc lv (v3 :: v2 :: v1 :: st) σ := by
  intro a0 hm ok ls H locs hl hP hS
  cases hb1 : mc with
  | none => rw [hb1] at hm; cases hm
  | some b1 =>
    rw [hb1] at hm
    exact z_callS hM (hC b1 hb1) hlev rfl rfl hcat d ok hl hP hS (fun H1 locs1 hP1 hS1 => kk b1.1 b1.2 a0 hm ok ls H1 locs1 hl hP1 hS1)
theorem zj_cSL4 {v1 v2 v3 v4 : Value} {mc : Option (Int64 × zSt)} {f : Int64 → zSt → Option α} (hM : zMS own idx y cc' nL' ret' 4) (hC : ∀ a, mc = some a → zCn w n' y cc' nL' ret' [v1, v2, v3, v4] σ (some (.long a.1)) a.2) (hlev : n' + 1 ≤ lev) (hcat : (st.map fun v => v.category).sum ≤ 8) (d : decode cc pc = .ok (.invokestatic idx, 3)) (kk : ∀ r1 σ1, zJ Qf w x own cc nL lev (f r1 σ1) (pc + 3) lv (.long r1 :: st) σ1) : zJ Qf w x own cc nL lev (zcl mc f) pc lv (v4 :: v3 :: v2 :: v1 :: st) σ := by
  intro a0 hm ok ls H locs hl hP hS
  cases hb1 : mc with
  | none => rw [hb1] at hm; cases hm
  | some b1 =>
    rw [hb1] at hm
    exact z_callS hM (hC b1 hb1) hlev rfl rfl hcat d ok hl hP hS (fun H1 locs1 hP1 hS1 => kk b1.1 b1.2 a0 hm ok ls H1 locs1 hl hP1 hS1)
theorem zj_cSL5 {v1 v2 v3 v4 v5 : Value} {mc : Option (Int64 × zSt)} {f : Int64 → zSt → Option α} (hM : zMS own idx y cc' nL' ret' 5) (hC : ∀ a, mc = some a → zCn w n' y cc' nL' ret' [v1, v2, v3, v4, v5] σ (some (.long a.1)) a.2) (hlev : n' + 1 ≤ lev) (hcat : (st.map fun v => v.category).sum ≤ 8) (d : decode cc pc = .ok (.invokestatic idx, 3)) (kk : ∀ r1 σ1, zJ Qf w x own cc nL lev (f r1 σ1) (pc + 3) lv (.long r1 :: st) σ1) : zJ Qf w x own cc nL lev (zcl mc f) pc lv (v5 :: v4 :: v3 :: v2 :: v1 :: st) σ := by
  intro a0 hm ok ls H locs hl hP hS
  cases hb1 : mc with
  | none => rw [hb1] at hm; cases hm
  | some b1 =>
    rw [hb1] at hm
    exact z_callS hM (hC b1 hb1) hlev rfl rfl hcat d ok hl hP hS (fun H1 locs1 hP1 hS1 => kk b1.1 b1.2 a0 hm ok ls H1 locs1 hl hP1 hS1)
theorem zj_cSL6 {v1 v2 v3 v4 v5 v6 : Value} {mc : Option (Int64 × zSt)} {f : Int64 → zSt → Option α} (hM : zMS own idx y cc' nL' ret' 6) (hC : ∀ a, mc = some a → zCn w n' y cc' nL' ret' [v1, v2, v3, v4, v5, v6] σ (some (.long a.1)) a.2) (hlev : n' + 1 ≤ lev) (hcat : (st.map fun v => v.category).sum ≤ 8) (d : decode cc pc = .ok (.invokestatic idx, 3)) (kk : ∀ r1 σ1, zJ Qf w x own cc nL lev (f r1 σ1) (pc + 3) lv (.long r1 :: st) σ1) : zJ Qf w x own cc nL lev (zcl mc f) pc lv (v6 :: v5 :: v4 :: v3 :: v2 :: v1 :: st) σ := by
  intro a0 hm ok ls H locs hl hP hS
  cases hb1 : mc with
  | none => rw [hb1] at hm; cases hm
  | some b1 =>
    rw [hb1] at hm
    exact z_callS hM (hC b1 hb1) hlev rfl rfl hcat d ok hl hP hS (fun H1 locs1 hP1 hS1 => kk b1.1 b1.2 a0 hm ok ls H1 locs1 hl hP1 hS1)
theorem zj_cSV0 {mc : Option zSt} {f : zSt → Option α} (hM : zMS own idx y cc' nL' ret' 0) (hC : ∀ a, mc = some a → zCn w n' y cc' nL' ret' [] σ none a) (hlev : n' + 1 ≤ lev) (hcat : (st.map fun v => v.category).sum ≤ 8) (d : decode cc pc = .ok (.invokestatic idx, 3)) (kk : ∀ σ1, zJ Qf w x own cc nL lev (f σ1) (pc + 3) lv st σ1) : zJ Qf w x own cc nL lev (zcv mc f) pc lv (st) σ := by
  intro a0 hm ok ls H locs hl hP hS
  cases hb1 : mc with
  | none => rw [hb1] at hm; cases hm
  | some b1 =>
    rw [hb1] at hm
    exact z_callS hM (hC b1 hb1) hlev rfl rfl hcat d ok hl hP hS (fun H1 locs1 hP1 hS1 => kk b1 a0 hm ok ls H1 locs1 hl hP1 hS1)
theorem zj_cSV1 {v1 : Value} {mc : Option zSt} {f : zSt → Option α} (hM : zMS own idx y cc' nL' ret' 1) (hC : ∀ a, mc = some a → zCn w n' y cc' nL' ret' [v1] σ none a) (hlev : n' + 1 ≤ lev) (hcat : (st.map fun v => v.category).sum ≤ 8) (d : decode cc pc = .ok (.invokestatic idx, 3)) (kk : ∀ σ1, zJ Qf w x own cc nL lev (f σ1) (pc + 3) lv st σ1) : zJ Qf w x own cc nL lev (zcv mc f) pc lv (v1 :: st) σ := by
  intro a0 hm ok ls H locs hl hP hS
  cases hb1 : mc with
  | none => rw [hb1] at hm; cases hm
  | some b1 =>
    rw [hb1] at hm
    exact z_callS hM (hC b1 hb1) hlev rfl rfl hcat d ok hl hP hS (fun H1 locs1 hP1 hS1 => kk b1 a0 hm ok ls H1 locs1 hl hP1 hS1)
theorem zj_cSV2 {v1 v2 : Value} {mc : Option zSt} {f : zSt → Option α} (hM : zMS own idx y cc' nL' ret' 2) (hC : ∀ a, mc = some a → zCn w n' y cc' nL' ret' [v1, v2] σ none a) (hlev : n' + 1 ≤ lev) (hcat : (st.map fun v => v.category).sum ≤ 8) (d : decode cc pc = .ok (.invokestatic idx, 3)) (kk : ∀ σ1, zJ Qf w x own cc nL lev (f σ1) (pc + 3) lv st σ1) : zJ Qf w x own cc nL lev (zcv mc f) pc lv (v2 :: v1 :: st) σ := by
  intro a0 hm ok ls H locs hl hP hS
  cases hb1 : mc with
  | none => rw [hb1] at hm; cases hm
  | some b1 =>
    rw [hb1] at hm
    exact z_callS hM (hC b1 hb1) hlev rfl rfl hcat d ok hl hP hS (fun H1 locs1 hP1 hS1 => kk b1 a0 hm ok ls H1 locs1 hl hP1 hS1)
theorem zj_cSV3 {v1 v2 v3 : Value} {mc : Option zSt} {f : zSt → Option α} (hM : zMS own idx y cc' nL' ret' 3) (hC : ∀ a, mc = some a → zCn w n' y cc' nL' ret' [v1, v2, v3] σ none a) (hlev : n' + 1 ≤ lev) (hcat : (st.map fun v => v.category).sum ≤ 8) (d : decode cc pc = .ok (.invokestatic idx, 3)) (kk : ∀ σ1, zJ Qf w x own cc nL lev (f σ1) (pc + 3) lv st σ1) : zJ Qf w x own cc nL lev (zcv mc f) pc lv (v3 :: v2 :: v1 :: st) σ := by
  intro a0 hm ok ls H locs hl hP hS
  cases hb1 : mc with
  | none => rw [hb1] at hm; cases hm
  | some b1 =>
    rw [hb1] at hm
    exact z_callS hM (hC b1 hb1) hlev rfl rfl hcat d ok hl hP hS (fun H1 locs1 hP1 hS1 => kk b1 a0 hm ok ls H1 locs1 hl hP1 hS1)
theorem zj_cSV4 {v1 v2 v3 v4 : Value} {mc : Option zSt} {f : zSt → Option α} (hM : zMS own idx y cc' nL' ret' 4) (hC : ∀ a, mc = some a → zCn w n' y cc' nL' ret' [v1, v2, v3, v4] σ none a) (hlev : n' + 1 ≤ lev) (hcat : (st.map fun v => v.category).sum ≤ 8) (d : decode cc pc = .ok (.invokestatic idx, 3)) (kk : ∀ σ1, zJ Qf w x own cc nL lev (f σ1) (pc + 3) lv st σ1) : zJ Qf w x own cc nL lev (zcv mc f) pc lv (v4 :: v3 :: v2 :: v1 :: st) σ := by
  intro a0 hm ok ls H locs hl hP hS
  cases hb1 : mc with
  | none => rw [hb1] at hm; cases hm
  | some b1 =>
    rw [hb1] at hm
    exact z_callS hM (hC b1 hb1) hlev rfl rfl hcat d ok hl hP hS (fun H1 locs1 hP1 hS1 => kk b1 a0 hm ok ls H1 locs1 hl hP1 hS1)
theorem zj_cSV5 {v1 v2 v3 v4 v5 : Value} {mc : Option zSt} {f : zSt → Option α} (hM : zMS own idx y cc' nL' ret' 5) (hC : ∀ a, mc = some a → zCn w n' y cc' nL' ret' [v1, v2, v3, v4, v5] σ none a) (hlev : n' + 1 ≤ lev) (hcat : (st.map fun v => v.category).sum ≤ 8) (d : decode cc pc = .ok (.invokestatic idx, 3)) (kk : ∀ σ1, zJ Qf w x own cc nL lev (f σ1) (pc + 3) lv st σ1) : zJ Qf w x own cc nL lev (zcv mc f) pc lv (v5 :: v4 :: v3 :: v2 :: v1 :: st) σ := by
  intro a0 hm ok ls H locs hl hP hS
  cases hb1 : mc with
  | none => rw [hb1] at hm; cases hm
  | some b1 =>
    rw [hb1] at hm
    exact z_callS hM (hC b1 hb1) hlev rfl rfl hcat d ok hl hP hS (fun H1 locs1 hP1 hS1 => kk b1 a0 hm ok ls H1 locs1 hl hP1 hS1)
theorem zj_cSV6 {v1 v2 v3 v4 v5 v6 : Value} {mc : Option zSt} {f : zSt → Option α} (hM : zMS own idx y cc' nL' ret' 6) (hC : ∀ a, mc = some a → zCn w n' y cc' nL' ret' [v1, v2, v3, v4, v5, v6] σ none a) (hlev : n' + 1 ≤ lev) (hcat : (st.map fun v => v.category).sum ≤ 8) (d : decode cc pc = .ok (.invokestatic idx, 3)) (kk : ∀ σ1, zJ Qf w x own cc nL lev (f σ1) (pc + 3) lv st σ1) : zJ Qf w x own cc nL lev (zcv mc f) pc lv (v6 :: v5 :: v4 :: v3 :: v2 :: v1 :: st) σ := by
  intro a0 hm ok ls H locs hl hP hS
  cases hb1 : mc with
  | none => rw [hb1] at hm; cases hm
  | some b1 =>
    rw [hb1] at hm
    exact z_callS hM (hC b1 hb1) hlev rfl rfl hcat d ok hl hP hS (fun H1 locs1 hP1 hS1 => kk b1 a0 hm ok ls H1 locs1 hl hP1 hS1)
theorem zj_cNI0 {host : String} {mc : Option (Int32 × zSt)} {f : Int32 → zSt → Option α} (hM : zMN own idx host y cc' nL' ret' 0) (hC : ∀ a, mc = some a → zCn w n' y cc' nL' ret' [] σ (some (.int a.1)) a.2) (hlev : n' + 1 ≤ lev) (hcat : (st.map fun v => v.category).sum ≤ 8) (d : decode cc pc = .ok (.invokestatic idx, 3)) (kk : ∀ r1 σ1, zJ Qf w x own cc nL lev (f r1 σ1) (pc + 3) lv (.int r1 :: st) σ1) : zJ Qf w x own cc nL lev (zcl mc f) pc lv (st) σ := by
  intro a0 hm ok ls H locs hl hP hS
  cases hb1 : mc with
  | none => rw [hb1] at hm; cases hm
  | some b1 =>
    rw [hb1] at hm
    exact z_callN hM (hC b1 hb1) hlev rfl rfl hcat d ok hl hP hS (fun H1 locs1 hP1 hS1 => kk b1.1 b1.2 a0 hm ok ls H1 locs1 hl hP1 hS1)
theorem zj_cNI1 {host : String} {v1 : Value} {mc : Option (Int32 × zSt)} {f : Int32 → zSt → Option α} (hM : zMN own idx host y cc' nL' ret' 1) (hC : ∀ a, mc = some a → zCn w n' y cc' nL' ret' [v1] σ (some (.int a.1)) a.2) (hlev : n' + 1 ≤ lev) (hcat : (st.map fun v => v.category).sum ≤ 8) (d : decode cc pc = .ok (.invokestatic idx, 3)) (kk : ∀ r1 σ1, zJ Qf w x own cc nL lev (f r1 σ1) (pc + 3) lv (.int r1 :: st) σ1) : zJ Qf w x own cc nL lev (zcl mc f) pc lv (v1 :: st) σ := by
  intro a0 hm ok ls H locs hl hP hS
  cases hb1 : mc with
  | none => rw [hb1] at hm; cases hm
  | some b1 =>
    rw [hb1] at hm
    exact z_callN hM (hC b1 hb1) hlev rfl rfl hcat d ok hl hP hS (fun H1 locs1 hP1 hS1 => kk b1.1 b1.2 a0 hm ok ls H1 locs1 hl hP1 hS1)
theorem zj_cNI2 {host : String} {v1 v2 : Value} {mc : Option (Int32 × zSt)} {f : Int32 → zSt → Option α} (hM : zMN own idx host y cc' nL' ret' 2) (hC : ∀ a, mc = some a → zCn w n' y cc' nL' ret' [v1, v2] σ (some (.int a.1)) a.2) (hlev : n' + 1 ≤ lev) (hcat : (st.map fun v => v.category).sum ≤ 8) (d : decode cc pc = .ok (.invokestatic idx, 3)) (kk : ∀ r1 σ1, zJ Qf w x own cc nL lev (f r1 σ1) (pc + 3) lv (.int r1 :: st) σ1) : zJ Qf w x own cc nL lev (zcl mc f) pc lv (v2 :: v1 :: st) σ := by
  intro a0 hm ok ls H locs hl hP hS
  cases hb1 : mc with
  | none => rw [hb1] at hm; cases hm
  | some b1 =>
    rw [hb1] at hm
    exact z_callN hM (hC b1 hb1) hlev rfl rfl hcat d ok hl hP hS (fun H1 locs1 hP1 hS1 => kk b1.1 b1.2 a0 hm ok ls H1 locs1 hl hP1 hS1)
theorem zj_cNI3 {host : String} {v1 v2 v3 : Value} {mc : Option (Int32 × zSt)} {f : Int32 → zSt → Option α} (hM : zMN own idx host y cc' nL' ret' 3) (hC : ∀ a, mc = some a → zCn w n' y cc' nL' ret' [v1, v2, v3] σ (some (.int a.1)) a.2) (hlev : n' + 1 ≤ lev) (hcat : (st.map fun v => v.category).sum ≤ 8) (d : decode cc pc = .ok (.invokestatic idx, 3)) (kk : ∀ r1 σ1, zJ Qf w x own cc nL lev (f r1 σ1) (pc + 3) lv (.int r1 :: st) σ1) : zJ Qf w x own cc nL lev (zcl mc f) pc lv (v3 :: v2 :: v1 :: st) σ := by
  intro a0 hm ok ls H locs hl hP hS
  cases hb1 : mc with
  | none => rw [hb1] at hm; cases hm
  | some b1 =>
    rw [hb1] at hm
    exact z_callN hM (hC b1 hb1) hlev rfl rfl hcat d ok hl hP hS (fun H1 locs1 hP1 hS1 => kk b1.1 b1.2 a0 hm ok ls H1 locs1 hl hP1 hS1)
theorem zj_cNI4 {host : String} {v1 v2 v3 v4 : Value} {mc : Option (Int32 × zSt)} {f : Int32 → zSt → Option α} (hM : zMN own idx host y cc' nL' ret' 4) (hC : ∀ a, mc = some a → zCn w n' y cc' nL' ret' [v1, v2, v3, v4] σ (some (.int a.1)) a.2) (hlev : n' + 1 ≤ lev) (hcat : (st.map fun v => v.category).sum ≤ 8) (d : decode cc pc = .ok (.invokestatic idx, 3)) (kk : ∀ r1 σ1, zJ Qf w x own cc nL lev (f r1 σ1) (pc + 3) lv (.int r1 :: st) σ1) : zJ Qf w x own cc nL lev (zcl mc f) pc lv (v4 :: v3 :: v2 :: v1 :: st) σ := by
  intro a0 hm ok ls H locs hl hP hS
  cases hb1 : mc with
  | none => rw [hb1] at hm; cases hm
  | some b1 =>
    rw [hb1] at hm
    exact z_callN hM (hC b1 hb1) hlev rfl rfl hcat d ok hl hP hS (fun H1 locs1 hP1 hS1 => kk b1.1 b1.2 a0 hm ok ls H1 locs1 hl hP1 hS1)
theorem zj_cNI5 {host : String} {v1 v2 v3 v4 v5 : Value} {mc : Option (Int32 × zSt)} {f : Int32 → zSt → Option α} (hM : zMN own idx host y cc' nL' ret' 5) (hC : ∀ a, mc = some a → zCn w n' y cc' nL' ret' [v1, v2, v3, v4, v5] σ (some (.int a.1)) a.2) (hlev : n' + 1 ≤ lev) (hcat : (st.map fun v => v.category).sum ≤ 8) (d : decode cc pc = .ok (.invokestatic idx, 3)) (kk : ∀ r1 σ1, zJ Qf w x own cc nL lev (f r1 σ1) (pc + 3) lv (.int r1 :: st) σ1) : zJ Qf w x own cc nL lev (zcl mc f) pc lv (v5 :: v4 :: v3 :: v2 :: v1 :: st) σ := by
  intro a0 hm ok ls H locs hl hP hS
  cases hb1 : mc with
  | none => rw [hb1] at hm; cases hm
  | some b1 =>
    rw [hb1] at hm
    exact z_callN hM (hC b1 hb1) hlev rfl rfl hcat d ok hl hP hS (fun H1 locs1 hP1 hS1 => kk b1.1 b1.2 a0 hm ok ls H1 locs1 hl hP1 hS1)
theorem zj_cNI6 {host : String} {v1 v2 v3 v4 v5 v6 : Value} {mc : Option (Int32 × zSt)} {f : Int32 → zSt → Option α} (hM : zMN own idx host y cc' nL' ret' 6) (hC : ∀ a, mc = some a → zCn w n' y cc' nL' ret' [v1, v2, v3, v4, v5, v6] σ (some (.int a.1)) a.2) (hlev : n' + 1 ≤ lev) (hcat : (st.map fun v => v.category).sum ≤ 8) (d : decode cc pc = .ok (.invokestatic idx, 3)) (kk : ∀ r1 σ1, zJ Qf w x own cc nL lev (f r1 σ1) (pc + 3) lv (.int r1 :: st) σ1) : zJ Qf w x own cc nL lev (zcl mc f) pc lv (v6 :: v5 :: v4 :: v3 :: v2 :: v1 :: st) σ := by
  intro a0 hm ok ls H locs hl hP hS
  cases hb1 : mc with
  | none => rw [hb1] at hm; cases hm
  | some b1 =>
    rw [hb1] at hm
    exact z_callN hM (hC b1 hb1) hlev rfl rfl hcat d ok hl hP hS (fun H1 locs1 hP1 hS1 => kk b1.1 b1.2 a0 hm ok ls H1 locs1 hl hP1 hS1)
theorem zj_cNL0 {host : String} {mc : Option (Int64 × zSt)} {f : Int64 → zSt → Option α} (hM : zMN own idx host y cc' nL' ret' 0) (hC : ∀ a, mc = some a → zCn w n' y cc' nL' ret' [] σ (some (.long a.1)) a.2) (hlev : n' + 1 ≤ lev) (hcat : (st.map fun v => v.category).sum ≤ 8) (d : decode cc pc = .ok (.invokestatic idx, 3)) (kk : ∀ r1 σ1, zJ Qf w x own cc nL lev (f r1 σ1) (pc + 3) lv (.long r1 :: st) σ1) : zJ Qf w x own cc nL lev (zcl mc f) pc lv (st) σ := by
  intro a0 hm ok ls H locs hl hP hS
  cases hb1 : mc with
  | none => rw [hb1] at hm; cases hm
  | some b1 =>
    rw [hb1] at hm
    exact z_callN hM (hC b1 hb1) hlev rfl rfl hcat d ok hl hP hS (fun H1 locs1 hP1 hS1 => kk b1.1 b1.2 a0 hm ok ls H1 locs1 hl hP1 hS1)
theorem zj_cNL1 {host : String} {v1 : Value} {mc : Option (Int64 × zSt)} {f : Int64 → zSt → Option α} (hM : zMN own idx host y cc' nL' ret' 1) (hC : ∀ a, mc = some a → zCn w n' y cc' nL' ret' [v1] σ (some (.long a.1)) a.2) (hlev : n' + 1 ≤ lev) (hcat : (st.map fun v => v.category).sum ≤ 8) (d : decode cc pc = .ok (.invokestatic idx, 3)) (kk : ∀ r1 σ1, zJ Qf w x own cc nL lev (f r1 σ1) (pc + 3) lv (.long r1 :: st) σ1) : zJ Qf w x own cc nL lev (zcl mc f) pc lv (v1 :: st) σ := by
  intro a0 hm ok ls H locs hl hP hS
  cases hb1 : mc with
  | none => rw [hb1] at hm; cases hm
  | some b1 =>
    rw [hb1] at hm
    exact z_callN hM (hC b1 hb1) hlev rfl rfl hcat d ok hl hP hS (fun H1 locs1 hP1 hS1 => kk b1.1 b1.2 a0 hm ok ls H1 locs1 hl hP1 hS1)
theorem zj_cNL2 {host : String} {v1 v2 : Value} {mc : Option (Int64 × zSt)} {f : Int64 → zSt → Option α} (hM : zMN own idx host y cc' nL' ret' 2) (hC : ∀ a, mc = some a → zCn w n' y cc' nL' ret' [v1, v2] σ (some (.long a.1)) a.2) (hlev : n' + 1 ≤ lev) (hcat : (st.map fun v => v.category).sum ≤ 8) (d : decode cc pc = .ok (.invokestatic idx, 3)) (kk : ∀ r1 σ1, zJ Qf w x own cc nL lev (f r1 σ1) (pc + 3) lv (.long r1 :: st) σ1) : zJ Qf w x own cc nL lev (zcl mc f) pc lv (v2 :: v1 :: st) σ := by
  intro a0 hm ok ls H locs hl hP hS
  cases hb1 : mc with
  | none => rw [hb1] at hm; cases hm
  | some b1 =>
    rw [hb1] at hm
    exact z_callN hM (hC b1 hb1) hlev rfl rfl hcat d ok hl hP hS (fun H1 locs1 hP1 hS1 => kk b1.1 b1.2 a0 hm ok ls H1 locs1 hl hP1 hS1)
theorem zj_cNL3 {host : String} {v1 v2 v3 : Value} {mc : Option (Int64 × zSt)} {f : Int64 → zSt → Option α} (hM : zMN own idx host y cc' nL' ret' 3) (hC : ∀ a, mc = some a → zCn w n' y cc' nL' ret' [v1, v2, v3] σ (some (.long a.1)) a.2) (hlev : n' + 1 ≤ lev) (hcat : (st.map fun v => v.category).sum ≤ 8) (d : decode cc pc = .ok (.invokestatic idx, 3)) (kk : ∀ r1 σ1, zJ Qf w x own cc nL lev (f r1 σ1) (pc + 3) lv (.long r1 :: st) σ1) : zJ Qf w x own cc nL lev (zcl mc f) pc lv (v3 :: v2 :: v1 :: st) σ := by
  intro a0 hm ok ls H locs hl hP hS
  cases hb1 : mc with
  | none => rw [hb1] at hm; cases hm
  | some b1 =>
    rw [hb1] at hm
    exact z_callN hM (hC b1 hb1) hlev rfl rfl hcat d ok hl hP hS (fun H1 locs1 hP1 hS1 => kk b1.1 b1.2 a0 hm ok ls H1 locs1 hl hP1 hS1)
theorem zj_cNL4 {host : String} {v1 v2 v3 v4 : Value} {mc : Option (Int64 × zSt)} {f : Int64 → zSt → Option α} (hM : zMN own idx host y cc' nL' ret' 4) (hC : ∀ a, mc = some a → zCn w n' y cc' nL' ret' [v1, v2, v3, v4] σ (some (.long a.1)) a.2) (hlev : n' + 1 ≤ lev) (hcat : (st.map fun v => v.category).sum ≤ 8) (d : decode cc pc = .ok (.invokestatic idx, 3)) (kk : ∀ r1 σ1, zJ Qf w x own cc nL lev (f r1 σ1) (pc + 3) lv (.long r1 :: st) σ1) : zJ Qf w x own cc nL lev (zcl mc f) pc lv (v4 :: v3 :: v2 :: v1 :: st) σ := by
  intro a0 hm ok ls H locs hl hP hS
  cases hb1 : mc with
  | none => rw [hb1] at hm; cases hm
  | some b1 =>
    rw [hb1] at hm
    exact z_callN hM (hC b1 hb1) hlev rfl rfl hcat d ok hl hP hS (fun H1 locs1 hP1 hS1 => kk b1.1 b1.2 a0 hm ok ls H1 locs1 hl hP1 hS1)
theorem zj_cNL5 {host : String} {v1 v2 v3 v4 v5 : Value} {mc : Option (Int64 × zSt)} {f : Int64 → zSt → Option α} (hM : zMN own idx host y cc' nL' ret' 5) (hC : ∀ a, mc = some a → zCn w n' y cc' nL' ret' [v1, v2, v3, v4, v5] σ (some (.long a.1)) a.2) (hlev : n' + 1 ≤ lev) (hcat : (st.map fun v => v.category).sum ≤ 8) (d : decode cc pc = .ok (.invokestatic idx, 3)) (kk : ∀ r1 σ1, zJ Qf w x own cc nL lev (f r1 σ1) (pc + 3) lv (.long r1 :: st) σ1) : zJ Qf w x own cc nL lev (zcl mc f) pc lv (v5 :: v4 :: v3 :: v2 :: v1 :: st) σ := by
  intro a0 hm ok ls H locs hl hP hS
  cases hb1 : mc with
  | none => rw [hb1] at hm; cases hm
  | some b1 =>
    rw [hb1] at hm
    exact z_callN hM (hC b1 hb1) hlev rfl rfl hcat d ok hl hP hS (fun H1 locs1 hP1 hS1 => kk b1.1 b1.2 a0 hm ok ls H1 locs1 hl hP1 hS1)
theorem zj_cNL6 {host : String} {v1 v2 v3 v4 v5 v6 : Value} {mc : Option (Int64 × zSt)} {f : Int64 → zSt → Option α} (hM : zMN own idx host y cc' nL' ret' 6) (hC : ∀ a, mc = some a → zCn w n' y cc' nL' ret' [v1, v2, v3, v4, v5, v6] σ (some (.long a.1)) a.2) (hlev : n' + 1 ≤ lev) (hcat : (st.map fun v => v.category).sum ≤ 8) (d : decode cc pc = .ok (.invokestatic idx, 3)) (kk : ∀ r1 σ1, zJ Qf w x own cc nL lev (f r1 σ1) (pc + 3) lv (.long r1 :: st) σ1) : zJ Qf w x own cc nL lev (zcl mc f) pc lv (v6 :: v5 :: v4 :: v3 :: v2 :: v1 :: st) σ := by
  intro a0 hm ok ls H locs hl hP hS
  cases hb1 : mc with
  | none => rw [hb1] at hm; cases hm
  | some b1 =>
    rw [hb1] at hm
    exact z_callN hM (hC b1 hb1) hlev rfl rfl hcat d ok hl hP hS (fun H1 locs1 hP1 hS1 => kk b1.1 b1.2 a0 hm ok ls H1 locs1 hl hP1 hS1)
theorem zj_cNV0 {host : String} {mc : Option zSt} {f : zSt → Option α} (hM : zMN own idx host y cc' nL' ret' 0) (hC : ∀ a, mc = some a → zCn w n' y cc' nL' ret' [] σ none a) (hlev : n' + 1 ≤ lev) (hcat : (st.map fun v => v.category).sum ≤ 8) (d : decode cc pc = .ok (.invokestatic idx, 3)) (kk : ∀ σ1, zJ Qf w x own cc nL lev (f σ1) (pc + 3) lv st σ1) : zJ Qf w x own cc nL lev (zcv mc f) pc lv (st) σ := by
  intro a0 hm ok ls H locs hl hP hS
  cases hb1 : mc with
  | none => rw [hb1] at hm; cases hm
  | some b1 =>
    rw [hb1] at hm
    exact z_callN hM (hC b1 hb1) hlev rfl rfl hcat d ok hl hP hS (fun H1 locs1 hP1 hS1 => kk b1 a0 hm ok ls H1 locs1 hl hP1 hS1)
theorem zj_cNV1 {host : String} {v1 : Value} {mc : Option zSt} {f : zSt → Option α} (hM : zMN own idx host y cc' nL' ret' 1) (hC : ∀ a, mc = some a → zCn w n' y cc' nL' ret' [v1] σ none a) (hlev : n' + 1 ≤ lev) (hcat : (st.map fun v => v.category).sum ≤ 8) (d : decode cc pc = .ok (.invokestatic idx, 3)) (kk : ∀ σ1, zJ Qf w x own cc nL lev (f σ1) (pc + 3) lv st σ1) : zJ Qf w x own cc nL lev (zcv mc f) pc lv (v1 :: st) σ := by
  intro a0 hm ok ls H locs hl hP hS
  cases hb1 : mc with
  | none => rw [hb1] at hm; cases hm
  | some b1 =>
    rw [hb1] at hm
    exact z_callN hM (hC b1 hb1) hlev rfl rfl hcat d ok hl hP hS (fun H1 locs1 hP1 hS1 => kk b1 a0 hm ok ls H1 locs1 hl hP1 hS1)
theorem zj_cNV2 {host : String} {v1 v2 : Value} {mc : Option zSt} {f : zSt → Option α} (hM : zMN own idx host y cc' nL' ret' 2) (hC : ∀ a, mc = some a → zCn w n' y cc' nL' ret' [v1, v2] σ none a) (hlev : n' + 1 ≤ lev) (hcat : (st.map fun v => v.category).sum ≤ 8) (d : decode cc pc = .ok (.invokestatic idx, 3)) (kk : ∀ σ1, zJ Qf w x own cc nL lev (f σ1) (pc + 3) lv st σ1) : zJ Qf w x own cc nL lev (zcv mc f) pc lv (v2 :: v1 :: st) σ := by
  intro a0 hm ok ls H locs hl hP hS
  cases hb1 : mc with
  | none => rw [hb1] at hm; cases hm
  | some b1 =>
    rw [hb1] at hm
    exact z_callN hM (hC b1 hb1) hlev rfl rfl hcat d ok hl hP hS (fun H1 locs1 hP1 hS1 => kk b1 a0 hm ok ls H1 locs1 hl hP1 hS1)
theorem zj_cNV3 {host : String} {v1 v2 v3 : Value} {mc : Option zSt} {f : zSt → Option α} (hM : zMN own idx host y cc' nL' ret' 3) (hC : ∀ a, mc = some a → zCn w n' y cc' nL' ret' [v1, v2, v3] σ none a) (hlev : n' + 1 ≤ lev) (hcat : (st.map fun v => v.category).sum ≤ 8) (d : decode cc pc = .ok (.invokestatic idx, 3)) (kk : ∀ σ1, zJ Qf w x own cc nL lev (f σ1) (pc + 3) lv st σ1) : zJ Qf w x own cc nL lev (zcv mc f) pc lv (v3 :: v2 :: v1 :: st) σ := by
  intro a0 hm ok ls H locs hl hP hS
  cases hb1 : mc with
  | none => rw [hb1] at hm; cases hm
  | some b1 =>
    rw [hb1] at hm
    exact z_callN hM (hC b1 hb1) hlev rfl rfl hcat d ok hl hP hS (fun H1 locs1 hP1 hS1 => kk b1 a0 hm ok ls H1 locs1 hl hP1 hS1)
theorem zj_cNV4 {host : String} {v1 v2 v3 v4 : Value} {mc : Option zSt} {f : zSt → Option α} (hM : zMN own idx host y cc' nL' ret' 4) (hC : ∀ a, mc = some a → zCn w n' y cc' nL' ret' [v1, v2, v3, v4] σ none a) (hlev : n' + 1 ≤ lev) (hcat : (st.map fun v => v.category).sum ≤ 8) (d : decode cc pc = .ok (.invokestatic idx, 3)) (kk : ∀ σ1, zJ Qf w x own cc nL lev (f σ1) (pc + 3) lv st σ1) : zJ Qf w x own cc nL lev (zcv mc f) pc lv (v4 :: v3 :: v2 :: v1 :: st) σ := by
  intro a0 hm ok ls H locs hl hP hS
  cases hb1 : mc with
  | none => rw [hb1] at hm; cases hm
  | some b1 =>
    rw [hb1] at hm
    exact z_callN hM (hC b1 hb1) hlev rfl rfl hcat d ok hl hP hS (fun H1 locs1 hP1 hS1 => kk b1 a0 hm ok ls H1 locs1 hl hP1 hS1)
theorem zj_cNV5 {host : String} {v1 v2 v3 v4 v5 : Value} {mc : Option zSt} {f : zSt → Option α} (hM : zMN own idx host y cc' nL' ret' 5) (hC : ∀ a, mc = some a → zCn w n' y cc' nL' ret' [v1, v2, v3, v4, v5] σ none a) (hlev : n' + 1 ≤ lev) (hcat : (st.map fun v => v.category).sum ≤ 8) (d : decode cc pc = .ok (.invokestatic idx, 3)) (kk : ∀ σ1, zJ Qf w x own cc nL lev (f σ1) (pc + 3) lv st σ1) : zJ Qf w x own cc nL lev (zcv mc f) pc lv (v5 :: v4 :: v3 :: v2 :: v1 :: st) σ := by
  intro a0 hm ok ls H locs hl hP hS
  cases hb1 : mc with
  | none => rw [hb1] at hm; cases hm
  | some b1 =>
    rw [hb1] at hm
    exact z_callN hM (hC b1 hb1) hlev rfl rfl hcat d ok hl hP hS (fun H1 locs1 hP1 hS1 => kk b1 a0 hm ok ls H1 locs1 hl hP1 hS1)
theorem zj_cNV6 {host : String} {v1 v2 v3 v4 v5 v6 : Value} {mc : Option zSt} {f : zSt → Option α} (hM : zMN own idx host y cc' nL' ret' 6) (hC : ∀ a, mc = some a → zCn w n' y cc' nL' ret' [v1, v2, v3, v4, v5, v6] σ none a) (hlev : n' + 1 ≤ lev) (hcat : (st.map fun v => v.category).sum ≤ 8) (d : decode cc pc = .ok (.invokestatic idx, 3)) (kk : ∀ σ1, zJ Qf w x own cc nL lev (f σ1) (pc + 3) lv st σ1) : zJ Qf w x own cc nL lev (zcv mc f) pc lv (v6 :: v5 :: v4 :: v3 :: v2 :: v1 :: st) σ := by
  intro a0 hm ok ls H locs hl hP hS
  cases hb1 : mc with
  | none => rw [hb1] at hm; cases hm
  | some b1 =>
    rw [hb1] at hm
    exact z_callN hM (hC b1 hb1) hlev rfl rfl hcat d ok hl hP hS (fun H1 locs1 hP1 hS1 => kk b1 a0 hm ok ls H1 locs1 hl hP1 hS1)
end ZC
