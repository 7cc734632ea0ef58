abbrev xw (x : zCX) (ce sl : Nat) : zCX := (xp x, xe x, xR x, xs x, xm x, xa x, xb x, xme x, xc x, ce, sl)
section ZAG
variable {p : Program} {l : Launch} {e : Env} {R : Room} {s : State} {m : MethodId} {args : Array Value} {below : List Frame} {meth : Method} {c : Code} {H : Heap} {locs : List Loc} {cells slots mc ms : Nat} {Q : State → Prop}
variable {pc : Nat} {ls : Array Slot} {rest st0 : List Value} {a : Array Value} {w : zWC} {r : Option Value} {W1 : Heap → Prop}
theorem zg_after (hr : va_Run p l e R s m args below meth c H locs cells slots mc ms (F0 m pc ls st0) rest (fun st oc tt => oc = .returned r ∧ W1 tt.heap ∧ va_F (zA w) st tt) (zA w)) (hS : va_S (zA w) s.heap H locs)
    (kk : ∀ (H1 : Heap) (locs1 : List Loc), W1 H1 → va_S (zA w) s.heap H1 locs1 → W p l e R s m args below meth c H1 locs1 (cells + mc) (slots + ms) Q (F0 m (pc + 3) ls (r.toList ++ rest))) : W p l e R s m args below meth c H locs cells slots Q (F0 m pc ls st0) := by
  intro T hT X
  obtain ⟨v, st₀, t, T', L, h0, X', hL, e1, e2, ⟨hv, hp, hz, hk⟩, st⟩ := hr T hT X
  cases hv
  rw [h0] at hz hk
  obtain ⟨t2, a1, b1⟩ := kk T'.heap (locs ++ L) (by rw [e1]; exact hp)
    ⟨Nat.le_trans hS.1 (by rw [e1]; exact hz), fun q h1 h2 => by rw [e1, hk q (Nat.lt_of_lt_of_le h1 hS.1) h2]; exact hS.2.1 q h1 h2, fun q hq => by
      rcases List.mem_append.mp hq with h | h
      · exact hS.2.2 q h
      · exact hL q h⟩ T' rfl X'
  exact ⟨t2, st t2 a1, b1⟩
theorem zg_afterP (hr : va_Run p l e R s m args below meth c H locs cells slots 0 0 (F0 m pc ls st0) rest (fun st oc tt => oc = .returned r ∧ tt.heap = st.heap) (zA w)) (hS : va_S (zA w) s.heap H locs)
    (kk : ∀ (locs1 : List Loc), va_S (zA w) s.heap H locs1 → W p l e R s m args below meth c H locs1 cells slots Q (F0 m (pc + 3) ls (r.toList ++ rest))) : W p l e R s m args below meth c H locs cells slots Q (F0 m pc ls st0) := by
  intro T hT X
  obtain ⟨v, st₀, t, T', L, h0, X', hL, e1, e2, ⟨hv, hp⟩, st⟩ := hr T hT X
  cases hv
  have hH : T'.heap = H := by rw [e1, hp, h0]
  obtain ⟨t2, a1, b1⟩ := kk (locs ++ L) ⟨hS.1, hS.2.1, fun q hq => by
      rcases List.mem_append.mp hq with h | h
      · exact hS.2.2 q h
      · exact hL q h⟩ T' hH X'
  exact ⟨t2, st t2 a1, b1⟩
end ZAG
def zMI (own : String) (idx : Nat) (y : MethodName) (cc : ByteArray) (nL : Nat) (n : Nat) : Prop := Cond.methodLink own idx y ∈ ztb ∧ Cond.instanceMethod y ∈ ztb ∧ Cond.initialized y.cls ∈ ztb ∧ Cond.code y cc nL none ∈ ztb ∧ (y.cls ≠ "java/lang/invoke/MethodHandle" ∧ y.cls ≠ "java/lang/invoke/VarHandle" ∧ (parseMethodDescriptor y.desc).map (fun d => d.parameters.length) = some n) ∧ nL ≤ 45 ∧ y.name = "<init>"
def zMIN (own : String) (idx : Nat) (host : String) (y : MethodName) (cc : ByteArray) (nL : Nat) (n : Nat) : Prop := (own, idx, y, host) ∈ zNM ∧ Cond.instanceMethod y ∈ ztb ∧ Cond.initialized y.cls ∈ ztb ∧ Cond.code y cc nL none ∈ ztb ∧ (y.cls ≠ "java/lang/invoke/MethodHandle" ∧ y.cls ≠ "java/lang/invoke/VarHandle" ∧ (parseMethodDescriptor y.desc).map (fun d => d.parameters.length) = some n) ∧ nL ≤ 45 ∧ y.name = "<init>"
section ZGC
variable {Q : State → Prop} {w : zWC} {t : Nat × Nat} {x : zCX} {own : String} {cc : ByteArray} {nL lev : Nat} {Wp : Heap → Prop} {ce sl pc : Nat} {lv : List (Option Value)} {st : List Value} {n : Nat} {S : Nat → Nat → Bool} {σ : zSt}
variable {idx lev' np mc ms : Nat} {y : MethodName} {cc' : ByteArray} {nL' : Nat} {ret' : Option FieldType} {As stk : List Value} {a : Nat} {W0 W1 : Heap → Prop} {r : Option Value}
theorem zg_callI0 (hM : zMI own idx y cc' nL' np) (hC : zCi w t lev' y cc' nL' (.ref a :: As) W0 W1 mc ms) (hlev : lev' + 1 ≤ lev) (hnp : As.length = np) (hst : stk = As.reverse ++ .ref a :: st) (hcat : (st.map fun v => v.category).sum ≤ 8) (d : decode cc pc = .ok (.invokespecial idx, 3)) (hcells : ce + mc ≤ (xR x).cells) (hslots : sl + ms ≤ (xR x).slots)
    (kk : zG Q w t x own cc nL lev W1 (ce + mc) (sl + ms) (pc + 3) lv st) : zG Q w t x own cc nL lev W0 ce sl pc lv stk := by
  intro ok ls H locs hl hP hS
  obtain ⟨m1, m2, m3, m4, m5, m6, m7⟩ := hM
  obtain ⟨hx, hb, hml, hown, hts, hK, h3, hrm, hT3, hlk⟩ := id ok
  subst hst
  refine zg_after (va_runI (As := As) (rest := st) (mc := mc) (ms := ms) (n := np) ⟨hx, hb, hml, hown, hts⟩ hC ⟨callB_of np hts (z_goodws m4) rfl rfl rfl (hts _ m3) (hts _ m1) m5 ⟨?_, ?_⟩, m7, hts _ m2⟩ ⟨zg_blindI, fun U hU hW => ⟨rfl, zg_preI hP hK h3 hT3 hS U hU hW⟩⟩ rfl hnp hl.1 rfl (lv_room hcat) d ⟨hcells, hslots⟩) hS (fun H1 locs1 hP1 hS1 => kk ok ls H1 locs1 hl hP1 hS1)
  · show lev' + 1 ≤ _; omega
  · show 8 + (nL' + 11) + 64 * lev' ≤ _; omega
theorem zg_callIN0 {host : String} (hM : zMIN own idx host y cc' nL' np) (hC : zCi w t lev' y cc' nL' (.ref a :: As) W0 W1 mc ms) (hlev : lev' + 1 ≤ lev) (hnp : As.length = np) (hst : stk = As.reverse ++ .ref a :: st) (hcat : (st.map fun v => v.category).sum ≤ 8) (d : decode cc pc = .ok (.invokespecial idx, 3)) (hcells : ce + mc ≤ (xR x).cells) (hslots : sl + ms ≤ (xR x).slots)
    (kk : zG Q w t x own cc nL lev W1 (ce + mc) (sl + ms) (pc + 3) lv st) : zG Q w t x own cc nL lev W0 ce sl pc lv stk := by
  intro ok ls H locs hl hP hS
  obtain ⟨m1, m2, m3, m4, m5, m6, m7⟩ := hM
  obtain ⟨hx, hb, hml, hown, hts, hK, h3, hrm, hT3, hlk⟩ := id ok
  subst hst
  refine zg_after (va_runIN (As := As) (rest := st) (mc := mc) (ms := ms) (n := np) (host := host) ⟨hx, hb, hml, hown, hts⟩ hC ⟨va_cnB np hts (z_goodws m4) rfl rfl rfl (hK.2.1 _ m1) (hts _ m3) m5 ⟨?_, ?_⟩, m7, hts _ m2⟩ ⟨zg_blindI, fun U hU hW => ⟨rfl, zg_preI hP hK h3 hT3 hS U hU hW⟩⟩ rfl hnp hl.1 rfl (lv_room hcat) d ⟨hcells, hslots⟩) hS (fun H1 locs1 hP1 hS1 => kk ok ls H1 locs1 hl hP1 hS1)
  · show lev' + 1 ≤ _; omega
  · show 8 + (nL' + 11) + 64 * lev' ≤ _; omega
theorem zg_preP {s : State} {H : Heap} {locs : List Loc} (hK : zK w s) (h3 : zS3 w s s.heap) (hT : zT3 w t s s.heap) (hS : va_S (zA w) s.heap H locs) (U : State) (hU : U.heap = H) (hW : s.WarmedH U.vm) : zK w U ∧ zS3 w U U.heap ∧ zT3 w t U U.heap := ⟨hK.warm hW, by rw [hU]; exact (h3.moved hW.alike).kept hS.2.1, by rw [hU]; exact (hT.warm hW).kept hS.2.1⟩
/-- a call on the text -/
theorem zg_callPV (hM : zMV own idx "java/lang/String" y cc' nL' ret' np) (hC : zCp w t lev' y cc' nL' ret' (.ref t.1 :: As) r) (hlev : lev' + 1 ≤ lev) (hnp : As.length = np) (hst : stk = As.reverse ++ .ref t.1 :: st) (hcat : (st.map fun v => v.category).sum ≤ 8) (hcc : ce ≤ (xR x).cells) (hcs : sl ≤ (xR x).slots) (d : decode cc pc = .ok (.invokevirtual idx, 3))
    (kk : zG Q w t x own cc nL lev Wp ce sl (pc + 3) lv (r.toList ++ st)) : zG Q w t x own cc nL lev Wp ce sl pc lv stk := by
  intro ok ls H locs hl hP hS
  obtain ⟨m1, m2, m3, m4, m5, m6, m7⟩ := hM
  obtain ⟨hx, hb, hml, hown, hts, hK, h3, hrm, hT3, hlk⟩ := id ok
  subst hst
  obtain ⟨cell, g1, g2, g3, -⟩ := hT3.2.1.kept hS.2.1
  refine zg_afterP (va_runV (As := As) (rest := st) (mc := 0) (ms := 0) (n := np) ⟨hx, hb, hml, hown, hts⟩ hC (cwV np hts ?_ rfl rfl rfl m6 ⟨?_, ?_⟩) ⟨zg_blindP, ⟨cell, g1, g2, g3⟩, fun U hU hW => ⟨rfl, zg_preP hK h3 hT3 hS U hU hW⟩⟩ rfl hnp hl.1 rfl (lv_room hcat) d ⟨by omega, by omega⟩) hS (fun locs1 hS1 => kk ok ls H locs1 hl hP hS1)
  · intro q' hq'
    unfold wsV at hq'
    rcases List.mem_append.mp hq' with h | h
    · have hz : q' ∈ ztb := by
        simp only [List.mem_cons, List.not_mem_nil, or_false] at h
        rcases h with rfl | rfl | rfl | rfl
        · exact m1
        · exact m2
        · exact m3
        · exact m4
      exact ⟨hz, ztb_good hz⟩
    · exact z_goodws m5 q' h
  · show lev' + 1 ≤ _; omega
  · show 8 + (nL' + 11) + 64 * lev' ≤ _; omega
theorem zg_callPS (hM : zMS own idx y cc' nL' ret' np) (hC : zCp w t lev' y cc' nL' ret' As r) (hlev : lev' + 1 ≤ lev) (hnp : As.length = np) (hst : stk = As.reverse ++ st) (hcat : (st.map fun v => v.category).sum ≤ 8) (hcc : ce ≤ (xR x).cells) (hcs : sl ≤ (xR x).slots) (d : decode cc pc = .ok (.invokestatic idx, 3))
    (kk : zG Q w t x own cc nL lev Wp ce sl (pc + 3) lv (r.toList ++ st)) : zG Q w t x own cc nL lev Wp ce sl pc lv stk := by
  intro ok ls H locs hl hP hS
  obtain ⟨m1, m2, m3, m4, m5, m6⟩ := hM
  obtain ⟨hx, hb, hml, hown, hts, hK, h3, hrm, hT3, hlk⟩ := id ok
  subst hst
  refine zg_afterP (va_runS (As := As) (rest := st) (mc := 0) (ms := 0) (n := np) ⟨hx, hb, hml, hown, hts⟩ hC (va_cwS np hts ?_ rfl rfl rfl m5 ⟨?_, ?_⟩) ⟨zg_blindP, fun U hU hW => ⟨rfl, zg_preP hK h3 hT3 hS U hU hW⟩⟩ rfl hnp hl.1 rfl (lv_room hcat) d ⟨by omega, by omega⟩) hS (fun locs1 hS1 => kk ok ls H locs1 hl hP hS1)
  · intro q' hq'
    unfold va_wsS at hq'
    rcases List.mem_append.mp hq' with h | h
    · have hz : q' ∈ ztb := by
        simp only [List.mem_cons, List.not_mem_nil, or_false] at h
        rcases h with rfl | rfl | rfl
        · exact m1
        · exact m2
        · exact m3
      exact ⟨hz, ztb_good hz⟩
    · exact z_goodws m4 q' h
  · show lev' + 1 ≤ _; omega
  · show 8 + (nL' + 11) + 64 * lev' ≤ _; omega
/-- from the grown world on: the judgement zJ -/
theorem zg_toJ {α : Type} {Qf : α → State → Prop} {m : Option α} {b : α} (hm : m = some b) (hQ : Qf b = Q) (hcc : ce ≤ (xR x).cells) (hcs : sl ≤ (xR x).slots) (kk : zJ Qf w (xw x ce sl) own cc nL lev m pc lv st σ) : zG Q w t x own cc nL lev (fun H => va_P (zD w) vwCl (zW w σ) H) ce sl pc lv st := by
  intro ok ls H locs hl hP hS
  obtain ⟨hx, hb, hml, hown, hts, hK, h3, hrm, hT3, hlk⟩ := ok
  subst hQ
  exact kk b hm ⟨hx, hb, hml, hown, hts, hK, h3, hrm, ⟨hcc, hcs⟩, hlk⟩ ls H locs hl hP hS
end ZGC
