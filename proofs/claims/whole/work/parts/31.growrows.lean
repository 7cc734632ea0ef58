theorem zoi_i : Cond.instanceMethod objectInit ∈ ztb := zmem 91 (by decide +kernel) rfl
theorem zoi_c : Cond.code objectInit ⟨#[0xb1]⟩ 1 none ∈ ztb := zmem 92 (by decide +kernel) rfl
theorem zcast : Cond.castable "[I" "java/lang/Cloneable" ∈ lw_tbl := List.mem_of_getElem? (i := 264) (by decide +kernel)
/-- a constructor's contract (or any void one) between two worlds -/
def zCi (w : zWC) (t : Nat × Nat) (lev : Nat) (y : MethodName) (cc : ByteArray) (nL : Nat) (args : List Value) (W0 W1 : Heap → Prop) (mc ms : Nat) : Prop := Met (zl w) y (zws y cc nL none) { frames := lev, cells := mc, slots := ms, locals := 64 * lev } (va_Pc args (fun U => W0 U.heap ∧ zK w U ∧ zS3 w U U.heap ∧ zT3 w t U U.heap)) (fun _ st oc tt => oc = .returned none ∧ W1 tt.heap ∧ va_F (zA w) st tt) mc ms (zA w)
/-- a method's contract that reads the text alone -/
def zCp (w : zWC) (t : Nat × Nat) (lev : Nat) (y : MethodName) (cc : ByteArray) (nL : Nat) (ret : Option FieldType) (args : List Value) (r : Option Value) : Prop := Met (zl w) y (zws y cc nL ret) (zRoom lev) (va_Pc args (fun U => zK w U ∧ zS3 w U U.heap ∧ zT3 w t U U.heap)) (fun _ st oc tt => oc = .returned r ∧ tt.heap = st.heap) 0 0 (zA w)
theorem zCi_of {w : zWC} {t : Nat × Nat} {lev : Nat} {y : MethodName} {own : String} {cc : ByteArray} {nL : Nat} {args : List Value} {W0 W1 : Heap → Prop} {mc ms : Nat} (hy : plainFor y = true) (ho : y.cls = own) (hn : (lg_sl args).length ≤ nL) {lv : List (Option Value)} (hlv : zent args nL = lv)
    (h : ∀ x : zCX, zrt x = none → (xR x).cells = mc → (xR x).slots = ms → (xme x).name = y.name → zG (MQ (xb x) (fun _ st oc tt => oc = .returned none ∧ W1 tt.heap ∧ va_F (zA w) st tt) (xa x) (xs x) mc ms (zA w)) w t x own cc nL lev W0 0 0 0 lv []) : zCi w t lev y cc nL args W0 W1 mc ms := by
  subst ho
  subst hlv
  refine zMet (cc := cc) (maxL := nL) (ret := none) hy rfl ?_
  intro p e s m' args' below meth c s₁ B hml hv
  obtain ⟨rfl, hP, hK, hS3, hT3⟩ := hv
  have hts := atoms_spec (ws := zws y cc nL none) B.pre
  have hown : s.vm.findClass y.cls = some m'.cls := findClass_of_methodNamed B.named
  have hl := lv_entry args (n := nL) hn
  rw [lg_entry_eq]
  exact h (p, e, { frames := lev, cells := mc, slots := ms, locals := 64 * lev }, s, m', args.toArray, below, meth, c, 0, 0) B.returns rfl rfl (name_of_methodNamed B.named B.method).1 ⟨B.exec, B.bytes, hml, hown, fun q hq => hts q (List.mem_cons_of_mem _ hq), hK, hS3, ⟨Nat.le_refl _, Nat.le_refl _⟩, hT3, B.notSynchronized⟩ _ s.heap [] (zent_has hl) hP va_S.rf
theorem zCp_of {w : zWC} {t : Nat × Nat} {lev : Nat} {y : MethodName} {own : String} {cc : ByteArray} {nL : Nat} {ret : Option FieldType} {args : List Value} {r : Option Value} (hy : plainFor y = true) (ho : y.cls = own) (hn : (lg_sl args).length ≤ nL) {lv : List (Option Value)} (hlv : zent args nL = lv)
    (h : ∀ x : zCX, zrt x = ret → zG (MQ (xb x) (fun _ st oc tt => oc = .returned r ∧ tt.heap = st.heap) (xa x) (xs x) 0 0 (zA w)) w t x own cc nL lev (fun H => H = (xs x).heap) 0 0 0 lv []) : zCp w t lev y cc nL ret args r := by
  subst ho
  subst hlv
  refine zMet (cc := cc) (maxL := nL) (ret := ret) hy rfl ?_
  intro p e s m' args' below meth c s₁ B hml hv
  obtain ⟨rfl, hK, hS3, hT3⟩ := hv
  have hts := atoms_spec (ws := zws y cc nL ret) B.pre
  have hown : s.vm.findClass y.cls = some m'.cls := findClass_of_methodNamed B.named
  have hl := lv_entry args (n := nL) hn
  rw [lg_entry_eq]
  exact h (p, e, zRoom lev, s, m', args.toArray, below, meth, c, 0, 0) B.returns ⟨B.exec, B.bytes, hml, hown, fun q hq => hts q (List.mem_cons_of_mem _ hq), hK, hS3, ⟨Nat.le_refl _, Nat.le_refl _⟩, hT3, B.notSynchronized⟩ _ s.heap [] (zent_has hl) rfl va_S.rf
section ZR
variable {w : zWC} {t : Nat × Nat} {x : zCX} {own : String} {cc : ByteArray} {nL lev : Nat} {pc ce sl : Nat} {lv : List (Option Value)}
theorem zg_vret {W1 : Heap → Prop} (hr : zrt x = none) (d : decode cc pc = .ok (.return_, 1)) : zG (MQ (xb x) (fun _ st oc tt => oc = .returned none ∧ W1 tt.heap ∧ va_F (zA w) st tt) (xa x) (xs x) ce sl (zA w)) w t x own cc nL lev W1 ce sl pc lv [] := by
  intro ok ls H locs hl hP hS
  exact W.vret ok.1 ok.2.1 hr (fun tt ht hW => ⟨rfl, by rw [ht]; exact hP, hS.F ht⟩) (fun q hq => hS.2.2 q hq) d ok.2.2.2.2.2.2.2.2.2
theorem zg_pvret (hr : zrt x = none) (d : decode cc pc = .ok (.return_, 1)) : zG (MQ (xb x) (fun _ st oc tt => oc = .returned none ∧ tt.heap = st.heap) (xa x) (xs x) ce sl (zA w)) w t x own cc nL lev (fun H => H = (xs x).heap) ce sl pc lv [] := by
  intro ok ls H locs hl hP hS
  exact W.vret ok.1 ok.2.1 hr (fun tt ht hW => ⟨rfl, by rw [ht]; exact hP⟩) (fun q hq => hS.2.2 q hq) d ok.2.2.2.2.2.2.2.2.2
theorem zg_pret {v : Int32} {ty : FieldType} (hr : zrt x = some ty) (hn : narrow ty (.int v) = .int v) (d : decode cc pc = .ok (.ireturn, 1)) : zG (MQ (xb x) (fun _ st oc tt => oc = .returned (some (.int v)) ∧ tt.heap = st.heap) (xa x) (xs x) ce sl (zA w)) w t x own cc nL lev (fun H => H = (xs x).heap) ce sl pc lv [.int v] := by
  intro ok ls H locs hl hP hS
  exact W.zret (v := v) ok.1 ok.2.1 hr hn (fun tt ht hW => ⟨rfl, by rw [ht]; exact hP⟩) (fun q hq => hS.2.2 q hq) d ok.2.2.2.2.2.2.2.2.2
end ZR
theorem zg_preI {w : zWC} {t : Nat × Nat} {W0 : Heap → Prop} {s : State} {H : Heap} {locs : List Loc} (hP : W0 H) (hK : zK w s) (h3 : zS3 w s s.heap) (hT : zT3 w t s s.heap) (hS : va_S (zA w) s.heap H locs) (U : State) (hU : U.heap = H) (hW : s.WarmedH U.vm) : W0 U.heap ∧ zK w U ∧ zS3 w U U.heap ∧ zT3 w t U U.heap := ⟨by rw [hU]; exact hP, hK.warm hW, by rw [hU]; exact (h3.moved hW.alike).kept hS.2.1, by rw [hU]; exact (hT.warm hW).kept hS.2.1⟩
section ZH
variable {Q : State → Prop} {w : zWC} {t : Nat × Nat} {x : zCX} {own : String} {cc : ByteArray} {nL lev : Nat} {Wp : Heap → Prop} {ce sl pc : Nat} {lv : List (Option Value)} {st : List Value} {n : Nat} {S : Nat → Nat → Bool} {σ : zSt}
/-- new -/
theorem zg_new {ci N idx : Nat} {C : String} {T : u_T} (ty : Nat → FieldType) (d : decode cc pc = .ok (.new idx, 3)) (hcl : vwCl[ci]? = some (C, T, N)) (h10 : ci < 10) (hin : ∀ q ∈ u_ws C T N, q ∈ ztb) (hty : ∀ k, k < N → parseFieldDescriptor (T k).2.2.1 = some (ty k)) (hlk : Cond.classLink own idx C ∈ ztb) (hinst : Cond.instantiable C N ∈ ztb) (hini : Cond.initialized C ∈ ztb)
    (hz : zC n = ci) (hN : zN n = N) (hdef : ∀ k, k < N → (zF ci k = 0 ∧ defaultValue (ty k) = .int 0) ∨ (zF ci k = 1 ∧ defaultValue (ty k) = .long 0) ∨ (zF ci k = 2 ∧ defaultValue (ty k) = .null) ∨ (zF ci k = 3 ∧ defaultValue (ty k) = .null)) (hcells : ce + 1 ≤ (xR x).cells) (hslots : sl + N ≤ (xR x).slots)
    (kk : zG Q w t x own cc nL lev (zHp w (n + 1) S σ) (ce + 1) (sl + N) (pc + 3) lv (.ref (zb w + n) :: st)) : zG Q w t x own cc nL lev (zHp w n S σ) ce sl pc lv st := by
  intro ok ls H locs hl hP hS
  have hKn := ok.2.2.2.2.2.1.1.1 ci _ hcl
  refine W.newcK ok.1 ok.2.1 ok.2.2.2.1 (ok.2.2.2.2.1 _ hlk) (ok.2.2.2.2.1 _ hinst) (ok.2.2.2.2.1 _ hini) rfl d hcells hslots hKn.2.1 hP.1 fun H1 kC hkC e1 z1 o1 => ?_
  refine kk ok ls H1 locs hl ⟨by rw [z1]; omega, ?_, fun o ho k => hP.2.2 o (by omega) k⟩ ⟨Nat.le_trans hS.1 (by rw [z1, hP.1]; omega), fun q h1 h2 => (o1 q (by have := hS.1; rw [hP.1] at this; omega)).trans (hS.2.1 q h1 h2), hS.2.2⟩
  rw [zWn_succ]
  refine va_P.app (hP.2.1.kept fun k q hk => o1 q.1 (by rw [← hP.1]; exact (hP.2.1 k q hk).lt)) (fun k q hk => ?_)
  have hz1 : k < 1 := (List.getElem?_eq_some_iff.mp hk).1
  rw [show k = 0 by omega] at hk
  cases hk
  rw [zEn_O hz h10]
  refine ⟨_, hcl, (u_born ty ok.2.2.2.2.1 hin hKn hkC e1 hty).to fun j hj => ?_⟩
  have hz0 := hP.2.2 n (Nat.le_refl _) j
  unfold vp_V
  rw [List.getD_eq_getElem?_getD, List.getElem?_map, List.getElem?_range (by rw [hN]; exact hj)]
  simp only [Option.map_some, Option.getD_some]
  rcases hdef j hj with ⟨f, g⟩ | ⟨f, g⟩ | ⟨f, g⟩ | ⟨f, g⟩
  · rw [g]; simp only [zVn, f, hz0.1]
  · rw [g]; simp only [zVn, f, hz0.2.1]
  · rw [g]; simp only [zVn, f, hz0.2.2]; rfl
  · rw [g]; simp only [zVn, f, hz0.2.2]; rfl
theorem zg_newaI {len : Int32} (d : decode cc pc = .ok (.newarray .int, 2)) (harr : Cond.arrayClass .int ∈ ztb) (hz : zC n = 11) (hn : ¬ len < 0) (hN : len.toNatClampNeg = zN n) (hby : zN n * 8 ≤ 536870912) (hcells : ce + 1 ≤ (xR x).cells) (hslots : sl + zN n ≤ (xR x).slots)
    (kk : zG Q w t x own cc nL lev (zHp w (n + 1) S σ) (ce + 1) (sl + zN n) (pc + 2) lv (.ref (zb w + n) :: st)) : zG Q w t x own cc nL lev (zHp w n S σ) ce sl pc lv (.int len :: st) := by
  intro ok ls H locs hl hP hS
  refine va_newaK ok.1 ok.2.1 (atype := .int) (ok.2.2.2.2.1 _ harr) rfl d rfl hn hN (by show _ * _ ≤ _; simp only [newarray.typeOf, componentBytes]; omega) hcells hslots hP.1 fun H1 cA e1 z1 o1 hAr hNm => ?_
  have hk : cA = zkI w := Option.some.inj (hNm.symm.trans (ok.2.2.2.2.2.1.1.2 1 _ rfl).2)
  subst hk
  refine kk ok ls H1 locs hl ⟨by rw [z1]; omega, ?_, fun o ho k => hP.2.2 o (by omega) k⟩ ⟨Nat.le_trans hS.1 (by rw [z1, hP.1]; omega), fun q h1 h2 => (o1 q (by have := hS.1; rw [hP.1] at this; omega)).trans (hS.2.1 q h1 h2), hS.2.2⟩
  rw [zWn_succ]
  refine va_P.app (hP.2.1.kept fun k q hk => o1 q.1 (by rw [← hP.1]; exact (hP.2.1 k q hk).lt)) (fun k q hk => ?_)
  have hz1 : k < 1 := (List.getElem?_eq_some_iff.mp hk).1
  rw [show k = 0 by omega] at hk
  cases hk
  rw [zEn_I hz]
  show H1[zb w + n]? = some (vp_cell _ _)
  rw [e1]
  have hf : zI σ n = fun _ => 0 := by funext j; exact (hP.2.2 n (Nat.le_refl _) j).1
  rw [hf]
  rfl
theorem zg_newaJ {len : Int32} (d : decode cc pc = .ok (.newarray .long, 2)) (harr : Cond.arrayClass .long ∈ ztb) (hz : zC n = 12) (hn : ¬ len < 0) (hN : len.toNatClampNeg = zN n) (hby : zN n * 8 ≤ 536870912) (hcells : ce + 1 ≤ (xR x).cells) (hslots : sl + zN n ≤ (xR x).slots)
    (kk : zG Q w t x own cc nL lev (zHp w (n + 1) S σ) (ce + 1) (sl + zN n) (pc + 2) lv (.ref (zb w + n) :: st)) : zG Q w t x own cc nL lev (zHp w n S σ) ce sl pc lv (.int len :: st) := by
  intro ok ls H locs hl hP hS
  refine va_newaK ok.1 ok.2.1 (atype := .long) (ok.2.2.2.2.1 _ harr) rfl d rfl hn hN (by show _ * _ ≤ _; simp only [newarray.typeOf, componentBytes]; omega) hcells hslots hP.1 fun H1 cA e1 z1 o1 hAr hNm => ?_
  have hk : cA = zkJ w := Option.some.inj (hNm.symm.trans (ok.2.2.2.2.2.1.1.2 2 _ rfl).2)
  subst hk
  refine kk ok ls H1 locs hl ⟨by rw [z1]; omega, ?_, fun o ho k => hP.2.2 o (by omega) k⟩ ⟨Nat.le_trans hS.1 (by rw [z1, hP.1]; omega), fun q h1 h2 => (o1 q (by have := hS.1; rw [hP.1] at this; omega)).trans (hS.2.1 q h1 h2), hS.2.2⟩
  rw [zWn_succ]
  refine va_P.app (hP.2.1.kept fun k q hk => o1 q.1 (by rw [← hP.1]; exact (hP.2.1 k q hk).lt)) (fun k q hk => ?_)
  have hz1 : k < 1 := (List.getElem?_eq_some_iff.mp hk).1
  rw [show k = 0 by omega] at hk
  cases hk
  rw [zEn_J hz]
  show H1[zb w + n]? = some (vp_cell _ _)
  rw [e1]
  have hf : zL σ n = fun _ => 0 := by funext j; exact (hP.2.2 n (Nat.le_refl _) j).2.1
  rw [hf]
  rfl
theorem zg_newaB {len : Int32} (d : decode cc pc = .ok (.newarray .byte, 2)) (harr : Cond.arrayClass .byte ∈ ztb) (hz : zC n = 10) (hn : ¬ len < 0) (hN : len.toNatClampNeg = zN n) (hby : zN n * 8 ≤ 536870912) (hcells : ce + 1 ≤ (xR x).cells) (hslots : sl + zN n ≤ (xR x).slots)
    (kk : zG Q w t x own cc nL lev (zHp w (n + 1) S σ) (ce + 1) (sl + zN n) (pc + 2) lv (.ref (zb w + n) :: st)) : zG Q w t x own cc nL lev (zHp w n S σ) ce sl pc lv (.int len :: st) := by
  intro ok ls H locs hl hP hS
  refine va_newaK ok.1 ok.2.1 (atype := .byte) (ok.2.2.2.2.1 _ harr) rfl d rfl hn hN (by show _ * _ ≤ _; simp only [newarray.typeOf, componentBytes]; omega) hcells hslots hP.1 fun H1 cA e1 z1 o1 hAr hNm => ?_
  have hk : cA = zkB w := Option.some.inj (hNm.symm.trans (ok.2.2.2.2.2.1.1.2 0 _ rfl).2)
  subst hk
  refine kk ok ls H1 locs hl ⟨by rw [z1]; omega, ?_, fun o ho k => hP.2.2 o (by omega) k⟩ ⟨Nat.le_trans hS.1 (by rw [z1, hP.1]; omega), fun q h1 h2 => (o1 q (by have := hS.1; rw [hP.1] at this; omega)).trans (hS.2.1 q h1 h2), hS.2.2⟩
  rw [zWn_succ]
  refine va_P.app (hP.2.1.kept fun k q hk => o1 q.1 (by rw [← hP.1]; exact (hP.2.1 k q hk).lt)) (fun k q hk => ?_)
  have hz1 : k < 1 := (List.getElem?_eq_some_iff.mp hk).1
  rw [show k = 0 by omega] at hk
  cases hk
  rw [zEn_B hz]
  show H1[zb w + n]? = some (vp_cell _ _)
  rw [e1]
  have hf : zI σ n = fun _ => 0 := by funext j; exact (hP.2.2 n (Nat.le_refl _) j).1
  rw [hf]
  rfl
theorem zg_newaZ {len : Int32} (d : decode cc pc = .ok (.newarray .boolean, 2)) (harr : Cond.arrayClass .boolean ∈ ztb) (hz : zC n = 13) (hn : ¬ len < 0) (hN : len.toNatClampNeg = zN n) (hby : zN n * 8 ≤ 536870912) (hcells : ce + 1 ≤ (xR x).cells) (hslots : sl + zN n ≤ (xR x).slots)
    (kk : zG Q w t x own cc nL lev (zHp w (n + 1) S σ) (ce + 1) (sl + zN n) (pc + 2) lv (.ref (zb w + n) :: st)) : zG Q w t x own cc nL lev (zHp w n S σ) ce sl pc lv (.int len :: st) := by
  intro ok ls H locs hl hP hS
  refine va_newaK ok.1 ok.2.1 (atype := .boolean) (ok.2.2.2.2.1 _ harr) rfl d rfl hn hN (by show _ * _ ≤ _; simp only [newarray.typeOf, componentBytes]; omega) hcells hslots hP.1 fun H1 cA e1 z1 o1 hAr hNm => ?_
  have hk : cA = zkZ w := Option.some.inj (hNm.symm.trans (ok.2.2.2.2.2.1.1.2 3 _ rfl).2)
  subst hk
  refine kk ok ls H1 locs hl ⟨by rw [z1]; omega, ?_, fun o ho k => hP.2.2 o (by omega) k⟩ ⟨Nat.le_trans hS.1 (by rw [z1, hP.1]; omega), fun q h1 h2 => (o1 q (by have := hS.1; rw [hP.1] at this; omega)).trans (hS.2.1 q h1 h2), hS.2.2⟩
  rw [zWn_succ]
  refine va_P.app (hP.2.1.kept fun k q hk => o1 q.1 (by rw [← hP.1]; exact (hP.2.1 k q hk).lt)) (fun k q hk => ?_)
  have hz1 : k < 1 := (List.getElem?_eq_some_iff.mp hk).1
  rw [show k = 0 by omega] at hk
  cases hk
  rw [zEn_Z hz]
  show H1[zb w + n]? = some (vp_cell _ _)
  rw [e1]
  have hf : zI σ n = fun _ => 0 := by funext j; exact (hP.2.2 n (Nat.le_refl _) j).1
  rw [hf]
  rfl
theorem zEn_sI {w : zWC} {S : Nat → Nat → Bool} {σ : zSt} {o k : Nat} {v : Int32} (j : Nat) (hj : j ≠ o) : zEn w S (zsI σ o k v) j = zEn w S σ j := zEn_ne (by funext q; rw [zI_sI, if_neg (fun h => hj h.1)]) rfl rfl rfl
theorem zEn_sL {w : zWC} {S : Nat → Nat → Bool} {σ : zSt} {o k : Nat} {v : Int64} (j : Nat) (hj : j ≠ o) : zEn w S (zsL σ o k v) j = zEn w S σ j := zEn_ne rfl (by funext q; rw [zL_sL, if_neg (fun h => hj h.1)]) rfl rfl
theorem zEn_sS {w : zWC} {S : Nat → Nat → Bool} {σ : zSt} {o k : Nat} (j : Nat) (hj : j ≠ o) : zEn w (zsS S o k) σ j = zEn w S σ j := zEn_ne rfl rfl rfl (by funext q; unfold zsS; simp [hj])
theorem zEn_sR {w : zWC} {S : Nat → Nat → Bool} {σ : zSt} {o k v : Nat} (j : Nat) (hj : j ≠ o) : zEn w (zsS S o k) (zsR σ o k v) j = zEn w S σ j := zEn_ne rfl rfl (by funext q; rw [zR_sR, if_neg (fun h => hj h.1)]) (by funext q; unfold zsS; simp [hj])
theorem zva_put {H : Heap} {locs : List Loc} {ls : Array Slot} {rest : List Value} {C : String} {T : u_T} {N ci k idx : Nat} {ws : va_W} {q0 a : Nat} {fs : List Value} {v : Value} {ty : FieldType} (fin : Bool) (ok : zOH w t x own cc nL lev) (hin : ∀ q ∈ u_ws C T N, q ∈ ztb) (ty0 : Nat → FieldType) (hty : ∀ k, k < N → parseFieldDescriptor (T k).2.2.1 = some (ty0 k)) (hnm : ∀ a, a < N → ∀ b, b < N → a ≠ b → (T a).2.1 ≠ (T b).2.1)
    (hP : va_P (zD w) vwCl ws H) (hD : va_D (zA w) ws) (hS : va_S (zA w) (xs x).heap H locs) (he : ws[q0]? = some (a, .inr (ci, fs))) (hc : vwCl[ci]? = some (C, T, N)) (hk : k < N) (hlk : Cond.fieldLink own idx (T k).1 (T k).2.1 (T k).2.2.1 ∈ ztb) (hfin : (T k).2.2.2 = fin) (hfi : fin = true → (xme x).name = "<init>" ∧ (T k).1 = own) (hd : parseFieldDescriptor (T k).2.2.1 = some ty) (hn : narrow ty v = v) (hfit : fits ty v = true) (hl : k < fs.length) (hdg : decode cc pc = .ok (.putfield idx, 3))
    (kk : ∀ (H1 : Heap) (locs1 : List Loc), H1.size = H.size → va_P (zD w) vwCl (ws.set q0 (a, .inr (ci, fs.set k v))) H1 → va_S (zA w) (xs x).heap H1 locs1 → W (xp x) (zl w) (xe x) (xR x) (xs x) (xm x) (xa x) (xb x) (xme x) (xc x) H1 locs1 ce sl Q (F0 (xm x) (pc + 3) ls rest)) : W (xp x) (zl w) (xe x) (xR x) (xs x) (xm x) (xa x) (xb x) (xme x) (xc x) H locs ce sl Q (F0 (xm x) pc ls (v :: .ref a :: rest)) := by
  obtain ⟨hx, hb, hml, hown, hts, hKK, h3, hrm, hT3, hlkk⟩ := ok
  have hK := hKK.1
  have hlink := hts _ hlk
  have hap := va_apart (own := own) hts hin ty0 hty hnm hK hc
  obtain ⟨r, h1, cell, q1, q2, q3, q4⟩ := hP q0 _ he
  have hr : r = (C, T, N) := Option.some.inj (h1.symm.trans hc)
  subst hr
  obtain ⟨hSl, hfc, kC, hkC, hkind⟩ := hK.1 ci _ hc
  obtain ⟨cf, kf, fi, f, hi, hsl⟩ := hSl k hk
  have hlay := hts _ (hin _ (u_in_lay hk))
  unfold u_lay at hlay
  have hst := (u_facts hfc hkC (u_lays hts hin hk) hi).1
  cases fin with
  | false =>
    rw [if_neg (by rw [hfin]; decide)] at hlay
    have h6 := u_store hfc hkC hkind hlay hi hd hn hfit
    refine W.putK hx hb (f := f) ⟨hown, hlink, ⟨_, _, _, hi⟩, hst⟩ (by rw [q2]; exact h6) q1 q3 (by rw [hsl]; exact k2_hasslot (q4 k hk)) rfl rfl hdg fun H' e1 e2 e3 => ?_
    rw [hsl] at e1 ⊢
    exact kk H' _ e2 (hP.set hD he ⟨_, hc, t_OB.to (V := updV (vp_V fs) k v) ⟨_, e1, q2, q3, t_set q4 hap hk v⟩ (fun j _ => vp_updV_set hl v j)⟩ e3) (hS.put e2 e3 (hD.2 q0 _ he))
  | true =>
    rw [if_pos hfin] at hlay
    obtain ⟨hin2, hdecl⟩ := hfi rfl
    have hcf : (xm x).cls = cf := by
      obtain ⟨_, _, c', _, _, _, -, -, hf', -, -, -, hown2, -⟩ := Cond.laysFinal_spec hlay
      have e1 : c' = cf := by have := hi.symm.trans hf'; simp at this; exact this.1.symm
      rw [hdecl] at hown2
      rw [← e1]; exact Option.some.inj (hown.symm.trans hown2)
    have h6 := u_fits hfc hkC hkind (Or.inr hlay) hi hd hn hfit
    refine W.putFinK hx hb hown hlink hi hst hcf hin2 (by rw [q2]; exact h6) q1 q3 (by rw [hsl]; exact k2_hasslot (q4 k hk)) rfl rfl hdg fun H' e1 e2 e3 => ?_
    rw [hsl] at e1 ⊢
    exact kk H' _ e2 (hP.set hD he ⟨_, hc, t_OB.to (V := updV (vp_V fs) k v) ⟨_, e1, q2, q3, t_set q4 hap hk v⟩ (fun j _ => vp_updV_set hl v j)⟩ e3) (hS.put e2 e3 (hD.2 q0 _ he))
theorem zg_putI {ci k idx o : Nat} {v : Int32} {ty : FieldType} (d : decode cc pc = .ok (.putfield idx, 3)) (hf : zFL own idx ci k) (hk : zF ci k = 0) (ho : zC o = ci) (hon : o < n) (hd : ∀ C T N, vwCl[ci]? = some (C, T, N) → (T k).2.2.2 = false ∧ (T k).1 = C ∧ parseFieldDescriptor (T k).2.2.1 = some ty) (hnr : narrow ty (.int v) = .int v) (hfit : fits ty (.int v) = true) 
    (kk : zG Q w t x own cc nL lev (zHp w n S (zsI σ o k v)) ce sl (pc + 3) lv st) : zG Q w t x own cc nL lev (zHp w n S σ) ce sl pc lv (.int v :: .ref (zb w + o) :: st) := by
  intro ok ls H locs hl hP hS
  obtain ⟨h10, C, T, N, ty0, hc, hkN, hlk, hin, hty, hnm, hN⟩ := hf
  have hcell := zWn_at w S σ hon
  rw [zEn_O ho h10] at hcell
  obtain ⟨hd1, hd3, hd2⟩ := hd C T N hc
  refine zva_put (q0 := o) (v := .int v) (ty := ty) false ok hin ty0 hty hnm hP.2.1 (zWn_D w n S σ) hS hcell hc hkN hlk hd1 (fun h => by cases h) hd2 hnr hfit (by simp [hN o ho]; exact hkN) d (fun H1 locs1 hz hP1 hS1 => kk ok ls H1 locs1 hl ⟨by rw [hz]; exact hP.1, ?_, ?_⟩ hS1)
  · rw [zWn_set w (S' := S) (σ' := (zsI σ o k v)) hon ?_ (fun j hj => zEn_sI j hj)] at hP1
    · exact hP1
    · rw [zEn_O ho h10, zset_f (g := zVn w S (zsI σ o k v) o ci) ?_ (fun j hj => ?_)]
      · simp only [zVn, hk, zI_sI]; simp
      · unfold zVn; rw [zI_sI, if_neg (fun q => hj q.2)]; rfl
  · intro o' ho' k'
    have h0 := hP.2.2 o' ho' k'
    have hne : o' ≠ o := by omega
    rw [zI_sI, if_neg (fun h => hne h.1)]; exact h0
theorem zg_putL {ci k idx o : Nat} {v : Int64} {ty : FieldType} (d : decode cc pc = .ok (.putfield idx, 3)) (hf : zFL own idx ci k) (hk : zF ci k = 1) (ho : zC o = ci) (hon : o < n) (hd : ∀ C T N, vwCl[ci]? = some (C, T, N) → (T k).2.2.2 = false ∧ (T k).1 = C ∧ parseFieldDescriptor (T k).2.2.1 = some ty) (hnr : narrow ty (.long v) = .long v) (hfit : fits ty (.long v) = true) 
    (kk : zG Q w t x own cc nL lev (zHp w n S (zsL σ o k v)) ce sl (pc + 3) lv st) : zG Q w t x own cc nL lev (zHp w n S σ) ce sl pc lv (.long v :: .ref (zb w + o) :: st) := by
  intro ok ls H locs hl hP hS
  obtain ⟨h10, C, T, N, ty0, hc, hkN, hlk, hin, hty, hnm, hN⟩ := hf
  have hcell := zWn_at w S σ hon
  rw [zEn_O ho h10] at hcell
  obtain ⟨hd1, hd3, hd2⟩ := hd C T N hc
  refine zva_put (q0 := o) (v := .long v) (ty := ty) false ok hin ty0 hty hnm hP.2.1 (zWn_D w n S σ) hS hcell hc hkN hlk hd1 (fun h => by cases h) hd2 hnr hfit (by simp [hN o ho]; exact hkN) d (fun H1 locs1 hz hP1 hS1 => kk ok ls H1 locs1 hl ⟨by rw [hz]; exact hP.1, ?_, ?_⟩ hS1)
  · rw [zWn_set w (S' := S) (σ' := (zsL σ o k v)) hon ?_ (fun j hj => zEn_sL j hj)] at hP1
    · exact hP1
    · rw [zEn_O ho h10, zset_f (g := zVn w S (zsL σ o k v) o ci) ?_ (fun j hj => ?_)]
      · simp only [zVn, hk, zL_sL]; simp
      · unfold zVn; rw [zL_sL, if_neg (fun q => hj q.2)]; rfl
  · intro o' ho' k'
    have h0 := hP.2.2 o' ho' k'
    have hne : o' ≠ o := by omega
    rw [zL_sL, if_neg (fun h => hne h.1)]; exact h0
theorem zg_putT {ci k idx o : Nat} {v : Nat} {ty : FieldType} (d : decode cc pc = .ok (.putfield idx, 3)) (hf : zFL own idx ci k) (hk : zF ci k = 2) (ho : zC o = ci) (hon : o < n) (hd : ∀ C T N, vwCl[ci]? = some (C, T, N) → (T k).2.2.2 = true ∧ (T k).1 = C ∧ parseFieldDescriptor (T k).2.2.1 = some ty) (hin2 : (xme x).name = "<init>") (hoC : ∀ C T N, vwCl[ci]? = some (C, T, N) → C = own) (hnr : narrow ty (.ref (zb w + v)) = .ref (zb w + v)) (hfit : fits ty (.ref (zb w + v)) = true) (hv : zT o k = v)
    (kk : zG Q w t x own cc nL lev (zHp w n (zsS S o k) σ) ce sl (pc + 3) lv st) : zG Q w t x own cc nL lev (zHp w n S σ) ce sl pc lv (.ref (zb w + v) :: .ref (zb w + o) :: st) := by
  intro ok ls H locs hl hP hS
  obtain ⟨h10, C, T, N, ty0, hc, hkN, hlk, hin, hty, hnm, hN⟩ := hf
  have hcell := zWn_at w S σ hon
  rw [zEn_O ho h10] at hcell
  obtain ⟨hd1, hd3, hd2⟩ := hd C T N hc
  refine zva_put (q0 := o) (v := .ref (zb w + v)) (ty := ty) true ok hin ty0 hty hnm hP.2.1 (zWn_D w n S σ) hS hcell hc hkN hlk hd1 (fun _ => ⟨hin2, by rw [hd3]; exact hoC C T N hc⟩) hd2 hnr hfit (by simp [hN o ho]; exact hkN) d (fun H1 locs1 hz hP1 hS1 => kk ok ls H1 locs1 hl ⟨by rw [hz]; exact hP.1, ?_, ?_⟩ hS1)
  · rw [zWn_set w (S' := (zsS S o k)) (σ' := σ) hon ?_ (fun j hj => zEn_sS j hj)] at hP1
    · exact hP1
    · rw [zEn_O ho h10, zset_f (g := zVn w (zsS S o k) σ o ci) ?_ (fun j hj => ?_)]
      · simp only [zVn, hk, zsS]; simp [hv]
      · unfold zVn zsS; simp [hj]
  · intro o' ho' k'
    have h0 := hP.2.2 o' ho' k'
    have hne : o' ≠ o := by omega
    refine ⟨h0.1, h0.2.1, ?_⟩; unfold zsS; simp [hne, h0.2.2]
theorem zg_putR {ci k idx o : Nat} {v : Nat} {ty : FieldType} (d : decode cc pc = .ok (.putfield idx, 3)) (hf : zFL own idx ci k) (hk : zF ci k = 3) (ho : zC o = ci) (hon : o < n) (hd : ∀ C T N, vwCl[ci]? = some (C, T, N) → (T k).2.2.2 = false ∧ (T k).1 = C ∧ parseFieldDescriptor (T k).2.2.1 = some ty) (hnr : narrow ty (.ref (zb w + v)) = .ref (zb w + v)) (hfit : fits ty (.ref (zb w + v)) = true) 
    (kk : zG Q w t x own cc nL lev (zHp w n (zsS S o k) (zsR σ o k v)) ce sl (pc + 3) lv st) : zG Q w t x own cc nL lev (zHp w n S σ) ce sl pc lv (.ref (zb w + v) :: .ref (zb w + o) :: st) := by
  intro ok ls H locs hl hP hS
  obtain ⟨h10, C, T, N, ty0, hc, hkN, hlk, hin, hty, hnm, hN⟩ := hf
  have hcell := zWn_at w S σ hon
  rw [zEn_O ho h10] at hcell
  obtain ⟨hd1, hd3, hd2⟩ := hd C T N hc
  refine zva_put (q0 := o) (v := .ref (zb w + v)) (ty := ty) false ok hin ty0 hty hnm hP.2.1 (zWn_D w n S σ) hS hcell hc hkN hlk hd1 (fun h => by cases h) hd2 hnr hfit (by simp [hN o ho]; exact hkN) d (fun H1 locs1 hz hP1 hS1 => kk ok ls H1 locs1 hl ⟨by rw [hz]; exact hP.1, ?_, ?_⟩ hS1)
  · rw [zWn_set w (S' := (zsS S o k)) (σ' := (zsR σ o k v)) hon ?_ (fun j hj => zEn_sR j hj)] at hP1
    · exact hP1
    · rw [zEn_O ho h10, zset_f (g := zVn w (zsS S o k) (zsR σ o k v) o ci) ?_ (fun j hj => ?_)]
      · simp only [zVn, hk, zsS, zR_sR]; simp
      · unfold zVn zsS; simp [hj, zR_sR, zI_sR, zL_sR]
  · intro o' ho' k'
    have h0 := hP.2.2 o' ho' k'
    have hne : o' ≠ o := by omega
    refine ⟨h0.1, h0.2.1, ?_⟩; unfold zsS; simp [hne, h0.2.2]
theorem zg_getT {ci k idx o : Nat} (d : decode cc pc = .ok (.getfield idx, 3)) (hf : zFL own idx ci k) (hk : zF ci k = 2) (ho : zC o = ci) (hon : o < n) (hs : S o k = true) (kk : zG Q w t x own cc nL lev (zHp w n S σ) ce sl (pc + 3) lv (.ref (zb w + zT o k) :: st)) : zG Q w t x own cc nL lev (zHp w n S σ) ce sl pc lv (.ref (zb w + o) :: st) := by
  intro ok ls H locs hl hP hS
  obtain ⟨h10, C, T, N, ty0, hc, hkN, hlk, hin, hty, hnm, hN⟩ := hf
  have hcell := zWn_at w S σ hon
  rw [zEn_O ho h10] at hcell
  refine va_get (D := zD w) (ci := ci) (v := .ref (zb w + zT o k)) (C := C) (T := T) (N := N) ok.1 ok.2.1 ok.2.2.2.2.1 hin ok.2.2.2.1 ok.2.2.2.2.2.1.1 hP.2.1 o hcell hc k hkN (ok.2.2.2.2.1 _ hlk) (fun _ h => h) ?_ d (kk ok ls H locs hl hP hS)
  rw [List.getElem?_map, List.getElem?_range (by rw [hN o ho]; exact hkN)]
  simp only [Option.map_some, zVn, hk, hs, if_true]
theorem zg_last {o : Nat} {i : Int32} {v : Int64} (d : decode cc pc = .ok (.lastore, 1)) (ho : zC o = 12) (hon : o < n) (hin : ¬ (i < 0 ∨ zN o ≤ i.toNatClampNeg)) (kk : zG Q w t x own cc nL lev (zHp w n S (zsL σ o i.toNatClampNeg v)) ce sl (pc + 1) lv st) : zG Q w t x own cc nL lev (zHp w n S σ) ce sl pc lv (.long v :: .int i :: .ref (zb w + o) :: st) := by
  intro ok ls H locs hl hP hS
  have hcell := zWn_at w S σ hon
  rw [zEn_J ho] at hcell
  refine W.last ok.1 ok.2.1 (hP.2.1 o _ hcell) ((ok.2.2.2.2.2.1.1.2 2 _ rfl).1 (zN o) (fun j => .long (zL σ o j))) (fun q => by cases q) (by show ¬ (i < 0 ∨ (arrV _ _ _).slots.size ≤ _); rw [arrV_size]; exact hin) rfl rfl d fun H1 e z oq => ?_
  have hP1 := hP.2.1.set (zWn_D w n S σ) hcell (e := .inl (zkJ w, zN o, .inr (.inl (zL (zsL σ o i.toNatClampNeg v) o)))) (H1 := H1) (by
    show H1[zb w + o]? = some (vp_cell _ _)
    rw [e, vp_cell_l, vp_cell_l, arrV_store]
    congr 2
    funext q
    by_cases hq : q = i.toNatClampNeg
    · subst hq
      simp [updV, zL_sL]
    · simp [updV, zL_sL, hq]) oq
  rw [zWn_set w (S' := S) (σ' := zsL σ o i.toNatClampNeg v) hon (by rw [zEn_J ho]) (fun j hj => zEn_sL j hj)] at hP1
  refine kk ok ls H1 _ hl ⟨by rw [z]; exact hP.1, hP1, fun o' ho' k' => ?_⟩ (hS.put z oq (show zb w ≤ zb w + o by omega))
  have hne : o' ≠ o := by omega
  rw [zL_sL, if_neg (fun h => hne h.1)]
  exact hP.2.2 o' ho' k'
theorem zg_getsU {idx : Nat} (d : decode cc pc = .ok (.getstatic idx, 3)) (hn : (own, idx, "LeadBalls", "UNTOLD_SETTING", "[I", "LeadBalls") ∈ zNF) (kk : zG Q w t x own cc nL lev Wp ce sl (pc + 3) lv (.ref (ztU w) :: st)) : zG Q w t x own cc nL lev Wp ce sl pc lv st := by
  intro ok ls H locs hl hP hS
  exact va_getsN (A := zA w) ok.1 ok.2.1 ok.2.2.2.2.2.2.1.1.1 hS ok.2.2.2.1 (va_Nw.use rfl (ok.2.2.2.2.2.1.2.2 _ hn)) (fun _ h => h) d (kk ok ls H locs hl hP hS)
/-- clone of the table of what is untold -/
theorem zg_clone {idx : Nat} (d : decode cc pc = .ok (.invokevirtual idx, 3)) (hlk : Cond.methodLink own idx ⟨"[I", "clone", "()Ljava/lang/Object;"⟩ ∈ ztb) (hsm : Cond.sameMethod "[I" "java/lang/Object" "clone" "()Ljava/lang/Object;" ∈ ztb) (hnat : Cond.native ⟨"java/lang/Object", "clone", "()Ljava/lang/Object;"⟩ ∈ ztb) (hinst : Cond.instanceMethod ⟨"java/lang/Object", "clone", "()Ljava/lang/Object;"⟩ ∈ ztb) (hsel : Cond.selects "[I" ⟨"[I", "clone", "()Ljava/lang/Object;"⟩ ⟨"java/lang/Object", "clone", "()Ljava/lang/Object;"⟩ ∈ ztb)
    (hz : zC n = 11) (hN : zN n = 11) (hlev : 1 ≤ lev) (hcat : (st.map fun v => v.category).sum ≤ 8) (hcells : ce + 1 ≤ (xR x).cells) (hslots : sl + 11 ≤ (xR x).slots) (kk : zG Q w t x own cc nL lev (zHp w (n + 1) S (zcpU σ n)) (ce + 1) (sl + 11) (pc + 3) lv (.ref (zb w + n) :: st)) : zG Q w t x own cc nL lev (zHp w n S σ) ce sl pc lv (.ref (ztU w) :: st) := by
  intro ok ls H locs hl hP hS
  obtain ⟨hx, hb, hml, hown, hts, hK, h3, hrm, hT3, hlkk⟩ := id ok
  obtain ⟨hfc, hcas, cell, c1, c2, c3, c4, c5, c6, c7⟩ := hT3.2.2.2.2.2.2.2
  have hcH : H[ztU w]? = some cell := by rw [hS.2.1 _ (Array.getElem?_eq_some_iff.mp c1).1 c7]; exact c1
  obtain ⟨g1, g2, f1, f2, f3⟩ := Cond.castable_spec (va_Nw.use (A := xa x) rfl hcas)
  cases hfc.symm.trans f1
  obtain ⟨-, kS, hkS, compS, hkindS⟩ := (hK.1.2 1 _ rfl).1 0 (fun _ => .null)
  have hkS : (xs x).vm.classes[zkI w]? = some kS := hkS
  intro T hT X
  obtain ⟨-, kA, hkA, comp, hkind⟩ := State.isArrayOf_alike X.warmed.alike ((hK.1.2 1 _ rfl).1 0 (fun _ => .null))
  have hkA : T.vm.classes[zkI w]? = some kA := hkA
  obtain ⟨vm', X', stp⟩ := X.cloneArray hx hown (hts _ hlk) (hts _ hsm) (hts _ hnat) (hts _ hinst) (hts _ hsel) (a := ztU w) (cell := cell) (by rw [hT]; exact hcH) c4 c3 (by rw [c2]; exact hfc) f2 (by rw [c2]; exact f3)
    (fun i v hv => by
      rw [c2]
      have hi : i < 11 := by rw [← c5]; exact (Array.getElem?_eq_some_iff.mp hv).1
      rw [c6 i hi] at hv
      cases hv
      simp [State.fitsSlot, State.slotType?, hkA, hkind]
      rfl)
    (g := F0 (xm x) pc ls (.ref (ztU w) :: st)) rfl (by rw [hml]; exact hl.1) rfl (by rw [hb]; exact d) (by omega) (by show 2 * 0 + _ + 14 ≤ _; omega) hcells (by rw [c5]; exact hslots) (hloader := by rw [c2]; exact Vm.clonesLoader_of_array hkS hkindS)
  have hce : ({ cls := cell.cls, slots := cell.slots } : Cell) = vp_cell (zkI w) (zN n, .inl (zI (zcpU σ n) n)) := by
    rw [vp_cell_i, hN]
    have : cell.slots = (arrV (zkI w) 11 (fun j => .int (zI (zcpU σ n) n j))).slots := by
      apply Array.ext
      · rw [c5, arrV_size]
      · intro i h1 h2
        have hi : i < 11 := by rw [← c5]; exact h1
        have e1 := c6 i hi
        have e2 := arrV_read (zkI w) (fun j => Value.int (zI (zcpU σ n) n j)) hi
        rw [Array.getElem?_eq_getElem h1] at e1
        rw [Array.getElem?_eq_getElem h2] at e2
        rw [Option.some.inj e1, Option.some.inj e2]
        show _ = Value.int (if n = n ∧ i < 11 then ztabU i else σ.1 n i)
        simp [hi]
    rw [c2, this]
    rfl
  rw [hce, c5] at X'
  rw [hce] at stp
  generalize hH1 : H.push (vp_cell (zkI w) (zN n, .inl (zI (zcpU σ n) n))) = H1
  have z1 : H1.size = H.size + 1 := by rw [← hH1, Array.size_push]
  have e1 : H1[H.size]? = some (vp_cell (zkI w) (zN n, .inl (zI (zcpU σ n) n))) := by rw [← hH1, Array.getElem?_push_size]
  have o1 : ∀ q : Nat, q < H.size → H1[q]? = H[q]? := fun q hq => by rw [← hH1, Array.getElem?_push, if_neg (Nat.ne_of_lt hq)]
  have hz0 : ∀ j, j ≠ n → zEn w S (zcpU σ n) j = zEn w S σ j := fun j hj => zEn_ne (by funext q; show (if j = n ∧ q < 11 then _ else _) = _; rw [if_neg (fun h => hj h.1)]; rfl) rfl rfl rfl
  have hPW : va_P (zD w) vwCl (zWn w (n + 1) S (zcpU σ n)) H1 := by
    rw [zWn_succ]
    refine va_P.app ?_ (fun k q hk => ?_)
    · have he : zWn w n S (zcpU σ n) = zWn w n S σ := by
        unfold zWn
        refine List.map_congr_left fun o ho => ?_
        have := List.mem_range.mp ho
        rw [hz0 o (by omega)]
      rw [he]
      exact hP.2.1.kept fun k q hk => o1 q.1 (hP.2.1 k q hk).lt
    · have hz1 : k < 1 := (List.getElem?_eq_some_iff.mp hk).1
      rw [show k = 0 by omega] at hk
      cases hk
      rw [zEn_I hz]
      show H1[zb w + n]? = _
      rw [← hP.1]
      exact e1
  have hZZ : zZ (n + 1) S (zcpU σ n) := by
    intro o ho k
    have h0 := hP.2.2 o (by omega) k
    refine ⟨?_, h0.2.1, h0.2.2⟩
    show (if o = n ∧ k < 11 then _ else _) = _
    rw [if_neg (fun h => by omega)]
    exact h0.1
  obtain ⟨t2, b1, b2⟩ := kk ok ls H1 locs hl ⟨by rw [z1, hP.1]; omega, hPW, hZZ⟩ ⟨Nat.le_trans hS.1 (by rw [z1]; omega), fun y h1 h2 => (o1 y (Nat.lt_of_lt_of_le h1 hS.1)).trans (hS.2.1 y h1 h2), hS.2.2⟩ ((T.setVm vm').pushCell (vp_cell (zkI w) (zN n, .inl (zI (zcpU σ n) n)))) (by rw [← hH1, ← hT]; rfl) X'
  refine ⟨t2, stp t2 ?_, b2⟩
  rw [hT, hP.1]
  exact b1
theorem zg_cast {idx o : Nat} (d : decode cc pc = .ok (.checkcast idx, 3)) (hlk : Cond.classLink own idx "[I" ∈ ztb) (ho : zC o = 11) (hon : o < n) (kk : zG Q w t x own cc nL lev (zHp w n S σ) ce sl (pc + 3) lv (.ref (zb w + o) :: st)) : zG Q w t x own cc nL lev (zHp w n S σ) ce sl pc lv (.ref (zb w + o) :: st) := by
  intro ok ls H locs hl hP hS
  have hcell := zWn_at w S σ hon
  rw [zEn_I ho] at hcell
  exact va_castA ok.1 ok.2.1 ok.2.2.2.1 (ok.2.2.2.2.1 _ hlk) hP.2.1 o hcell ok.2.2.2.2.2.2.2.2.1.2.2.2.2.2.2.2.1 d (kk ok ls H locs hl hP hS)
theorem zg_ldcS {idx : Nat} (d : decode cc pc = .ok (.ldc idx, 2)) (ho : own = "LeadBalls$Reader") (hi : idx = 26) (kk : zG Q w t x own cc nL lev Wp ce sl (pc + 2) lv (.ref t.1 :: st)) : zG Q w t x own cc nL lev Wp ce sl pc lv st := by
  intro ok ls H locs hl hP hS
  subst ho; subst hi
  exact va_ldcS ok.1 ok.2.1 ok.2.2.2.1 ok.2.2.2.2.2.2.2.2.1.1 d (kk ok ls H locs hl hP hS)
theorem zg_compact {idx : Nat} (d : decode cc pc = .ok (.getstatic idx, 3)) (hlk : Cond.fieldLink own idx "java/lang/String" "COMPACT_STRINGS" "Z" ∈ ztb) (kk : zG Q w t x own cc nL lev Wp ce sl (pc + 3) lv (.int 1 :: st)) : zG Q w t x own cc nL lev Wp ce sl pc lv st := by
  intro ok ls H locs hl hP hS
  exact va_gets (A := zA w) ok.1 ok.2.1 ok.2.2.2.2.2.2.2.2.1.2.2.2.2.2.1 hS ok.2.2.2.1 (ok.2.2.2.2.1 _ hlk) (fun _ h => h) d (kk ok ls H locs hl hP hS)
theorem zg_form {idx : Nat} (d : decode cc pc = .ok (.getstatic idx, 3)) (hlk : Cond.fieldLink own idx "jdk/internal/util/Preconditions" "SIOOBE_FORMATTER" "Ljava/util/function/BiFunction;" ∈ ztb) (kk : ∀ v : Value, v.category = 1 → zG Q w t x own cc nL lev Wp ce sl (pc + 3) lv (v :: st)) : zG Q w t x own cc nL lev Wp ce sl pc lv st := by
  intro ok ls H locs hl hP hS
  rcases ok.2.2.2.2.2.2.2.2.1.2.2.2.2.2.2.1 with h | ⟨q, h⟩
  · exact va_gets (A := zA w) ok.1 ok.2.1 h hS ok.2.2.2.1 (ok.2.2.2.2.1 _ hlk) (fun _ h => h) d (kk .null rfl ok ls H locs hl hP hS)
  · exact va_gets (A := zA w) ok.1 ok.2.1 h hS ok.2.2.2.1 (ok.2.2.2.2.1 _ hlk) (fun _ h => h) d (kk (.ref q) rfl ok ls H locs hl hP hS)
theorem zg_coder {idx : Nat} (d : decode cc pc = .ok (.getfield idx, 3)) (hlk : Cond.fieldLink own idx "java/lang/String" "coder" "B" ∈ ztb) (kk : zG Q w t x own cc nL lev Wp ce sl (pc + 3) lv (.int 0 :: st)) : zG Q w t x own cc nL lev Wp ce sl pc lv (.ref t.1 :: st) := by
  intro ok ls H locs hl hP hS
  exact vk_getf (A := zA w) ok.1 ok.2.1 ok.2.2.2.2.2.2.2.2.1.2.2.1 hS ok.2.2.2.1 (ok.2.2.2.2.1 _ hlk) (fun _ h => h) d (kk ok ls H locs hl hP hS)
theorem zg_value {idx : Nat} (d : decode cc pc = .ok (.getfield idx, 3)) (hlk : Cond.fieldLink own idx "java/lang/String" "value" "[B" ∈ ztb) (kk : zG Q w t x own cc nL lev Wp ce sl (pc + 3) lv (.ref t.2 :: st)) : zG Q w t x own cc nL lev Wp ce sl pc lv (.ref t.1 :: st) := by
  intro ok ls H locs hl hP hS
  exact vk_getf (A := zA w) ok.1 ok.2.1 ok.2.2.2.2.2.2.2.2.1.2.2.2.1 hS ok.2.2.2.1 (ok.2.2.2.2.1 _ hlk) (fun _ h => h) d (kk ok ls H locs hl hP hS)
theorem zg_tlen (d : decode cc pc = .ok (.arraylength, 1)) (kk : zG Q w t x own cc nL lev Wp ce sl (pc + 1) lv (.int 106 :: st)) : zG Q w t x own cc nL lev Wp ce sl pc lv (.ref t.2 :: st) := by
  intro ok ls H locs hl hP hS
  exact va_tlen (A := zA w) ok.1 ok.2.1 ok.2.2.2.2.2.2.2.2.1.2.2.2.2.1 hS rfl d (kk ok ls H locs hl hP hS)
theorem zg_tbald {i : Int32} (d : decode cc pc = .ok (.baload, 1)) (hi : vp_in i 106) (kk : zG Q w t x own cc nL lev Wp ce sl (pc + 1) lv (.int (zby i.toNatClampNeg) :: st)) : zG Q w t x own cc nL lev Wp ce sl pc lv (.int i :: .ref t.2 :: st) := by
  intro ok ls H locs hl hP hS
  exact va_tb (A := zA w) ok.1 ok.2.1 ok.2.2.2.2.2.2.2.2.1.2.2.2.2.1 hS hi rfl d (kk ok ls H locs hl hP hS)
theorem zg_blindI {W0 : Heap → Prop} {av : List Value} : FrameBlind (va_Pc av (fun U => W0 U.heap ∧ zK w U ∧ zS3 w U U.heap ∧ zT3 w t U U.heap)) := by
  intro a U g mk h
  obtain ⟨h1, h2, h3, h4, h5⟩ := h
  exact ⟨h1, h2, h3.same rfl, zS3.moved (u := U) (U := U.calling g mk a) (Vm.Alike.refl U.vm) h4, zT3.same (s := U) (U := U.calling g mk a) rfl h5⟩
theorem zg_blindP {av : List Value} : FrameBlind (va_Pc av (fun U => zK w U ∧ zS3 w U U.heap ∧ zT3 w t U U.heap)) := by
  intro a U g mk h
  obtain ⟨h1, h3, h4, h5⟩ := h
  exact ⟨h1, h3.same rfl, zS3.moved (u := U) (U := U.calling g mk a) (Vm.Alike.refl U.vm) h4, zT3.same (s := U) (U := U.calling g mk a) rfl h5⟩
end ZH
