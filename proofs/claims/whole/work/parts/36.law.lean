/-! THE CLAIM OUT OF ONE WALK OF THE LAW'S BODY. Your part is whole_start (and what it stands on); all else here is the same for every law, but numbers. -/
def R_law : String := "LeadBallsLaw"
def lw_P (b : Addr) (xs : List Int32) (args : Array Value) (s : State) : Prop := args = #[.ref b] ∧ s.IntsAt b xs ∧ xs.length ≤ 3072 ∧ (Jvm.Cond.and given_1 narrow_1).before args s = true
def lw_Q (_ : Array Value) (s : State) (o : Outcome) (t : State) : Prop := o = .returned (some (.int 1)) ∧ Framed s o t [] 600000 7302250
def lw_Z (below : List Frame) (a : Array Value) (s : State) : State → Prop := fun t => ∃ o, t.status = .running ∧ Ended t below o ∧ lw_Q a s o t
/-- the law's own end, with 1 on the stack, nothing written that was there before, its room as the claim has it -/
theorem lw_ret {p : Program} {l : Launch} {e : Env} {s : State} {m : MethodId} {below : List Frame} {meth : Method} {c : Code} {b : Nat} (hx : p.tables.exec = Jvm.exec) (hb : c.code = code) (hr : meth.sig.returnType = ret) (hlocks : meth.locks = false) {pc : Nat} {H : Heap} {ls : Array Slot} (hdg : decode code pc = .ok (.ireturn, 1)) : W p l e room_1 s m #[Value.ref b] below meth c H [] 600000 7302250 (lw_Z below #[Value.ref b] s) (F0 m pc ls [.int 1]) := by
  intro T hT X
  obtain ⟨fs, hret, hrun, hended, hW, hframe⟩ := X.leave (v := some (.int 1)) (hlocks := hlocks) (fun h => by rw [hr] at h; cases h)
  have hmeth' : T.vm.method? m = some meth := X.method'
  refine ⟨T.setFrames fs, ?_, .returned (some (.int 1)), hrun, hended, rfl, ⟨_, rfl⟩, hW, hframe⟩
  jvm_step X.here [X.here.top, hx, hb, hdg, hmeth', hr, ret, narrow_b1]
  (try refine ⟨rfl, ?_⟩); (try refine ⟨rfl, ?_⟩)
  first | (intro acts; rw [hret _ acts rfl rfl rfl]) | rw [hret _ _ rfl rfl rfl]
  exact Steps.refl _
/-- what holds at the law's entry: the machine, the code, the tables' words (any of lw_tbl by 'hts w (by decide +kernel)'), the script of L ints xs at the cell b, what the Statement gives of the start (any of its parts by flat_of_before) -/
def lw_At (p : Program) (s : State) (m : MethodId) (meth : Method) (c : Code) (b L : Nat) (xs : Nat → Int32) : Prop :=
  p.tables.exec = Jvm.exec ∧ c.code = code ∧ meth.sig.returnType = ret ∧ c.maxLocals = 4 ∧ s.vm.findClass R_law = some m.cls ∧ (∀ w ∈ lw_tbl, w.before #[Value.ref b] s = true) ∧ va_X b L xs s s.heap ∧ b < s.heap.size ∧ meth.locks = false ∧ (Jvm.Cond.and given_1 narrow_1).before #[Value.ref b] s = true
theorem zbi_31 : (Int8.ofInt (31)).toInt32 = 31 := by decide
theorem zic_6 : Int32.ofInt (6) = 6 := by decide
theorem ml_L_113 : zMV RL 113 RX8 yX8_about cX8_about 2 (some .int) 1 := ⟨zmem 857 (by decide +kernel) rfl, zmem 858 (by decide +kernel) rfl, zmem 859 (by decide +kernel) rfl, zmem 68 (by decide +kernel) rfl, zmem 860 (by decide +kernel) rfl, by decide +kernel, by decide⟩
theorem ml_L_116 : zMV RL 116 RX9 yX9_about cX9_about 2 (some .int) 1 := ⟨zmem 1423 (by decide +kernel) rfl, zmem 1424 (by decide +kernel) rfl, zmem 1425 (by decide +kernel) rfl, zmem 81 (by decide +kernel) rfl, zmem 1426 (by decide +kernel) rfl, by decide +kernel, by decide⟩
theorem ml_L_109 : zMV RL 109 RX8 yX8_fewest cX8_fewest 1 (some .int) 0 := ⟨zmem 849 (by decide +kernel) rfl, zmem 850 (by decide +kernel) rfl, zmem 851 (by decide +kernel) rfl, zmem 68 (by decide +kernel) rfl, zmem 852 (by decide +kernel) rfl, by decide +kernel, by decide⟩
theorem ml_L_112 : zMV RL 112 RX9 yX9_fewest cX9_fewest 7 (some .int) 0 := ⟨zmem 1419 (by decide +kernel) rfl, zmem 1420 (by decide +kernel) rfl, zmem 1421 (by decide +kernel) rfl, zmem 81 (by decide +kernel) rfl, zmem 1422 (by decide +kernel) rfl, by decide +kernel, by decide⟩
theorem ml_L_105 : zMV RL 105 RX8 yX8_next cX8_next 1 (some .int) 0 := ⟨zmem 840 (by decide +kernel) rfl, zmem 841 (by decide +kernel) rfl, zmem 842 (by decide +kernel) rfl, zmem 68 (by decide +kernel) rfl, zmem 843 (by decide +kernel) rfl, by decide +kernel, by decide⟩
theorem ml_L_108 : zMV RL 108 RX9 yX9_next cX9_next 8 (some .int) 0 := ⟨zmem 1415 (by decide +kernel) rfl, zmem 1416 (by decide +kernel) rfl, zmem 1417 (by decide +kernel) rfl, zmem 81 (by decide +kernel) rfl, zmem 1418 (by decide +kernel) rfl, by decide +kernel, by decide⟩
theorem ml_L_101 : zMV RL 101 RX8 yX8_maybe cX8_maybe 1 (some .int) 0 := ⟨zmem 832 (by decide +kernel) rfl, zmem 833 (by decide +kernel) rfl, zmem 834 (by decide +kernel) rfl, zmem 68 (by decide +kernel) rfl, zmem 835 (by decide +kernel) rfl, by decide +kernel, by decide⟩
theorem ml_L_104 : zMV RL 104 RX9 yX9_maybe cX9_maybe 1 (some .int) 0 := ⟨zmem 1407 (by decide +kernel) rfl, zmem 1408 (by decide +kernel) rfl, zmem 1409 (by decide +kernel) rfl, zmem 81 (by decide +kernel) rfl, zmem 1410 (by decide +kernel) rfl, by decide +kernel, by decide⟩
theorem ml_L_96 : zMV RL 96 RX8 yX8_result cX8_result 3 (some .boolean) 2 := ⟨zmem 823 (by decide +kernel) rfl, zmem 824 (by decide +kernel) rfl, zmem 825 (by decide +kernel) rfl, zmem 68 (by decide +kernel) rfl, zmem 826 (by decide +kernel) rfl, by decide +kernel, by decide⟩
theorem ml_L_100 : zMV RL 100 RX9 yX9_result cX9_result 3 (some .boolean) 2 := ⟨zmem 1403 (by decide +kernel) rfl, zmem 1404 (by decide +kernel) rfl, zmem 1405 (by decide +kernel) rfl, zmem 81 (by decide +kernel) rfl, zmem 1406 (by decide +kernel) rfl, by decide +kernel, by decide⟩
theorem ml_L_91 : zMV RL 91 RX8 yX8_right cX8_right 1 (some .long) 0 := ⟨zmem 818 (by decide +kernel) rfl, zmem 819 (by decide +kernel) rfl, zmem 820 (by decide +kernel) rfl, zmem 68 (by decide +kernel) rfl, zmem 821 (by decide +kernel) rfl, by decide +kernel, by decide⟩
theorem ml_L_95 : zMV RL 95 RX9 yX9_right cX9_right 2 (some .long) 0 := ⟨zmem 1399 (by decide +kernel) rfl, zmem 1400 (by decide +kernel) rfl, zmem 1401 (by decide +kernel) rfl, zmem 81 (by decide +kernel) rfl, zmem 1402 (by decide +kernel) rfl, by decide +kernel, by decide⟩
theorem ml_L_86 : zMV RL 86 RX8 yX8_line cX8_line 3 (some .long) 2 := ⟨zmem 806 (by decide +kernel) rfl, zmem 807 (by decide +kernel) rfl, zmem 808 (by decide +kernel) rfl, zmem 68 (by decide +kernel) rfl, zmem 809 (by decide +kernel) rfl, by decide +kernel, by decide⟩
theorem ml_L_90 : zMV RL 90 RX9 yX9_line cX9_line 3 (some .long) 2 := ⟨zmem 1380 (by decide +kernel) rfl, zmem 1381 (by decide +kernel) rfl, zmem 1382 (by decide +kernel) rfl, zmem 81 (by decide +kernel) rfl, zmem 1383 (by decide +kernel) rfl, by decide +kernel, by decide⟩
theorem ml_L_82 : zMV RL 82 RX8 yX8_agree cX8_agree 2 (some .int) 1 := ⟨zmem 778 (by decide +kernel) rfl, zmem 779 (by decide +kernel) rfl, zmem 780 (by decide +kernel) rfl, zmem 68 (by decide +kernel) rfl, zmem 781 (by decide +kernel) rfl, by decide +kernel, by decide⟩
theorem ml_L_85 : zMV RL 85 RX9 yX9_agree cX9_agree 2 (some .int) 1 := ⟨zmem 1324 (by decide +kernel) rfl, zmem 1325 (by decide +kernel) rfl, zmem 1326 (by decide +kernel) rfl, zmem 81 (by decide +kernel) rfl, zmem 1327 (by decide +kernel) rfl, by decide +kernel, by decide⟩
theorem ml_L_78 : zMV RL 78 RX8 yX8_order cX8_order 2 (some .int) 1 := ⟨zmem 763 (by decide +kernel) rfl, zmem 764 (by decide +kernel) rfl, zmem 765 (by decide +kernel) rfl, zmem 68 (by decide +kernel) rfl, zmem 766 (by decide +kernel) rfl, by decide +kernel, by decide⟩
theorem ml_L_81 : zMV RL 81 RX9 yX9_order cX9_order 5 (some .int) 1 := ⟨zmem 1298 (by decide +kernel) rfl, zmem 1299 (by decide +kernel) rfl, zmem 1300 (by decide +kernel) rfl, zmem 81 (by decide +kernel) rfl, zmem 1301 (by decide +kernel) rfl, by decide +kernel, by decide⟩
theorem ml_L_73 : zMV RL 73 RX8 yX8_world cX8_world 4 (some .long) 1 := ⟨zmem 756 (by decide +kernel) rfl, zmem 757 (by decide +kernel) rfl, zmem 758 (by decide +kernel) rfl, zmem 68 (by decide +kernel) rfl, zmem 759 (by decide +kernel) rfl, by decide +kernel, by decide⟩
theorem ml_L_77 : zMV RL 77 RX9 yX9_world cX9_world 4 (some .long) 1 := ⟨zmem 1292 (by decide +kernel) rfl, zmem 1293 (by decide +kernel) rfl, zmem 1294 (by decide +kernel) rfl, zmem 81 (by decide +kernel) rfl, zmem 1295 (by decide +kernel) rfl, by decide +kernel, by decide⟩
theorem ml_L_69 : zMV RL 69 RX8 yX8_fit cX8_fit 6 (some .long) 4 := ⟨zmem 717 (by decide +kernel) rfl, zmem 718 (by decide +kernel) rfl, zmem 719 (by decide +kernel) rfl, zmem 68 (by decide +kernel) rfl, zmem 720 (by decide +kernel) rfl, by decide +kernel, by decide⟩
theorem ml_L_72 : zMV RL 72 RX9 yX9_fit cX9_fit 8 (some .long) 4 := ⟨zmem 1260 (by decide +kernel) rfl, zmem 1261 (by decide +kernel) rfl, zmem 1262 (by decide +kernel) rfl, zmem 81 (by decide +kernel) rfl, zmem 1263 (by decide +kernel) rfl, by decide +kernel, by decide⟩
theorem ml_L_65 : zMV RL 65 RX8 yX8_later cX8_later 2 (some .int) 1 := ⟨zmem 708 (by decide +kernel) rfl, zmem 709 (by decide +kernel) rfl, zmem 710 (by decide +kernel) rfl, zmem 68 (by decide +kernel) rfl, zmem 711 (by decide +kernel) rfl, by decide +kernel, by decide⟩
theorem ml_L_68 : zMV RL 68 RX9 yX9_later cX9_later 2 (some .int) 1 := ⟨zmem 1255 (by decide +kernel) rfl, zmem 1256 (by decide +kernel) rfl, zmem 1257 (by decide +kernel) rfl, zmem 81 (by decide +kernel) rfl, zmem 1258 (by decide +kernel) rfl, by decide +kernel, by decide⟩
theorem ml_L_60 : zMV RL 60 RX8 yX8_untell cX8_untell 2 (some .boolean) 1 := ⟨zmem 700 (by decide +kernel) rfl, zmem 701 (by decide +kernel) rfl, zmem 702 (by decide +kernel) rfl, zmem 68 (by decide +kernel) rfl, zmem 703 (by decide +kernel) rfl, by decide +kernel, by decide⟩
theorem ml_L_64 : zMV RL 64 RX9 yX9_untell cX9_untell 2 (some .boolean) 1 := ⟨zmem 1251 (by decide +kernel) rfl, zmem 1252 (by decide +kernel) rfl, zmem 1253 (by decide +kernel) rfl, zmem 81 (by decide +kernel) rfl, zmem 1254 (by decide +kernel) rfl, by decide +kernel, by decide⟩
theorem ml_L_55 : zMV RL 55 RX8 yX8_reading cX8_reading 4 (some .int) 3 := ⟨zmem 691 (by decide +kernel) rfl, zmem 692 (by decide +kernel) rfl, zmem 693 (by decide +kernel) rfl, zmem 68 (by decide +kernel) rfl, zmem 694 (by decide +kernel) rfl, by decide +kernel, by decide⟩
theorem ml_L_59 : zMV RL 59 RX9 yX9_reading cX9_reading 4 (some .int) 3 := ⟨zmem 1247 (by decide +kernel) rfl, zmem 1248 (by decide +kernel) rfl, zmem 1249 (by decide +kernel) rfl, zmem 81 (by decide +kernel) rfl, zmem 1250 (by decide +kernel) rfl, by decide +kernel, by decide⟩
theorem ml_L_50 : zMV RL 50 RX8 yX8_had cX8_had 6 (some .long) 5 := ⟨zmem 686 (by decide +kernel) rfl, zmem 687 (by decide +kernel) rfl, zmem 688 (by decide +kernel) rfl, zmem 68 (by decide +kernel) rfl, zmem 689 (by decide +kernel) rfl, by decide +kernel, by decide⟩
theorem ml_L_54 : zMV RL 54 RX9 yX9_had cX9_had 8 (some .long) 5 := ⟨zmem 1242 (by decide +kernel) rfl, zmem 1243 (by decide +kernel) rfl, zmem 1244 (by decide +kernel) rfl, zmem 81 (by decide +kernel) rfl, zmem 1245 (by decide +kernel) rfl, by decide +kernel, by decide⟩
theorem ml_L_45 : zMV RL 45 RX8 yX8_turning cX8_turning 13 (some .long) 4 := ⟨zmem 673 (by decide +kernel) rfl, zmem 674 (by decide +kernel) rfl, zmem 675 (by decide +kernel) rfl, zmem 68 (by decide +kernel) rfl, zmem 676 (by decide +kernel) rfl, by decide +kernel, by decide⟩
theorem ml_L_49 : zMV RL 49 RX9 yX9_turning cX9_turning 10 (some .long) 4 := ⟨zmem 1234 (by decide +kernel) rfl, zmem 1235 (by decide +kernel) rfl, zmem 1236 (by decide +kernel) rfl, zmem 81 (by decide +kernel) rfl, zmem 1237 (by decide +kernel) rfl, by decide +kernel, by decide⟩
theorem ml_L_40 : zMV RL 40 RX8 yX8_rest cX8_rest 4 (some .long) 3 := ⟨zmem 639 (by decide +kernel) rfl, zmem 640 (by decide +kernel) rfl, zmem 641 (by decide +kernel) rfl, zmem 68 (by decide +kernel) rfl, zmem 642 (by decide +kernel) rfl, by decide +kernel, by decide⟩
theorem ml_L_44 : zMV RL 44 RX9 yX9_rest cX9_rest 4 (some .long) 3 := ⟨zmem 1202 (by decide +kernel) rfl, zmem 1203 (by decide +kernel) rfl, zmem 1204 (by decide +kernel) rfl, zmem 81 (by decide +kernel) rfl, zmem 1205 (by decide +kernel) rfl, by decide +kernel, by decide⟩
theorem ml_L_36 : zMV RL 36 RX8 yX8_fault cX8_fault 2 (some .int) 1 := ⟨zmem 635 (by decide +kernel) rfl, zmem 636 (by decide +kernel) rfl, zmem 637 (by decide +kernel) rfl, zmem 68 (by decide +kernel) rfl, zmem 638 (by decide +kernel) rfl, by decide +kernel, by decide⟩
theorem ml_L_39 : zMV RL 39 RX9 yX9_fault cX9_fault 2 (some .int) 1 := ⟨zmem 1198 (by decide +kernel) rfl, zmem 1199 (by decide +kernel) rfl, zmem 1200 (by decide +kernel) rfl, zmem 81 (by decide +kernel) rfl, zmem 1201 (by decide +kernel) rfl, by decide +kernel, by decide⟩
theorem ml_L_32 : zMV RL 32 RX8 yX8_sum cX8_sum 3 (some .int) 0 := ⟨zmem 590 (by decide +kernel) rfl, zmem 591 (by decide +kernel) rfl, zmem 592 (by decide +kernel) rfl, zmem 68 (by decide +kernel) rfl, zmem 593 (by decide +kernel) rfl, by decide +kernel, by decide⟩
theorem ml_L_35 : zMV RL 35 RX9 yX9_sum cX9_sum 2 (some .int) 0 := ⟨zmem 1341 (by decide +kernel) rfl, zmem 1342 (by decide +kernel) rfl, zmem 1343 (by decide +kernel) rfl, zmem 81 (by decide +kernel) rfl, zmem 1344 (by decide +kernel) rfl, by decide +kernel, by decide⟩
theorem ml_L_28 : zMV RL 28 RX8 yX8_houses cX8_houses 3 (some .int) 0 := ⟨zmem 570 (by decide +kernel) rfl, zmem 571 (by decide +kernel) rfl, zmem 572 (by decide +kernel) rfl, zmem 68 (by decide +kernel) rfl, zmem 573 (by decide +kernel) rfl, by decide +kernel, by decide⟩
theorem ml_L_31 : zMV RL 31 RX9 yX9_houses cX9_houses 2 (some .int) 0 := ⟨zmem 1316 (by decide +kernel) rfl, zmem 1317 (by decide +kernel) rfl, zmem 1318 (by decide +kernel) rfl, zmem 81 (by decide +kernel) rfl, zmem 1319 (by decide +kernel) rfl, by decide +kernel, by decide⟩
theorem ml_L_23 : zMV RL 23 RX8 yX8_shed cX8_shed 3 (some .int) 0 := ⟨zmem 458 (by decide +kernel) rfl, zmem 459 (by decide +kernel) rfl, zmem 460 (by decide +kernel) rfl, zmem 68 (by decide +kernel) rfl, zmem 461 (by decide +kernel) rfl, by decide +kernel, by decide⟩
theorem ml_L_27 : zMV RL 27 RX9 yX9_shed cX9_shed 2 (some .int) 0 := ⟨zmem 1104 (by decide +kernel) rfl, zmem 1105 (by decide +kernel) rfl, zmem 1106 (by decide +kernel) rfl, zmem 81 (by decide +kernel) rfl, zmem 1107 (by decide +kernel) rfl, by decide +kernel, by decide⟩
theorem ml_L_18 : zMV RL 18 RX8 yX8_end cX8_end 2 (some .int) 1 := ⟨zmem 454 (by decide +kernel) rfl, zmem 455 (by decide +kernel) rfl, zmem 456 (by decide +kernel) rfl, zmem 68 (by decide +kernel) rfl, zmem 457 (by decide +kernel) rfl, by decide +kernel, by decide⟩
theorem ml_L_22 : zMV RL 22 RX9 yX9_end cX9_end 2 (some .int) 1 := ⟨zmem 1100 (by decide +kernel) rfl, zmem 1101 (by decide +kernel) rfl, zmem 1102 (by decide +kernel) rfl, zmem 81 (by decide +kernel) rfl, zmem 1103 (by decide +kernel) rfl, by decide +kernel, by decide⟩
theorem ml_L_13 : zMV RL 13 RX8 yX8_feed cX8_feed 6 (some .int) 5 := ⟨zmem 446 (by decide +kernel) rfl, zmem 447 (by decide +kernel) rfl, zmem 448 (by decide +kernel) rfl, zmem 68 (by decide +kernel) rfl, zmem 449 (by decide +kernel) rfl, by decide +kernel, by decide⟩
theorem ml_L_17 : zMV RL 17 RX9 yX9_feed cX9_feed 6 (some .int) 5 := ⟨zmem 1092 (by decide +kernel) rfl, zmem 1093 (by decide +kernel) rfl, zmem 1094 (by decide +kernel) rfl, zmem 81 (by decide +kernel) rfl, zmem 1095 (by decide +kernel) rfl, by decide +kernel, by decide⟩
def zLw (w : zWC) (x : zCX) (b L : Nat) (xv : Nat → Int32) : Prop := va_X b L xv (xs x) (xs x).heap ∧ b < (xs x).heap.size ∧ ¬ zA w b ∧ xa x = #[Value.ref b] ∧ xR x = room_1 ∧ (xme x).sig.returnType = Jvm.Pilot.@@N@@.ret ∧ zb w = (xs x).heap.size ∧ xce x ≤ 600000 ∧ xsl x ≤ 7302250
def zQl (x : zCX) (b : Nat) (a : Int32 × zSt) : State → Prop := fun t => a.1 = 1 → lw_Z (xb x) #[Value.ref b] (xs x) t
section ZLW
variable {w : zWC} {x : zCX} {b L : Nat} {xv : Nat → Int32} {own : String} {cc : ByteArray} {nL lev : Nat} {m : Option (Int32 × zSt)} {pc : Nat} {lv : List (Option Value)} {st : List Value} {σ : zSt}
theorem zj_sld {i : Int32} {dc : Decidable (i < 0 ∨ L ≤ i.toNatClampNeg)} (hr : zLw w x b L xv) (d : decode cc pc = .ok (.iaload, 1)) (kk : zJ (zQl x b) w x own cc nL lev m (pc + 1) lv (.int (xv i.toNatClampNeg) :: st) σ) : zJ (zQl x b) w x own cc nL lev (@ite _ (i < 0 ∨ L ≤ i.toNatClampNeg) dc none m) pc lv (.int i :: .ref b :: st) σ := by
  refine zj_guard (fun hz => ?_)
  intro a hm ok ls H locs hl hP hS
  exact va_sld (A := zA w) ok.1 ok.2.1 hr.1 hr.2.1 hr.2.2.1 hS hz d (kk a hm ok ls H locs hl hP hS)
theorem zj_slen (hr : zLw w x b L xv) (d : decode cc pc = .ok (.arraylength, 1)) (kk : zJ (zQl x b) w x own cc nL lev m (pc + 1) lv (.int (Int32.ofNat L) :: st) σ) : zJ (zQl x b) w x own cc nL lev m pc lv (.ref b :: st) σ := by
  intro a hm ok ls H locs hl hP hS
  exact va_slen (A := zA w) ok.1 ok.2.1 hr.1 hr.2.1 hr.2.2.1 hS d (kk a hm ok ls H locs hl hP hS)
theorem zj_law0 (hr : zLw w x b L xv) (d : decode cc pc = .ok (.ireturn, 1)) : zJ (zQl x b) w x own cc nL lev (some (0, σ)) pc lv [.int 0] σ := by
  intro a hm ok ls H locs hl hP hS
  cases hm
  intro T hT X
  exact ⟨_, Steps.refl _, fun h => absurd (show (0 : Int32) = 1 from h) (by decide)⟩
theorem zj_law1 (hr : zLw w x b L xv) (d : decode code pc = .ok (.ireturn, 1)) : zJ (zQl x b) w x own code nL lev (some (1, σ)) pc lv [.int 1] σ := by
  intro a hm ok ls H locs hl hP hS
  cases hm
  obtain ⟨hX, hbl, hbA, ha, hR, hret, hzb, hc1, hc2⟩ := hr
  have key : W (xp x) (zl w) (xe x) (xR x) (xs x) (xm x) (xa x) (xb x) (xme x) (xc x) H locs (xce x) (xsl x) (lw_Z (xb x) #[Value.ref b] (xs x)) (F0 (xm x) pc ls [.int 1]) := by
    rw [ha, hR]
    refine va_forget (fun q hq => ?_) ?_
    · have := hS.2.2 q hq
      unfold zA at this
      rw [hzb] at this
      exact this
    refine W.widen (k := 600000) (n := 7302250) hc1 hc2 ?_
    exact lw_ret ok.1 ok.2.1 hret ok.2.2.2.2.2.2.2.2.2 d
  intro T hT X
  obtain ⟨t, h1, h2⟩ := key T hT X
  exact ⟨t, h1, fun _ => h2⟩
end ZLW
def m_L_law_822 (L : Nat) (xv : Nat → Int32) (rec18 : Int32 → zSt → Option (Int32 × zSt)) (l3 : Int32) (s : zSt) : Option (Int32 × zSt) :=
  rec18 (l3 + 6) s
set_option maxRecDepth 100000 in
theorem j_L_law_822 {L : Nat} {xv : Nat → Int32} {rec18 : Int32 → zSt → Option (Int32 × zSt)} {l3 : Int32} {s : zSt} {w : zWC} {x : zCX} {b : Nat} (hr : zLw w x b L xv) (h_rec18 : ∀ (l3 : Int32) (s : zSt), zJ (zQl x b) w x RL cL_law 4 1000 (rec18 l3 s) 18 [some (.ref b), some (.ref (zb w + 0)), some (.ref (zb w + 64)), some (.int l3)] [] s) : zJ (zQl x b) w x RL cL_law 4 1000 (m_L_law_822 L xv rec18 l3 s) 822 [some (.ref b), some (.ref (zb w + 0)), some (.ref (zb w + 64)), some (.int l3)] [] s := by
  unfold m_L_law_822
  refine zj_iinc (v2 := l3 + 6) (lv' := [some (.ref b), some (.ref (zb w + 0)), some (.ref (zb w + 64)), some (.int (l3 + 6))]) dL_law_822 rfl (by rw [zic_6]) (by decide) rfl rfl ?_
  refine zj_goto (tgt := 18) dL_law_825 (by decide) ?_
  exact h_rec18 _ _
def m_L_law_752 (L : Nat) (xv : Nat → Int32) (rec18 : Int32 → zSt → Option (Int32 × zSt)) (l3 : Int32) (t0 : Int32) (t1 : Nat) (t2 : Int32) (t3 : Int32) (s : zSt) : Option (Int32 × zSt) :=
  zcl (m_X9_result t1 t2 t3 s) (fun r43 s42 => (if t0 = r43 then
  m_L_law_822 L xv rec18 l3 s42
  else
  some (0, s42)))
set_option maxRecDepth 100000 in
theorem j_L_law_752 {L : Nat} {xv : Nat → Int32} {rec18 : Int32 → zSt → Option (Int32 × zSt)} {l3 : Int32} {t0 : Int32} {t1 : Nat} {t2 : Int32} {t3 : Int32} {s : zSt} {w : zWC} {x : zCX} {b : Nat} (hr : zLw w x b L xv) (h_rec18 : ∀ (l3 : Int32) (s : zSt), zJ (zQl x b) w x RL cL_law 4 1000 (rec18 l3 s) 18 [some (.ref b), some (.ref (zb w + 0)), some (.ref (zb w + 64)), some (.int l3)] [] s) (ht1 : zC t1 = 9) : zJ (zQl x b) w x RL cL_law 4 1000 (m_L_law_752 L xv rec18 l3 t0 t1 t2 t3 s) 752 [some (.ref b), some (.ref (zb w + 0)), some (.ref (zb w + 64)), some (.int l3)] [.int t3, .int t2, .ref (zb w + t1), .int t0] s := by
  unfold m_L_law_752
  refine zj_cVI2 ml_L_100 (fun a h => c_X9_result ht1 h) ht1 rfl (Nat.le_of_ble_eq_true rfl) (Nat.le_of_ble_eq_true rfl) dL_law_752 (fun r43 s42 => ?_)
  refine zj_icmp_eq (tgt := 822) dL_law_755 (by decide) ?_ ?_
  · exact j_L_law_822 hr h_rec18
  · refine zj_iconst dL_law_758 zic_0 ?_
    exact zj_law0 hr dL_law_759
def m_L_law_730 (L : Nat) (xv : Nat → Int32) (rec18 : Int32 → zSt → Option (Int32 × zSt)) (l3 : Int32) (t0 : Nat) (t1 : Int32) (t2 : Int32) (s : zSt) : Option (Int32 × zSt) :=
  zcl (m_X8_result t0 t1 t2 s) (fun r41 s40 => (if l3 + 1 < 0 ∨ L ≤ Int32.toNatClampNeg (l3 + 1) then none else (if l3 + 2 < 0 ∨ L ≤ Int32.toNatClampNeg (l3 + 2) then none else (if xv (Int32.toNatClampNeg (l3 + 2)) = 0 then
  m_L_law_752 L xv rec18 l3 r41 64 (xv (Int32.toNatClampNeg (l3 + 1))) 0 s40
  else
  m_L_law_752 L xv rec18 l3 r41 64 (xv (Int32.toNatClampNeg (l3 + 1))) 1 s40))))
set_option maxRecDepth 100000 in
theorem j_L_law_730 {L : Nat} {xv : Nat → Int32} {rec18 : Int32 → zSt → Option (Int32 × zSt)} {l3 : Int32} {t0 : Nat} {t1 : Int32} {t2 : Int32} {s : zSt} {w : zWC} {x : zCX} {b : Nat} (hr : zLw w x b L xv) (h_rec18 : ∀ (l3 : Int32) (s : zSt), zJ (zQl x b) w x RL cL_law 4 1000 (rec18 l3 s) 18 [some (.ref b), some (.ref (zb w + 0)), some (.ref (zb w + 64)), some (.int l3)] [] s) (ht0 : zC t0 = 8) : zJ (zQl x b) w x RL cL_law 4 1000 (m_L_law_730 L xv rec18 l3 t0 t1 t2 s) 730 [some (.ref b), some (.ref (zb w + 0)), some (.ref (zb w + 64)), some (.int l3)] [.int t2, .int t1, .ref (zb w + t0)] s := by
  unfold m_L_law_730
  refine zj_cVI2 ml_L_96 (fun a h => c_X8_result ht0 h) ht0 rfl (Nat.le_of_ble_eq_true rfl) (Nat.le_of_ble_eq_true rfl) dL_law_730 (fun r41 s40 => ?_)
  refine zj_aload_n dL_law_733 rfl ?_
  refine zj_aload_n dL_law_734 rfl ?_
  refine zj_iload_n dL_law_735 rfl ?_
  refine zj_iconst dL_law_736 zic_1 ?_
  refine zj_iadd dL_law_737 ?_
  refine zj_sld hr dL_law_738 ?_
  refine zj_aload_n dL_law_739 rfl ?_
  refine zj_iload_n dL_law_740 rfl ?_
  refine zj_iconst dL_law_741 zic_2 ?_
  refine zj_iadd dL_law_742 ?_
  refine zj_sld hr dL_law_743 ?_
  refine zj_if_eq (tgt := 751) dL_law_744 (by decide) ?_ ?_
  · refine zj_iconst dL_law_751 zic_0 ?_
    exact j_L_law_752 hr h_rec18 rfl
  · refine zj_iconst dL_law_747 zic_1 ?_
    refine zj_goto (tgt := 752) dL_law_748 (by decide) ?_
    exact j_L_law_752 hr h_rec18 rfl
def bd_L_law_18 (L : Nat) (xv : Nat → Int32) (rec18 : Int32 → zSt → Option (Int32 × zSt)) (l3 : Int32) (s : zSt) : Option (Int32 × zSt) :=
  (if (Int32.ofNat L) - 6 < l3 then
  some (1, s)
  else
  (if l3 < 0 ∨ L ≤ Int32.toNatClampNeg l3 then none else (if (xv (Int32.toNatClampNeg l3)) &&& 31 = 0 then
    (if l3 + 1 < 0 ∨ L ≤ Int32.toNatClampNeg (l3 + 1) then none else (if l3 + 2 < 0 ∨ L ≤ Int32.toNatClampNeg (l3 + 2) then none else (if l3 + 3 < 0 ∨ L ≤ Int32.toNatClampNeg (l3 + 3) then none else (if l3 + 4 < 0 ∨ L ≤ Int32.toNatClampNeg (l3 + 4) then none else (if l3 + 5 < 0 ∨ L ≤ Int32.toNatClampNeg (l3 + 5) then none else zcl (m_X8_feed 0 (xv (Int32.toNatClampNeg (l3 + 1))) (xv (Int32.toNatClampNeg (l3 + 2))) (xv (Int32.toNatClampNeg (l3 + 3))) (xv (Int32.toNatClampNeg (l3 + 4))) (xv (Int32.toNatClampNeg (l3 + 5))) s) (fun r113 s112 => (if l3 + 1 < 0 ∨ L ≤ Int32.toNatClampNeg (l3 + 1) then none else (if l3 + 2 < 0 ∨ L ≤ Int32.toNatClampNeg (l3 + 2) then none else (if l3 + 3 < 0 ∨ L ≤ Int32.toNatClampNeg (l3 + 3) then none else (if l3 + 4 < 0 ∨ L ≤ Int32.toNatClampNeg (l3 + 4) then none else (if l3 + 5 < 0 ∨ L ≤ Int32.toNatClampNeg (l3 + 5) then none else zcl (m_X9_feed 64 (xv (Int32.toNatClampNeg (l3 + 1))) (xv (Int32.toNatClampNeg (l3 + 2))) (xv (Int32.toNatClampNeg (l3 + 3))) (xv (Int32.toNatClampNeg (l3 + 4))) (xv (Int32.toNatClampNeg (l3 + 5))) s112) (fun r115 s114 => (if r113 = r115 then
      m_L_law_822 L xv rec18 l3 s114
      else
      some (0, s114))))))))))))))
    else
    (if (xv (Int32.toNatClampNeg l3)) &&& 31 = 1 then
      (if l3 + 1 < 0 ∨ L ≤ Int32.toNatClampNeg (l3 + 1) then none else zcl (m_X8_end 0 (xv (Int32.toNatClampNeg (l3 + 1))) s) (fun r109 s108 => (if l3 + 1 < 0 ∨ L ≤ Int32.toNatClampNeg (l3 + 1) then none else zcl (m_X9_end 64 (xv (Int32.toNatClampNeg (l3 + 1))) s108) (fun r111 s110 => (if r109 = r111 then
        m_L_law_822 L xv rec18 l3 s110
        else
        some (0, s110))))))
      else
      (if (xv (Int32.toNatClampNeg l3)) &&& 31 = 2 then
        zcl (m_X8_shed 0 s) (fun r105 s104 => zcl (m_X9_shed 64 s104) (fun r107 s106 => (if r105 = r107 then
          m_L_law_822 L xv rec18 l3 s106
          else
          some (0, s106))))
        else
        (if (xv (Int32.toNatClampNeg l3)) &&& 31 = 3 then
          zcl (m_X8_houses 0 s) (fun r101 s100 => zcl (m_X9_houses 64 s100) (fun r103 s102 => (if r101 = r103 then
            m_L_law_822 L xv rec18 l3 s102
            else
            some (0, s102))))
          else
          (if (xv (Int32.toNatClampNeg l3)) &&& 31 = 4 then
            zcl (m_X8_sum 0 s) (fun r97 s96 => zcl (m_X9_sum 64 s96) (fun r99 s98 => (if r97 = r99 then
              m_L_law_822 L xv rec18 l3 s98
              else
              some (0, s98))))
            else
            (if (xv (Int32.toNatClampNeg l3)) &&& 31 = 5 then
              (if l3 + 1 < 0 ∨ L ≤ Int32.toNatClampNeg (l3 + 1) then none else zcl (m_X8_fault 0 (xv (Int32.toNatClampNeg (l3 + 1))) s) (fun r93 s92 => (if l3 + 1 < 0 ∨ L ≤ Int32.toNatClampNeg (l3 + 1) then none else zcl (m_X9_fault 64 (xv (Int32.toNatClampNeg (l3 + 1))) s92) (fun r95 s94 => (if r93 = r95 then
                m_L_law_822 L xv rec18 l3 s94
                else
                some (0, s94))))))
              else
              (if (xv (Int32.toNatClampNeg l3)) &&& 31 = 6 then
                (if l3 + 1 < 0 ∨ L ≤ Int32.toNatClampNeg (l3 + 1) then none else (if l3 + 2 < 0 ∨ L ≤ Int32.toNatClampNeg (l3 + 2) then none else (if l3 + 3 < 0 ∨ L ≤ Int32.toNatClampNeg (l3 + 3) then none else zcl (m_X8_rest 0 (xv (Int32.toNatClampNeg (l3 + 1))) (xv (Int32.toNatClampNeg (l3 + 2))) (xv (Int32.toNatClampNeg (l3 + 3))) s) (fun r89 s88 => (if l3 + 1 < 0 ∨ L ≤ Int32.toNatClampNeg (l3 + 1) then none else (if l3 + 2 < 0 ∨ L ≤ Int32.toNatClampNeg (l3 + 2) then none else (if l3 + 3 < 0 ∨ L ≤ Int32.toNatClampNeg (l3 + 3) then none else zcl (m_X9_rest 64 (xv (Int32.toNatClampNeg (l3 + 1))) (xv (Int32.toNatClampNeg (l3 + 2))) (xv (Int32.toNatClampNeg (l3 + 3))) s88) (fun r91 s90 => (if r89 = r91 then
                  m_L_law_822 L xv rec18 l3 s90
                  else
                  some (0, s90))))))))))
                else
                (if (xv (Int32.toNatClampNeg l3)) &&& 31 = 7 then
                  (if l3 + 1 < 0 ∨ L ≤ Int32.toNatClampNeg (l3 + 1) then none else (if l3 + 2 < 0 ∨ L ≤ Int32.toNatClampNeg (l3 + 2) then none else (if l3 + 3 < 0 ∨ L ≤ Int32.toNatClampNeg (l3 + 3) then none else (if l3 + 4 < 0 ∨ L ≤ Int32.toNatClampNeg (l3 + 4) then none else zcl (m_X8_turning 0 (xv (Int32.toNatClampNeg (l3 + 1))) (xv (Int32.toNatClampNeg (l3 + 2))) (xv (Int32.toNatClampNeg (l3 + 3))) (xv (Int32.toNatClampNeg (l3 + 4))) s) (fun r85 s84 => (if l3 + 1 < 0 ∨ L ≤ Int32.toNatClampNeg (l3 + 1) then none else (if l3 + 2 < 0 ∨ L ≤ Int32.toNatClampNeg (l3 + 2) then none else (if l3 + 3 < 0 ∨ L ≤ Int32.toNatClampNeg (l3 + 3) then none else (if l3 + 4 < 0 ∨ L ≤ Int32.toNatClampNeg (l3 + 4) then none else zcl (m_X9_turning 64 (xv (Int32.toNatClampNeg (l3 + 1))) (xv (Int32.toNatClampNeg (l3 + 2))) (xv (Int32.toNatClampNeg (l3 + 3))) (xv (Int32.toNatClampNeg (l3 + 4))) s84) (fun r87 s86 => (if r85 = r87 then
                    m_L_law_822 L xv rec18 l3 s86
                    else
                    some (0, s86))))))))))))
                  else
                  (if (xv (Int32.toNatClampNeg l3)) &&& 31 = 8 then
                    (if l3 + 1 < 0 ∨ L ≤ Int32.toNatClampNeg (l3 + 1) then none else (if l3 + 2 < 0 ∨ L ≤ Int32.toNatClampNeg (l3 + 2) then none else (if l3 + 3 < 0 ∨ L ≤ Int32.toNatClampNeg (l3 + 3) then none else (if l3 + 4 < 0 ∨ L ≤ Int32.toNatClampNeg (l3 + 4) then none else (if l3 + 5 < 0 ∨ L ≤ Int32.toNatClampNeg (l3 + 5) then none else zcl (m_X8_had 0 (xv (Int32.toNatClampNeg (l3 + 1))) (xv (Int32.toNatClampNeg (l3 + 2))) (xv (Int32.toNatClampNeg (l3 + 3))) (xv (Int32.toNatClampNeg (l3 + 4))) (xv (Int32.toNatClampNeg (l3 + 5))) s) (fun r81 s80 => (if l3 + 1 < 0 ∨ L ≤ Int32.toNatClampNeg (l3 + 1) then none else (if l3 + 2 < 0 ∨ L ≤ Int32.toNatClampNeg (l3 + 2) then none else (if l3 + 3 < 0 ∨ L ≤ Int32.toNatClampNeg (l3 + 3) then none else (if l3 + 4 < 0 ∨ L ≤ Int32.toNatClampNeg (l3 + 4) then none else (if l3 + 5 < 0 ∨ L ≤ Int32.toNatClampNeg (l3 + 5) then none else zcl (m_X9_had 64 (xv (Int32.toNatClampNeg (l3 + 1))) (xv (Int32.toNatClampNeg (l3 + 2))) (xv (Int32.toNatClampNeg (l3 + 3))) (xv (Int32.toNatClampNeg (l3 + 4))) (xv (Int32.toNatClampNeg (l3 + 5))) s80) (fun r83 s82 => (if r81 = r83 then
                      m_L_law_822 L xv rec18 l3 s82
                      else
                      some (0, s82))))))))))))))
                    else
                    (if (xv (Int32.toNatClampNeg l3)) &&& 31 = 9 then
                      (if l3 + 1 < 0 ∨ L ≤ Int32.toNatClampNeg (l3 + 1) then none else (if l3 + 2 < 0 ∨ L ≤ Int32.toNatClampNeg (l3 + 2) then none else (if l3 + 3 < 0 ∨ L ≤ Int32.toNatClampNeg (l3 + 3) then none else zcl (m_X8_reading 0 (xv (Int32.toNatClampNeg (l3 + 1))) (xv (Int32.toNatClampNeg (l3 + 2))) (xv (Int32.toNatClampNeg (l3 + 3))) s) (fun r77 s76 => (if l3 + 1 < 0 ∨ L ≤ Int32.toNatClampNeg (l3 + 1) then none else (if l3 + 2 < 0 ∨ L ≤ Int32.toNatClampNeg (l3 + 2) then none else (if l3 + 3 < 0 ∨ L ≤ Int32.toNatClampNeg (l3 + 3) then none else zcl (m_X9_reading 64 (xv (Int32.toNatClampNeg (l3 + 1))) (xv (Int32.toNatClampNeg (l3 + 2))) (xv (Int32.toNatClampNeg (l3 + 3))) s76) (fun r79 s78 => (if r77 = r79 then
                        m_L_law_822 L xv rec18 l3 s78
                        else
                        some (0, s78))))))))))
                      else
                      (if (xv (Int32.toNatClampNeg l3)) &&& 31 = 10 then
                        (if l3 + 1 < 0 ∨ L ≤ Int32.toNatClampNeg (l3 + 1) then none else zcl (m_X8_untell 0 (xv (Int32.toNatClampNeg (l3 + 1))) s) (fun r73 s72 => (if l3 + 1 < 0 ∨ L ≤ Int32.toNatClampNeg (l3 + 1) then none else zcl (m_X9_untell 64 (xv (Int32.toNatClampNeg (l3 + 1))) s72) (fun r75 s74 => (if r73 = r75 then
                          m_L_law_822 L xv rec18 l3 s74
                          else
                          some (0, s74))))))
                        else
                        (if (xv (Int32.toNatClampNeg l3)) &&& 31 = 11 then
                          (if l3 + 1 < 0 ∨ L ≤ Int32.toNatClampNeg (l3 + 1) then none else zcl (m_X8_later 0 (xv (Int32.toNatClampNeg (l3 + 1))) s) (fun r69 s68 => (if l3 + 1 < 0 ∨ L ≤ Int32.toNatClampNeg (l3 + 1) then none else zcl (m_X9_later 64 (xv (Int32.toNatClampNeg (l3 + 1))) s68) (fun r71 s70 => (if r69 = r71 then
                            m_L_law_822 L xv rec18 l3 s70
                            else
                            some (0, s70))))))
                          else
                          (if (xv (Int32.toNatClampNeg l3)) &&& 31 = 12 then
                            (if l3 + 1 < 0 ∨ L ≤ Int32.toNatClampNeg (l3 + 1) then none else (if l3 + 2 < 0 ∨ L ≤ Int32.toNatClampNeg (l3 + 2) then none else (if l3 + 3 < 0 ∨ L ≤ Int32.toNatClampNeg (l3 + 3) then none else (if l3 + 4 < 0 ∨ L ≤ Int32.toNatClampNeg (l3 + 4) then none else zcl (m_X8_fit 0 (xv (Int32.toNatClampNeg (l3 + 1))) (xv (Int32.toNatClampNeg (l3 + 2))) (xv (Int32.toNatClampNeg (l3 + 3))) (xv (Int32.toNatClampNeg (l3 + 4))) s) (fun r65 s64 => (if l3 + 1 < 0 ∨ L ≤ Int32.toNatClampNeg (l3 + 1) then none else (if l3 + 2 < 0 ∨ L ≤ Int32.toNatClampNeg (l3 + 2) then none else (if l3 + 3 < 0 ∨ L ≤ Int32.toNatClampNeg (l3 + 3) then none else (if l3 + 4 < 0 ∨ L ≤ Int32.toNatClampNeg (l3 + 4) then none else zcl (m_X9_fit 64 (xv (Int32.toNatClampNeg (l3 + 1))) (xv (Int32.toNatClampNeg (l3 + 2))) (xv (Int32.toNatClampNeg (l3 + 3))) (xv (Int32.toNatClampNeg (l3 + 4))) s64) (fun r67 s66 => (if r65 = r67 then
                              m_L_law_822 L xv rec18 l3 s66
                              else
                              some (0, s66))))))))))))
                            else
                            (if (xv (Int32.toNatClampNeg l3)) &&& 31 = 13 then
                              (if l3 + 1 < 0 ∨ L ≤ Int32.toNatClampNeg (l3 + 1) then none else zcl (m_X8_world 0 (xv (Int32.toNatClampNeg (l3 + 1))) s) (fun r61 s60 => (if l3 + 1 < 0 ∨ L ≤ Int32.toNatClampNeg (l3 + 1) then none else zcl (m_X9_world 64 (xv (Int32.toNatClampNeg (l3 + 1))) s60) (fun r63 s62 => (if r61 = r63 then
                                m_L_law_822 L xv rec18 l3 s62
                                else
                                some (0, s62))))))
                              else
                              (if (xv (Int32.toNatClampNeg l3)) &&& 31 = 14 then
                                (if l3 + 1 < 0 ∨ L ≤ Int32.toNatClampNeg (l3 + 1) then none else zcl (m_X8_order 0 (xv (Int32.toNatClampNeg (l3 + 1))) s) (fun r57 s56 => (if l3 + 1 < 0 ∨ L ≤ Int32.toNatClampNeg (l3 + 1) then none else zcl (m_X9_order 64 (xv (Int32.toNatClampNeg (l3 + 1))) s56) (fun r59 s58 => (if r57 = r59 then
                                  m_L_law_822 L xv rec18 l3 s58
                                  else
                                  some (0, s58))))))
                                else
                                (if (xv (Int32.toNatClampNeg l3)) &&& 31 = 15 then
                                  (if l3 + 1 < 0 ∨ L ≤ Int32.toNatClampNeg (l3 + 1) then none else zcl (m_X8_agree 0 (xv (Int32.toNatClampNeg (l3 + 1))) s) (fun r53 s52 => (if l3 + 1 < 0 ∨ L ≤ Int32.toNatClampNeg (l3 + 1) then none else zcl (m_X9_agree 64 (xv (Int32.toNatClampNeg (l3 + 1))) s52) (fun r55 s54 => (if r53 = r55 then
                                    m_L_law_822 L xv rec18 l3 s54
                                    else
                                    some (0, s54))))))
                                  else
                                  (if (xv (Int32.toNatClampNeg l3)) &&& 31 = 16 then
                                    (if l3 + 1 < 0 ∨ L ≤ Int32.toNatClampNeg (l3 + 1) then none else (if l3 + 2 < 0 ∨ L ≤ Int32.toNatClampNeg (l3 + 2) then none else zcl (m_X8_line 0 (xv (Int32.toNatClampNeg (l3 + 1))) (xv (Int32.toNatClampNeg (l3 + 2))) s) (fun r49 s48 => (if l3 + 1 < 0 ∨ L ≤ Int32.toNatClampNeg (l3 + 1) then none else (if l3 + 2 < 0 ∨ L ≤ Int32.toNatClampNeg (l3 + 2) then none else zcl (m_X9_line 64 (xv (Int32.toNatClampNeg (l3 + 1))) (xv (Int32.toNatClampNeg (l3 + 2))) s48) (fun r51 s50 => (if r49 = r51 then
                                      m_L_law_822 L xv rec18 l3 s50
                                      else
                                      some (0, s50))))))))
                                    else
                                    (if (xv (Int32.toNatClampNeg l3)) &&& 31 = 17 then
                                      zcl (m_X8_right 0 s) (fun r45 s44 => zcl (m_X9_right 64 s44) (fun r47 s46 => (if r45 = r47 then
                                        m_L_law_822 L xv rec18 l3 s46
                                        else
                                        some (0, s46))))
                                      else
                                      (if (xv (Int32.toNatClampNeg l3)) &&& 31 = 18 then
                                        (if l3 + 1 < 0 ∨ L ≤ Int32.toNatClampNeg (l3 + 1) then none else (if l3 + 2 < 0 ∨ L ≤ Int32.toNatClampNeg (l3 + 2) then none else (if xv (Int32.toNatClampNeg (l3 + 2)) = 0 then
                                          m_L_law_730 L xv rec18 l3 0 (xv (Int32.toNatClampNeg (l3 + 1))) 0 s
                                          else
                                          m_L_law_730 L xv rec18 l3 0 (xv (Int32.toNatClampNeg (l3 + 1))) 1 s)))
                                        else
                                        (if (xv (Int32.toNatClampNeg l3)) &&& 31 = 19 then
                                          zcl (m_X8_maybe 0 s) (fun r37 s36 => zcl (m_X9_maybe 64 s36) (fun r39 s38 => (if r37 = r39 then
                                            m_L_law_822 L xv rec18 l3 s38
                                            else
                                            some (0, s38))))
                                          else
                                          (if (xv (Int32.toNatClampNeg l3)) &&& 31 = 20 then
                                            zcl (m_X8_next 0 s) (fun r33 s32 => zcl (m_X9_next 64 s32) (fun r35 s34 => (if r33 = r35 then
                                              m_L_law_822 L xv rec18 l3 s34
                                              else
                                              some (0, s34))))
                                            else
                                            (if (xv (Int32.toNatClampNeg l3)) &&& 31 = 21 then
                                              zcl (m_X8_fewest 0 s) (fun r29 s28 => zcl (m_X9_fewest 64 s28) (fun r31 s30 => (if r29 = r31 then
                                                m_L_law_822 L xv rec18 l3 s30
                                                else
                                                some (0, s30))))
                                              else
                                              (if (xv (Int32.toNatClampNeg l3)) &&& 31 = 22 then
                                                (if l3 + 1 < 0 ∨ L ≤ Int32.toNatClampNeg (l3 + 1) then none else zcl (m_X8_about 0 (xv (Int32.toNatClampNeg (l3 + 1))) s) (fun r25 s24 => (if l3 + 1 < 0 ∨ L ≤ Int32.toNatClampNeg (l3 + 1) then none else zcl (m_X9_about 64 (xv (Int32.toNatClampNeg (l3 + 1))) s24) (fun r27 s26 => (if r25 = r27 then
                                                  m_L_law_822 L xv rec18 l3 s26
                                                  else
                                                  some (0, s26))))))
                                                else
                                                m_L_law_822 L xv rec18 l3 s)))))))))))))))))))))))))
def lp_L_law_18 (L : Nat) (xv : Nat → Int32) : Nat → Int32 → zSt → Option (Int32 × zSt)
  | 0, _, _ => none
  | n + 1, l3, s => bd_L_law_18 L xv (fun l3 s => lp_L_law_18 L xv n l3 s) l3 s
set_option maxRecDepth 100000 in
theorem jb_L_law_18 {L : Nat} {xv : Nat → Int32} {rec18 : Int32 → zSt → Option (Int32 × zSt)} {l3 : Int32} {s : zSt} {w : zWC} {x : zCX} {b : Nat} (hr : zLw w x b L xv) (h_rec18 : ∀ (l3 : Int32) (s : zSt), zJ (zQl x b) w x RL cL_law 4 1000 (rec18 l3 s) 18 [some (.ref b), some (.ref (zb w + 0)), some (.ref (zb w + 64)), some (.int l3)] [] s) : zJ (zQl x b) w x RL cL_law 4 1000 (bd_L_law_18 L xv rec18 l3 s) 18 [some (.ref b), some (.ref (zb w + 0)), some (.ref (zb w + 64)), some (.int l3)] [] s := by
  unfold bd_L_law_18
  refine zj_iload_n dL_law_18 rfl ?_
  refine zj_aload_n dL_law_19 rfl ?_
  refine zj_slen hr dL_law_20 ?_
  refine zj_bipush dL_law_21 zbi_6 ?_
  refine zj_isub dL_law_23 ?_
  refine zj_icmp_gt (tgt := 828) dL_law_24 (by decide) ?_ ?_
  · refine zj_iconst dL_law_828 zic_1 ?_
    exact zj_law1 hr dL_law_829
  · refine zj_aload_n dL_law_27 rfl ?_
    refine zj_iload_n dL_law_28 rfl ?_
    refine zj_sld hr dL_law_29 ?_
    refine zj_bipush dL_law_30 zbi_31 ?_
    refine zj_iand dL_law_32 ?_
    refine zj_split (fun hs1 => ?_) (fun hs1 => ?_)
    · refine zj_tsE (u := 0) (tgt := 140) hs1 dL_law_33 (by decide) (by decide) rfl (by decide) ?_
      refine zj_aload_n dL_law_140 rfl ?_
      refine zj_aload_n dL_law_141 rfl ?_
      refine zj_iload_n dL_law_142 rfl ?_
      refine zj_iconst dL_law_143 zic_1 ?_
      refine zj_iadd dL_law_144 ?_
      refine zj_sld hr dL_law_145 ?_
      refine zj_aload_n dL_law_146 rfl ?_
      refine zj_iload_n dL_law_147 rfl ?_
      refine zj_iconst dL_law_148 zic_2 ?_
      refine zj_iadd dL_law_149 ?_
      refine zj_sld hr dL_law_150 ?_
      refine zj_aload_n dL_law_151 rfl ?_
      refine zj_iload_n dL_law_152 rfl ?_
      refine zj_iconst dL_law_153 zic_3 ?_
      refine zj_iadd dL_law_154 ?_
      refine zj_sld hr dL_law_155 ?_
      refine zj_aload_n dL_law_156 rfl ?_
      refine zj_iload_n dL_law_157 rfl ?_
      refine zj_iconst dL_law_158 zic_4 ?_
      refine zj_iadd dL_law_159 ?_
      refine zj_sld hr dL_law_160 ?_
      refine zj_aload_n dL_law_161 rfl ?_
      refine zj_iload_n dL_law_162 rfl ?_
      refine zj_iconst dL_law_163 zic_5 ?_
      refine zj_iadd dL_law_164 ?_
      refine zj_sld hr dL_law_165 ?_
      refine zj_cVI5 ml_L_13 (fun a h => c_X8_feed rfl h) rfl rfl (Nat.le_of_ble_eq_true rfl) (Nat.le_of_ble_eq_true rfl) dL_law_166 (fun r113 s112 => ?_)
      refine zj_aload_n dL_law_169 rfl ?_
      refine zj_aload_n dL_law_170 rfl ?_
      refine zj_iload_n dL_law_171 rfl ?_
      refine zj_iconst dL_law_172 zic_1 ?_
      refine zj_iadd dL_law_173 ?_
      refine zj_sld hr dL_law_174 ?_
      refine zj_aload_n dL_law_175 rfl ?_
      refine zj_iload_n dL_law_176 rfl ?_
      refine zj_iconst dL_law_177 zic_2 ?_
      refine zj_iadd dL_law_178 ?_
      refine zj_sld hr dL_law_179 ?_
      refine zj_aload_n dL_law_180 rfl ?_
      refine zj_iload_n dL_law_181 rfl ?_
      refine zj_iconst dL_law_182 zic_3 ?_
      refine zj_iadd dL_law_183 ?_
      refine zj_sld hr dL_law_184 ?_
      refine zj_aload_n dL_law_185 rfl ?_
      refine zj_iload_n dL_law_186 rfl ?_
      refine zj_iconst dL_law_187 zic_4 ?_
      refine zj_iadd dL_law_188 ?_
      refine zj_sld hr dL_law_189 ?_
      refine zj_aload_n dL_law_190 rfl ?_
      refine zj_iload_n dL_law_191 rfl ?_
      refine zj_iconst dL_law_192 zic_5 ?_
      refine zj_iadd dL_law_193 ?_
      refine zj_sld hr dL_law_194 ?_
      refine zj_cVI5 ml_L_17 (fun a h => c_X9_feed rfl h) rfl rfl (Nat.le_of_ble_eq_true rfl) (Nat.le_of_ble_eq_true rfl) dL_law_195 (fun r115 s114 => ?_)
      refine zj_icmp_eq (tgt := 822) dL_law_198 (by decide) ?_ ?_
      · exact j_L_law_822 hr h_rec18
      · refine zj_iconst dL_law_201 zic_0 ?_
        exact zj_law0 hr dL_law_202
    · refine zj_split (fun hs2 => ?_) (fun hs2 => ?_)
      · refine zj_tsE (u := 1) (tgt := 203) hs2 dL_law_33 (by decide) (by decide) rfl (by decide) ?_
        refine zj_aload_n dL_law_203 rfl ?_
        refine zj_aload_n dL_law_204 rfl ?_
        refine zj_iload_n dL_law_205 rfl ?_
        refine zj_iconst dL_law_206 zic_1 ?_
        refine zj_iadd dL_law_207 ?_
        refine zj_sld hr dL_law_208 ?_
        refine zj_cVI1 ml_L_18 (fun a h => c_X8_end rfl h) rfl rfl (Nat.le_of_ble_eq_true rfl) (Nat.le_of_ble_eq_true rfl) dL_law_209 (fun r109 s108 => ?_)
        refine zj_aload_n dL_law_212 rfl ?_
        refine zj_aload_n dL_law_213 rfl ?_
        refine zj_iload_n dL_law_214 rfl ?_
        refine zj_iconst dL_law_215 zic_1 ?_
        refine zj_iadd dL_law_216 ?_
        refine zj_sld hr dL_law_217 ?_
        refine zj_cVI1 ml_L_22 (fun a h => c_X9_end rfl h) rfl rfl (Nat.le_of_ble_eq_true rfl) (Nat.le_of_ble_eq_true rfl) dL_law_218 (fun r111 s110 => ?_)
        refine zj_icmp_eq (tgt := 822) dL_law_221 (by decide) ?_ ?_
        · exact j_L_law_822 hr h_rec18
        · refine zj_iconst dL_law_224 zic_0 ?_
          exact zj_law0 hr dL_law_225
      · refine zj_split (fun hs3 => ?_) (fun hs3 => ?_)
        · refine zj_tsE (u := 2) (tgt := 226) hs3 dL_law_33 (by decide) (by decide) rfl (by decide) ?_
          refine zj_aload_n dL_law_226 rfl ?_
          refine zj_cVI0 ml_L_23 (fun a h => c_X8_shed rfl h) rfl rfl (Nat.le_of_ble_eq_true rfl) (Nat.le_of_ble_eq_true rfl) dL_law_227 (fun r105 s104 => ?_)
          refine zj_aload_n dL_law_230 rfl ?_
          refine zj_cVI0 ml_L_27 (fun a h => c_X9_shed rfl h) rfl rfl (Nat.le_of_ble_eq_true rfl) (Nat.le_of_ble_eq_true rfl) dL_law_231 (fun r107 s106 => ?_)
          refine zj_icmp_eq (tgt := 822) dL_law_234 (by decide) ?_ ?_
          · exact j_L_law_822 hr h_rec18
          · refine zj_iconst dL_law_237 zic_0 ?_
            exact zj_law0 hr dL_law_238
        · refine zj_split (fun hs4 => ?_) (fun hs4 => ?_)
          · refine zj_tsE (u := 3) (tgt := 239) hs4 dL_law_33 (by decide) (by decide) rfl (by decide) ?_
            refine zj_aload_n dL_law_239 rfl ?_
            refine zj_cVI0 ml_L_28 (fun a h => c_X8_houses rfl h) rfl rfl (Nat.le_of_ble_eq_true rfl) (Nat.le_of_ble_eq_true rfl) dL_law_240 (fun r101 s100 => ?_)
            refine zj_aload_n dL_law_243 rfl ?_
            refine zj_cVI0 ml_L_31 (fun a h => c_X9_houses rfl h) rfl rfl (Nat.le_of_ble_eq_true rfl) (Nat.le_of_ble_eq_true rfl) dL_law_244 (fun r103 s102 => ?_)
            refine zj_icmp_eq (tgt := 822) dL_law_247 (by decide) ?_ ?_
            · exact j_L_law_822 hr h_rec18
            · refine zj_iconst dL_law_250 zic_0 ?_
              exact zj_law0 hr dL_law_251
          · refine zj_split (fun hs5 => ?_) (fun hs5 => ?_)
            · refine zj_tsE (u := 4) (tgt := 252) hs5 dL_law_33 (by decide) (by decide) rfl (by decide) ?_
              refine zj_aload_n dL_law_252 rfl ?_
              refine zj_cVI0 ml_L_32 (fun a h => c_X8_sum rfl h) rfl rfl (Nat.le_of_ble_eq_true rfl) (Nat.le_of_ble_eq_true rfl) dL_law_253 (fun r97 s96 => ?_)
              refine zj_aload_n dL_law_256 rfl ?_
              refine zj_cVI0 ml_L_35 (fun a h => c_X9_sum rfl h) rfl rfl (Nat.le_of_ble_eq_true rfl) (Nat.le_of_ble_eq_true rfl) dL_law_257 (fun r99 s98 => ?_)
              refine zj_icmp_eq (tgt := 822) dL_law_260 (by decide) ?_ ?_
              · exact j_L_law_822 hr h_rec18
              · refine zj_iconst dL_law_263 zic_0 ?_
                exact zj_law0 hr dL_law_264
            · refine zj_split (fun hs6 => ?_) (fun hs6 => ?_)
              · refine zj_tsE (u := 5) (tgt := 265) hs6 dL_law_33 (by decide) (by decide) rfl (by decide) ?_
                refine zj_aload_n dL_law_265 rfl ?_
                refine zj_aload_n dL_law_266 rfl ?_
                refine zj_iload_n dL_law_267 rfl ?_
                refine zj_iconst dL_law_268 zic_1 ?_
                refine zj_iadd dL_law_269 ?_
                refine zj_sld hr dL_law_270 ?_
                refine zj_cVI1 ml_L_36 (fun a h => c_X8_fault rfl h) rfl rfl (Nat.le_of_ble_eq_true rfl) (Nat.le_of_ble_eq_true rfl) dL_law_271 (fun r93 s92 => ?_)
                refine zj_aload_n dL_law_274 rfl ?_
                refine zj_aload_n dL_law_275 rfl ?_
                refine zj_iload_n dL_law_276 rfl ?_
                refine zj_iconst dL_law_277 zic_1 ?_
                refine zj_iadd dL_law_278 ?_
                refine zj_sld hr dL_law_279 ?_
                refine zj_cVI1 ml_L_39 (fun a h => c_X9_fault rfl h) rfl rfl (Nat.le_of_ble_eq_true rfl) (Nat.le_of_ble_eq_true rfl) dL_law_280 (fun r95 s94 => ?_)
                refine zj_icmp_eq (tgt := 822) dL_law_283 (by decide) ?_ ?_
                · exact j_L_law_822 hr h_rec18
                · refine zj_iconst dL_law_286 zic_0 ?_
                  exact zj_law0 hr dL_law_287
              · refine zj_split (fun hs7 => ?_) (fun hs7 => ?_)
                · refine zj_tsE (u := 6) (tgt := 288) hs7 dL_law_33 (by decide) (by decide) rfl (by decide) ?_
                  refine zj_aload_n dL_law_288 rfl ?_
                  refine zj_aload_n dL_law_289 rfl ?_
                  refine zj_iload_n dL_law_290 rfl ?_
                  refine zj_iconst dL_law_291 zic_1 ?_
                  refine zj_iadd dL_law_292 ?_
                  refine zj_sld hr dL_law_293 ?_
                  refine zj_aload_n dL_law_294 rfl ?_
                  refine zj_iload_n dL_law_295 rfl ?_
                  refine zj_iconst dL_law_296 zic_2 ?_
                  refine zj_iadd dL_law_297 ?_
                  refine zj_sld hr dL_law_298 ?_
                  refine zj_aload_n dL_law_299 rfl ?_
                  refine zj_iload_n dL_law_300 rfl ?_
                  refine zj_iconst dL_law_301 zic_3 ?_
                  refine zj_iadd dL_law_302 ?_
                  refine zj_sld hr dL_law_303 ?_
                  refine zj_cVL3 ml_L_40 (fun a h => c_X8_rest rfl h) rfl rfl (Nat.le_of_ble_eq_true rfl) (Nat.le_of_ble_eq_true rfl) dL_law_304 (fun r89 s88 => ?_)
                  refine zj_aload_n dL_law_307 rfl ?_
                  refine zj_aload_n dL_law_308 rfl ?_
                  refine zj_iload_n dL_law_309 rfl ?_
                  refine zj_iconst dL_law_310 zic_1 ?_
                  refine zj_iadd dL_law_311 ?_
                  refine zj_sld hr dL_law_312 ?_
                  refine zj_aload_n dL_law_313 rfl ?_
                  refine zj_iload_n dL_law_314 rfl ?_
                  refine zj_iconst dL_law_315 zic_2 ?_
                  refine zj_iadd dL_law_316 ?_
                  refine zj_sld hr dL_law_317 ?_
                  refine zj_aload_n dL_law_318 rfl ?_
                  refine zj_iload_n dL_law_319 rfl ?_
                  refine zj_iconst dL_law_320 zic_3 ?_
                  refine zj_iadd dL_law_321 ?_
                  refine zj_sld hr dL_law_322 ?_
                  refine zj_cVL3 ml_L_44 (fun a h => c_X9_rest rfl h) rfl rfl (Nat.le_of_ble_eq_true rfl) (Nat.le_of_ble_eq_true rfl) dL_law_323 (fun r91 s90 => ?_)
                  refine zj_lcmp_eq (tgt := 822) dL_law_326 dL_law_327 (by decide) ?_ ?_
                  · exact j_L_law_822 hr h_rec18
                  · refine zj_iconst dL_law_330 zic_0 ?_
                    exact zj_law0 hr dL_law_331
                · refine zj_split (fun hs8 => ?_) (fun hs8 => ?_)
                  · refine zj_tsE (u := 7) (tgt := 332) hs8 dL_law_33 (by decide) (by decide) rfl (by decide) ?_
                    refine zj_aload_n dL_law_332 rfl ?_
                    refine zj_aload_n dL_law_333 rfl ?_
                    refine zj_iload_n dL_law_334 rfl ?_
                    refine zj_iconst dL_law_335 zic_1 ?_
                    refine zj_iadd dL_law_336 ?_
                    refine zj_sld hr dL_law_337 ?_
                    refine zj_aload_n dL_law_338 rfl ?_
                    refine zj_iload_n dL_law_339 rfl ?_
                    refine zj_iconst dL_law_340 zic_2 ?_
                    refine zj_iadd dL_law_341 ?_
                    refine zj_sld hr dL_law_342 ?_
                    refine zj_aload_n dL_law_343 rfl ?_
                    refine zj_iload_n dL_law_344 rfl ?_
                    refine zj_iconst dL_law_345 zic_3 ?_
                    refine zj_iadd dL_law_346 ?_
                    refine zj_sld hr dL_law_347 ?_
                    refine zj_aload_n dL_law_348 rfl ?_
                    refine zj_iload_n dL_law_349 rfl ?_
                    refine zj_iconst dL_law_350 zic_4 ?_
                    refine zj_iadd dL_law_351 ?_
                    refine zj_sld hr dL_law_352 ?_
                    refine zj_cVL4 ml_L_45 (fun a h => c_X8_turning rfl h) rfl rfl (Nat.le_of_ble_eq_true rfl) (Nat.le_of_ble_eq_true rfl) dL_law_353 (fun r85 s84 => ?_)
                    refine zj_aload_n dL_law_356 rfl ?_
                    refine zj_aload_n dL_law_357 rfl ?_
                    refine zj_iload_n dL_law_358 rfl ?_
                    refine zj_iconst dL_law_359 zic_1 ?_
                    refine zj_iadd dL_law_360 ?_
                    refine zj_sld hr dL_law_361 ?_
                    refine zj_aload_n dL_law_362 rfl ?_
                    refine zj_iload_n dL_law_363 rfl ?_
                    refine zj_iconst dL_law_364 zic_2 ?_
                    refine zj_iadd dL_law_365 ?_
                    refine zj_sld hr dL_law_366 ?_
                    refine zj_aload_n dL_law_367 rfl ?_
                    refine zj_iload_n dL_law_368 rfl ?_
                    refine zj_iconst dL_law_369 zic_3 ?_
                    refine zj_iadd dL_law_370 ?_
                    refine zj_sld hr dL_law_371 ?_
                    refine zj_aload_n dL_law_372 rfl ?_
                    refine zj_iload_n dL_law_373 rfl ?_
                    refine zj_iconst dL_law_374 zic_4 ?_
                    refine zj_iadd dL_law_375 ?_
                    refine zj_sld hr dL_law_376 ?_
                    refine zj_cVL4 ml_L_49 (fun a h => c_X9_turning rfl h) rfl rfl (Nat.le_of_ble_eq_true rfl) (Nat.le_of_ble_eq_true rfl) dL_law_377 (fun r87 s86 => ?_)
                    refine zj_lcmp_eq (tgt := 822) dL_law_380 dL_law_381 (by decide) ?_ ?_
                    · exact j_L_law_822 hr h_rec18
                    · refine zj_iconst dL_law_384 zic_0 ?_
                      exact zj_law0 hr dL_law_385
                  · refine zj_split (fun hs9 => ?_) (fun hs9 => ?_)
                    · refine zj_tsE (u := 8) (tgt := 386) hs9 dL_law_33 (by decide) (by decide) rfl (by decide) ?_
                      refine zj_aload_n dL_law_386 rfl ?_
                      refine zj_aload_n dL_law_387 rfl ?_
                      refine zj_iload_n dL_law_388 rfl ?_
                      refine zj_iconst dL_law_389 zic_1 ?_
                      refine zj_iadd dL_law_390 ?_
                      refine zj_sld hr dL_law_391 ?_
                      refine zj_aload_n dL_law_392 rfl ?_
                      refine zj_iload_n dL_law_393 rfl ?_
                      refine zj_iconst dL_law_394 zic_2 ?_
                      refine zj_iadd dL_law_395 ?_
                      refine zj_sld hr dL_law_396 ?_
                      refine zj_aload_n dL_law_397 rfl ?_
                      refine zj_iload_n dL_law_398 rfl ?_
                      refine zj_iconst dL_law_399 zic_3 ?_
                      refine zj_iadd dL_law_400 ?_
                      refine zj_sld hr dL_law_401 ?_
                      refine zj_aload_n dL_law_402 rfl ?_
                      refine zj_iload_n dL_law_403 rfl ?_
                      refine zj_iconst dL_law_404 zic_4 ?_
                      refine zj_iadd dL_law_405 ?_
                      refine zj_sld hr dL_law_406 ?_
                      refine zj_aload_n dL_law_407 rfl ?_
                      refine zj_iload_n dL_law_408 rfl ?_
                      refine zj_iconst dL_law_409 zic_5 ?_
                      refine zj_iadd dL_law_410 ?_
                      refine zj_sld hr dL_law_411 ?_
                      refine zj_cVL5 ml_L_50 (fun a h => c_X8_had rfl h) rfl rfl (Nat.le_of_ble_eq_true rfl) (Nat.le_of_ble_eq_true rfl) dL_law_412 (fun r81 s80 => ?_)
                      refine zj_aload_n dL_law_415 rfl ?_
                      refine zj_aload_n dL_law_416 rfl ?_
                      refine zj_iload_n dL_law_417 rfl ?_
                      refine zj_iconst dL_law_418 zic_1 ?_
                      refine zj_iadd dL_law_419 ?_
                      refine zj_sld hr dL_law_420 ?_
                      refine zj_aload_n dL_law_421 rfl ?_
                      refine zj_iload_n dL_law_422 rfl ?_
                      refine zj_iconst dL_law_423 zic_2 ?_
                      refine zj_iadd dL_law_424 ?_
                      refine zj_sld hr dL_law_425 ?_
                      refine zj_aload_n dL_law_426 rfl ?_
                      refine zj_iload_n dL_law_427 rfl ?_
                      refine zj_iconst dL_law_428 zic_3 ?_
                      refine zj_iadd dL_law_429 ?_
                      refine zj_sld hr dL_law_430 ?_
                      refine zj_aload_n dL_law_431 rfl ?_
                      refine zj_iload_n dL_law_432 rfl ?_
                      refine zj_iconst dL_law_433 zic_4 ?_
                      refine zj_iadd dL_law_434 ?_
                      refine zj_sld hr dL_law_435 ?_
                      refine zj_aload_n dL_law_436 rfl ?_
                      refine zj_iload_n dL_law_437 rfl ?_
                      refine zj_iconst dL_law_438 zic_5 ?_
                      refine zj_iadd dL_law_439 ?_
                      refine zj_sld hr dL_law_440 ?_
                      refine zj_cVL5 ml_L_54 (fun a h => c_X9_had rfl h) rfl rfl (Nat.le_of_ble_eq_true rfl) (Nat.le_of_ble_eq_true rfl) dL_law_441 (fun r83 s82 => ?_)
                      refine zj_lcmp_eq (tgt := 822) dL_law_444 dL_law_445 (by decide) ?_ ?_
                      · exact j_L_law_822 hr h_rec18
                      · refine zj_iconst dL_law_448 zic_0 ?_
                        exact zj_law0 hr dL_law_449
                    · refine zj_split (fun hs10 => ?_) (fun hs10 => ?_)
                      · refine zj_tsE (u := 9) (tgt := 450) hs10 dL_law_33 (by decide) (by decide) rfl (by decide) ?_
                        refine zj_aload_n dL_law_450 rfl ?_
                        refine zj_aload_n dL_law_451 rfl ?_
                        refine zj_iload_n dL_law_452 rfl ?_
                        refine zj_iconst dL_law_453 zic_1 ?_
                        refine zj_iadd dL_law_454 ?_
                        refine zj_sld hr dL_law_455 ?_
                        refine zj_aload_n dL_law_456 rfl ?_
                        refine zj_iload_n dL_law_457 rfl ?_
                        refine zj_iconst dL_law_458 zic_2 ?_
                        refine zj_iadd dL_law_459 ?_
                        refine zj_sld hr dL_law_460 ?_
                        refine zj_aload_n dL_law_461 rfl ?_
                        refine zj_iload_n dL_law_462 rfl ?_
                        refine zj_iconst dL_law_463 zic_3 ?_
                        refine zj_iadd dL_law_464 ?_
                        refine zj_sld hr dL_law_465 ?_
                        refine zj_cVI3 ml_L_55 (fun a h => c_X8_reading rfl h) rfl rfl (Nat.le_of_ble_eq_true rfl) (Nat.le_of_ble_eq_true rfl) dL_law_466 (fun r77 s76 => ?_)
                        refine zj_aload_n dL_law_469 rfl ?_
                        refine zj_aload_n dL_law_470 rfl ?_
                        refine zj_iload_n dL_law_471 rfl ?_
                        refine zj_iconst dL_law_472 zic_1 ?_
                        refine zj_iadd dL_law_473 ?_
                        refine zj_sld hr dL_law_474 ?_
                        refine zj_aload_n dL_law_475 rfl ?_
                        refine zj_iload_n dL_law_476 rfl ?_
                        refine zj_iconst dL_law_477 zic_2 ?_
                        refine zj_iadd dL_law_478 ?_
                        refine zj_sld hr dL_law_479 ?_
                        refine zj_aload_n dL_law_480 rfl ?_
                        refine zj_iload_n dL_law_481 rfl ?_
                        refine zj_iconst dL_law_482 zic_3 ?_
                        refine zj_iadd dL_law_483 ?_
                        refine zj_sld hr dL_law_484 ?_
                        refine zj_cVI3 ml_L_59 (fun a h => c_X9_reading rfl h) rfl rfl (Nat.le_of_ble_eq_true rfl) (Nat.le_of_ble_eq_true rfl) dL_law_485 (fun r79 s78 => ?_)
                        refine zj_icmp_eq (tgt := 822) dL_law_488 (by decide) ?_ ?_
                        · exact j_L_law_822 hr h_rec18
                        · refine zj_iconst dL_law_491 zic_0 ?_
                          exact zj_law0 hr dL_law_492
                      · refine zj_split (fun hs11 => ?_) (fun hs11 => ?_)
                        · refine zj_tsE (u := 10) (tgt := 493) hs11 dL_law_33 (by decide) (by decide) rfl (by decide) ?_
                          refine zj_aload_n dL_law_493 rfl ?_
                          refine zj_aload_n dL_law_494 rfl ?_
                          refine zj_iload_n dL_law_495 rfl ?_
                          refine zj_iconst dL_law_496 zic_1 ?_
                          refine zj_iadd dL_law_497 ?_
                          refine zj_sld hr dL_law_498 ?_
                          refine zj_cVI1 ml_L_60 (fun a h => c_X8_untell rfl h) rfl rfl (Nat.le_of_ble_eq_true rfl) (Nat.le_of_ble_eq_true rfl) dL_law_499 (fun r73 s72 => ?_)
                          refine zj_aload_n dL_law_502 rfl ?_
                          refine zj_aload_n dL_law_503 rfl ?_
                          refine zj_iload_n dL_law_504 rfl ?_
                          refine zj_iconst dL_law_505 zic_1 ?_
                          refine zj_iadd dL_law_506 ?_
                          refine zj_sld hr dL_law_507 ?_
                          refine zj_cVI1 ml_L_64 (fun a h => c_X9_untell rfl h) rfl rfl (Nat.le_of_ble_eq_true rfl) (Nat.le_of_ble_eq_true rfl) dL_law_508 (fun r75 s74 => ?_)
                          refine zj_icmp_eq (tgt := 822) dL_law_511 (by decide) ?_ ?_
                          · exact j_L_law_822 hr h_rec18
                          · refine zj_iconst dL_law_514 zic_0 ?_
                            exact zj_law0 hr dL_law_515
                        · refine zj_split (fun hs12 => ?_) (fun hs12 => ?_)
                          · refine zj_tsE (u := 11) (tgt := 516) hs12 dL_law_33 (by decide) (by decide) rfl (by decide) ?_
                            refine zj_aload_n dL_law_516 rfl ?_
                            refine zj_aload_n dL_law_517 rfl ?_
                            refine zj_iload_n dL_law_518 rfl ?_
                            refine zj_iconst dL_law_519 zic_1 ?_
                            refine zj_iadd dL_law_520 ?_
                            refine zj_sld hr dL_law_521 ?_
                            refine zj_cVI1 ml_L_65 (fun a h => c_X8_later rfl h) rfl rfl (Nat.le_of_ble_eq_true rfl) (Nat.le_of_ble_eq_true rfl) dL_law_522 (fun r69 s68 => ?_)
                            refine zj_aload_n dL_law_525 rfl ?_
                            refine zj_aload_n dL_law_526 rfl ?_
                            refine zj_iload_n dL_law_527 rfl ?_
                            refine zj_iconst dL_law_528 zic_1 ?_
                            refine zj_iadd dL_law_529 ?_
                            refine zj_sld hr dL_law_530 ?_
                            refine zj_cVI1 ml_L_68 (fun a h => c_X9_later rfl h) rfl rfl (Nat.le_of_ble_eq_true rfl) (Nat.le_of_ble_eq_true rfl) dL_law_531 (fun r71 s70 => ?_)
                            refine zj_icmp_eq (tgt := 822) dL_law_534 (by decide) ?_ ?_
                            · exact j_L_law_822 hr h_rec18
                            · refine zj_iconst dL_law_537 zic_0 ?_
                              exact zj_law0 hr dL_law_538
                          · refine zj_split (fun hs13 => ?_) (fun hs13 => ?_)
                            · refine zj_tsE (u := 12) (tgt := 539) hs13 dL_law_33 (by decide) (by decide) rfl (by decide) ?_
                              refine zj_aload_n dL_law_539 rfl ?_
                              refine zj_aload_n dL_law_540 rfl ?_
                              refine zj_iload_n dL_law_541 rfl ?_
                              refine zj_iconst dL_law_542 zic_1 ?_
                              refine zj_iadd dL_law_543 ?_
                              refine zj_sld hr dL_law_544 ?_
                              refine zj_aload_n dL_law_545 rfl ?_
                              refine zj_iload_n dL_law_546 rfl ?_
                              refine zj_iconst dL_law_547 zic_2 ?_
                              refine zj_iadd dL_law_548 ?_
                              refine zj_sld hr dL_law_549 ?_
                              refine zj_aload_n dL_law_550 rfl ?_
                              refine zj_iload_n dL_law_551 rfl ?_
                              refine zj_iconst dL_law_552 zic_3 ?_
                              refine zj_iadd dL_law_553 ?_
                              refine zj_sld hr dL_law_554 ?_
                              refine zj_aload_n dL_law_555 rfl ?_
                              refine zj_iload_n dL_law_556 rfl ?_
                              refine zj_iconst dL_law_557 zic_4 ?_
                              refine zj_iadd dL_law_558 ?_
                              refine zj_sld hr dL_law_559 ?_
                              refine zj_cVL4 ml_L_69 (fun a h => c_X8_fit rfl h) rfl rfl (Nat.le_of_ble_eq_true rfl) (Nat.le_of_ble_eq_true rfl) dL_law_560 (fun r65 s64 => ?_)
                              refine zj_aload_n dL_law_563 rfl ?_
                              refine zj_aload_n dL_law_564 rfl ?_
                              refine zj_iload_n dL_law_565 rfl ?_
                              refine zj_iconst dL_law_566 zic_1 ?_
                              refine zj_iadd dL_law_567 ?_
                              refine zj_sld hr dL_law_568 ?_
                              refine zj_aload_n dL_law_569 rfl ?_
                              refine zj_iload_n dL_law_570 rfl ?_
                              refine zj_iconst dL_law_571 zic_2 ?_
                              refine zj_iadd dL_law_572 ?_
                              refine zj_sld hr dL_law_573 ?_
                              refine zj_aload_n dL_law_574 rfl ?_
                              refine zj_iload_n dL_law_575 rfl ?_
                              refine zj_iconst dL_law_576 zic_3 ?_
                              refine zj_iadd dL_law_577 ?_
                              refine zj_sld hr dL_law_578 ?_
                              refine zj_aload_n dL_law_579 rfl ?_
                              refine zj_iload_n dL_law_580 rfl ?_
                              refine zj_iconst dL_law_581 zic_4 ?_
                              refine zj_iadd dL_law_582 ?_
                              refine zj_sld hr dL_law_583 ?_
                              refine zj_cVL4 ml_L_72 (fun a h => c_X9_fit rfl h) rfl rfl (Nat.le_of_ble_eq_true rfl) (Nat.le_of_ble_eq_true rfl) dL_law_584 (fun r67 s66 => ?_)
                              refine zj_lcmp_eq (tgt := 822) dL_law_587 dL_law_588 (by decide) ?_ ?_
                              · exact j_L_law_822 hr h_rec18
                              · refine zj_iconst dL_law_591 zic_0 ?_
                                exact zj_law0 hr dL_law_592
                            · refine zj_split (fun hs14 => ?_) (fun hs14 => ?_)
                              · refine zj_tsE (u := 13) (tgt := 593) hs14 dL_law_33 (by decide) (by decide) rfl (by decide) ?_
                                refine zj_aload_n dL_law_593 rfl ?_
                                refine zj_aload_n dL_law_594 rfl ?_
                                refine zj_iload_n dL_law_595 rfl ?_
                                refine zj_iconst dL_law_596 zic_1 ?_
                                refine zj_iadd dL_law_597 ?_
                                refine zj_sld hr dL_law_598 ?_
                                refine zj_cVL1 ml_L_73 (fun a h => c_X8_world rfl h) rfl rfl (Nat.le_of_ble_eq_true rfl) (Nat.le_of_ble_eq_true rfl) dL_law_599 (fun r61 s60 => ?_)
                                refine zj_aload_n dL_law_602 rfl ?_
                                refine zj_aload_n dL_law_603 rfl ?_
                                refine zj_iload_n dL_law_604 rfl ?_
                                refine zj_iconst dL_law_605 zic_1 ?_
                                refine zj_iadd dL_law_606 ?_
                                refine zj_sld hr dL_law_607 ?_
                                refine zj_cVL1 ml_L_77 (fun a h => c_X9_world rfl h) rfl rfl (Nat.le_of_ble_eq_true rfl) (Nat.le_of_ble_eq_true rfl) dL_law_608 (fun r63 s62 => ?_)
                                refine zj_lcmp_eq (tgt := 822) dL_law_611 dL_law_612 (by decide) ?_ ?_
                                · exact j_L_law_822 hr h_rec18
                                · refine zj_iconst dL_law_615 zic_0 ?_
                                  exact zj_law0 hr dL_law_616
                              · refine zj_split (fun hs15 => ?_) (fun hs15 => ?_)
                                · refine zj_tsE (u := 14) (tgt := 617) hs15 dL_law_33 (by decide) (by decide) rfl (by decide) ?_
                                  refine zj_aload_n dL_law_617 rfl ?_
                                  refine zj_aload_n dL_law_618 rfl ?_
                                  refine zj_iload_n dL_law_619 rfl ?_
                                  refine zj_iconst dL_law_620 zic_1 ?_
                                  refine zj_iadd dL_law_621 ?_
                                  refine zj_sld hr dL_law_622 ?_
                                  refine zj_cVI1 ml_L_78 (fun a h => c_X8_order rfl h) rfl rfl (Nat.le_of_ble_eq_true rfl) (Nat.le_of_ble_eq_true rfl) dL_law_623 (fun r57 s56 => ?_)
                                  refine zj_aload_n dL_law_626 rfl ?_
                                  refine zj_aload_n dL_law_627 rfl ?_
                                  refine zj_iload_n dL_law_628 rfl ?_
                                  refine zj_iconst dL_law_629 zic_1 ?_
                                  refine zj_iadd dL_law_630 ?_
                                  refine zj_sld hr dL_law_631 ?_
                                  refine zj_cVI1 ml_L_81 (fun a h => c_X9_order rfl h) rfl rfl (Nat.le_of_ble_eq_true rfl) (Nat.le_of_ble_eq_true rfl) dL_law_632 (fun r59 s58 => ?_)
                                  refine zj_icmp_eq (tgt := 822) dL_law_635 (by decide) ?_ ?_
                                  · exact j_L_law_822 hr h_rec18
                                  · refine zj_iconst dL_law_638 zic_0 ?_
                                    exact zj_law0 hr dL_law_639
                                · refine zj_split (fun hs16 => ?_) (fun hs16 => ?_)
                                  · refine zj_tsE (u := 15) (tgt := 640) hs16 dL_law_33 (by decide) (by decide) rfl (by decide) ?_
                                    refine zj_aload_n dL_law_640 rfl ?_
                                    refine zj_aload_n dL_law_641 rfl ?_
                                    refine zj_iload_n dL_law_642 rfl ?_
                                    refine zj_iconst dL_law_643 zic_1 ?_
                                    refine zj_iadd dL_law_644 ?_
                                    refine zj_sld hr dL_law_645 ?_
                                    refine zj_cVI1 ml_L_82 (fun a h => c_X8_agree rfl h) rfl rfl (Nat.le_of_ble_eq_true rfl) (Nat.le_of_ble_eq_true rfl) dL_law_646 (fun r53 s52 => ?_)
                                    refine zj_aload_n dL_law_649 rfl ?_
                                    refine zj_aload_n dL_law_650 rfl ?_
                                    refine zj_iload_n dL_law_651 rfl ?_
                                    refine zj_iconst dL_law_652 zic_1 ?_
                                    refine zj_iadd dL_law_653 ?_
                                    refine zj_sld hr dL_law_654 ?_
                                    refine zj_cVI1 ml_L_85 (fun a h => c_X9_agree rfl h) rfl rfl (Nat.le_of_ble_eq_true rfl) (Nat.le_of_ble_eq_true rfl) dL_law_655 (fun r55 s54 => ?_)
                                    refine zj_icmp_eq (tgt := 822) dL_law_658 (by decide) ?_ ?_
                                    · exact j_L_law_822 hr h_rec18
                                    · refine zj_iconst dL_law_661 zic_0 ?_
                                      exact zj_law0 hr dL_law_662
                                  · refine zj_split (fun hs17 => ?_) (fun hs17 => ?_)
                                    · refine zj_tsE (u := 16) (tgt := 663) hs17 dL_law_33 (by decide) (by decide) rfl (by decide) ?_
                                      refine zj_aload_n dL_law_663 rfl ?_
                                      refine zj_aload_n dL_law_664 rfl ?_
                                      refine zj_iload_n dL_law_665 rfl ?_
                                      refine zj_iconst dL_law_666 zic_1 ?_
                                      refine zj_iadd dL_law_667 ?_
                                      refine zj_sld hr dL_law_668 ?_
                                      refine zj_aload_n dL_law_669 rfl ?_
                                      refine zj_iload_n dL_law_670 rfl ?_
                                      refine zj_iconst dL_law_671 zic_2 ?_
                                      refine zj_iadd dL_law_672 ?_
                                      refine zj_sld hr dL_law_673 ?_
                                      refine zj_cVL2 ml_L_86 (fun a h => c_X8_line rfl h) rfl rfl (Nat.le_of_ble_eq_true rfl) (Nat.le_of_ble_eq_true rfl) dL_law_674 (fun r49 s48 => ?_)
                                      refine zj_aload_n dL_law_677 rfl ?_
                                      refine zj_aload_n dL_law_678 rfl ?_
                                      refine zj_iload_n dL_law_679 rfl ?_
                                      refine zj_iconst dL_law_680 zic_1 ?_
                                      refine zj_iadd dL_law_681 ?_
                                      refine zj_sld hr dL_law_682 ?_
                                      refine zj_aload_n dL_law_683 rfl ?_
                                      refine zj_iload_n dL_law_684 rfl ?_
                                      refine zj_iconst dL_law_685 zic_2 ?_
                                      refine zj_iadd dL_law_686 ?_
                                      refine zj_sld hr dL_law_687 ?_
                                      refine zj_cVL2 ml_L_90 (fun a h => c_X9_line rfl h) rfl rfl (Nat.le_of_ble_eq_true rfl) (Nat.le_of_ble_eq_true rfl) dL_law_688 (fun r51 s50 => ?_)
                                      refine zj_lcmp_eq (tgt := 822) dL_law_691 dL_law_692 (by decide) ?_ ?_
                                      · exact j_L_law_822 hr h_rec18
                                      · refine zj_iconst dL_law_695 zic_0 ?_
                                        exact zj_law0 hr dL_law_696
                                    · refine zj_split (fun hs18 => ?_) (fun hs18 => ?_)
                                      · refine zj_tsE (u := 17) (tgt := 697) hs18 dL_law_33 (by decide) (by decide) rfl (by decide) ?_
                                        refine zj_aload_n dL_law_697 rfl ?_
                                        refine zj_cVL0 ml_L_91 (fun a h => c_X8_right rfl h) rfl rfl (Nat.le_of_ble_eq_true rfl) (Nat.le_of_ble_eq_true rfl) dL_law_698 (fun r45 s44 => ?_)
                                        refine zj_aload_n dL_law_701 rfl ?_
                                        refine zj_cVL0 ml_L_95 (fun a h => c_X9_right rfl h) rfl rfl (Nat.le_of_ble_eq_true rfl) (Nat.le_of_ble_eq_true rfl) dL_law_702 (fun r47 s46 => ?_)
                                        refine zj_lcmp_eq (tgt := 822) dL_law_705 dL_law_706 (by decide) ?_ ?_
                                        · exact j_L_law_822 hr h_rec18
                                        · refine zj_iconst dL_law_709 zic_0 ?_
                                          exact zj_law0 hr dL_law_710
                                      · refine zj_split (fun hs19 => ?_) (fun hs19 => ?_)
                                        · refine zj_tsE (u := 18) (tgt := 711) hs19 dL_law_33 (by decide) (by decide) rfl (by decide) ?_
                                          refine zj_aload_n dL_law_711 rfl ?_
                                          refine zj_aload_n dL_law_712 rfl ?_
                                          refine zj_iload_n dL_law_713 rfl ?_
                                          refine zj_iconst dL_law_714 zic_1 ?_
                                          refine zj_iadd dL_law_715 ?_
                                          refine zj_sld hr dL_law_716 ?_
                                          refine zj_aload_n dL_law_717 rfl ?_
                                          refine zj_iload_n dL_law_718 rfl ?_
                                          refine zj_iconst dL_law_719 zic_2 ?_
                                          refine zj_iadd dL_law_720 ?_
                                          refine zj_sld hr dL_law_721 ?_
                                          refine zj_if_eq (tgt := 729) dL_law_722 (by decide) ?_ ?_
                                          · refine zj_iconst dL_law_729 zic_0 ?_
                                            exact j_L_law_730 hr h_rec18 rfl
                                          · refine zj_iconst dL_law_725 zic_1 ?_
                                            refine zj_goto (tgt := 730) dL_law_726 (by decide) ?_
                                            exact j_L_law_730 hr h_rec18 rfl
                                        · refine zj_split (fun hs20 => ?_) (fun hs20 => ?_)
                                          · refine zj_tsE (u := 19) (tgt := 760) hs20 dL_law_33 (by decide) (by decide) rfl (by decide) ?_
                                            refine zj_aload_n dL_law_760 rfl ?_
                                            refine zj_cVI0 ml_L_101 (fun a h => c_X8_maybe rfl h) rfl rfl (Nat.le_of_ble_eq_true rfl) (Nat.le_of_ble_eq_true rfl) dL_law_761 (fun r37 s36 => ?_)
                                            refine zj_aload_n dL_law_764 rfl ?_
                                            refine zj_cVI0 ml_L_104 (fun a h => c_X9_maybe rfl h) rfl rfl (Nat.le_of_ble_eq_true rfl) (Nat.le_of_ble_eq_true rfl) dL_law_765 (fun r39 s38 => ?_)
                                            refine zj_icmp_eq (tgt := 822) dL_law_768 (by decide) ?_ ?_
                                            · exact j_L_law_822 hr h_rec18
                                            · refine zj_iconst dL_law_771 zic_0 ?_
                                              exact zj_law0 hr dL_law_772
                                          · refine zj_split (fun hs21 => ?_) (fun hs21 => ?_)
                                            · refine zj_tsE (u := 20) (tgt := 773) hs21 dL_law_33 (by decide) (by decide) rfl (by decide) ?_
                                              refine zj_aload_n dL_law_773 rfl ?_
                                              refine zj_cVI0 ml_L_105 (fun a h => c_X8_next rfl h) rfl rfl (Nat.le_of_ble_eq_true rfl) (Nat.le_of_ble_eq_true rfl) dL_law_774 (fun r33 s32 => ?_)
                                              refine zj_aload_n dL_law_777 rfl ?_
                                              refine zj_cVI0 ml_L_108 (fun a h => c_X9_next rfl h) rfl rfl (Nat.le_of_ble_eq_true rfl) (Nat.le_of_ble_eq_true rfl) dL_law_778 (fun r35 s34 => ?_)
                                              refine zj_icmp_eq (tgt := 822) dL_law_781 (by decide) ?_ ?_
                                              · exact j_L_law_822 hr h_rec18
                                              · refine zj_iconst dL_law_784 zic_0 ?_
                                                exact zj_law0 hr dL_law_785
                                            · refine zj_split (fun hs22 => ?_) (fun hs22 => ?_)
                                              · refine zj_tsE (u := 21) (tgt := 786) hs22 dL_law_33 (by decide) (by decide) rfl (by decide) ?_
                                                refine zj_aload_n dL_law_786 rfl ?_
                                                refine zj_cVI0 ml_L_109 (fun a h => c_X8_fewest rfl h) rfl rfl (Nat.le_of_ble_eq_true rfl) (Nat.le_of_ble_eq_true rfl) dL_law_787 (fun r29 s28 => ?_)
                                                refine zj_aload_n dL_law_790 rfl ?_
                                                refine zj_cVI0 ml_L_112 (fun a h => c_X9_fewest rfl h) rfl rfl (Nat.le_of_ble_eq_true rfl) (Nat.le_of_ble_eq_true rfl) dL_law_791 (fun r31 s30 => ?_)
                                                refine zj_icmp_eq (tgt := 822) dL_law_794 (by decide) ?_ ?_
                                                · exact j_L_law_822 hr h_rec18
                                                · refine zj_iconst dL_law_797 zic_0 ?_
                                                  exact zj_law0 hr dL_law_798
                                              · refine zj_split (fun hs23 => ?_) (fun hs23 => ?_)
                                                · refine zj_tsE (u := 22) (tgt := 799) hs23 dL_law_33 (by decide) (by decide) rfl (by decide) ?_
                                                  refine zj_aload_n dL_law_799 rfl ?_
                                                  refine zj_aload_n dL_law_800 rfl ?_
                                                  refine zj_iload_n dL_law_801 rfl ?_
                                                  refine zj_iconst dL_law_802 zic_1 ?_
                                                  refine zj_iadd dL_law_803 ?_
                                                  refine zj_sld hr dL_law_804 ?_
                                                  refine zj_cVI1 ml_L_113 (fun a h => c_X8_about rfl h) rfl rfl (Nat.le_of_ble_eq_true rfl) (Nat.le_of_ble_eq_true rfl) dL_law_805 (fun r25 s24 => ?_)
                                                  refine zj_aload_n dL_law_808 rfl ?_
                                                  refine zj_aload_n dL_law_809 rfl ?_
                                                  refine zj_iload_n dL_law_810 rfl ?_
                                                  refine zj_iconst dL_law_811 zic_1 ?_
                                                  refine zj_iadd dL_law_812 ?_
                                                  refine zj_sld hr dL_law_813 ?_
                                                  refine zj_cVI1 ml_L_116 (fun a h => c_X9_about rfl h) rfl rfl (Nat.le_of_ble_eq_true rfl) (Nat.le_of_ble_eq_true rfl) dL_law_814 (fun r27 s26 => ?_)
                                                  refine zj_icmp_eq (tgt := 822) dL_law_817 (by decide) ?_ ?_
                                                  · exact j_L_law_822 hr h_rec18
                                                  · refine zj_iconst dL_law_820 zic_0 ?_
                                                    exact zj_law0 hr dL_law_821
                                                · refine zj_tsDef (vs := [0, 1, 2, 3, 4, 5, 6, 7, 8, 9, 10, 11, 12, 13, 14, 15, 16, 17, 18, 19, 20, 21, 22]) (tgt := 822) dL_law_33 (by decide) (by decide +kernel) (by decide) (by
                                                    intro u hu
                                                    simp only [List.mem_cons, List.not_mem_nil, or_false] at hu
                                                    rcases hu with rfl | rfl | rfl | rfl | rfl | rfl | rfl | rfl | rfl | rfl | rfl | rfl | rfl | rfl | rfl | rfl | rfl | rfl | rfl | rfl | rfl | rfl | rfl
                                                    · exact hs1
                                                    · exact hs2
                                                    · exact hs3
                                                    · exact hs4
                                                    · exact hs5
                                                    · exact hs6
                                                    · exact hs7
                                                    · exact hs8
                                                    · exact hs9
                                                    · exact hs10
                                                    · exact hs11
                                                    · exact hs12
                                                    · exact hs13
                                                    · exact hs14
                                                    · exact hs15
                                                    · exact hs16
                                                    · exact hs17
                                                    · exact hs18
                                                    · exact hs19
                                                    · exact hs20
                                                    · exact hs21
                                                    · exact hs22
                                                    · exact hs23
                                                    ) ?_
                                                  exact j_L_law_822 hr h_rec18
set_option maxRecDepth 100000 in
theorem jl_L_law_18 {L : Nat} {xv : Nat → Int32} {w : zWC} {x : zCX} {b : Nat} (hr : zLw w x b L xv) : ∀ (n : Nat) (l3 : Int32) (s : zSt), zJ (zQl x b) w x RL cL_law 4 1000 (lp_L_law_18 L xv n l3 s) 18 [some (.ref b), some (.ref (zb w + 0)), some (.ref (zb w + 64)), some (.int l3)] [] s := by
  intro n
  induction n with
  | zero => intro l3 s; exact zj_none
  | succ n ih => intro l3 s; exact jb_L_law_18 hr (fun l3 s => ih l3 s)
