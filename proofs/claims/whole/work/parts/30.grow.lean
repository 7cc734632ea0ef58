def zby : Nat → Int32 := fun j => [98, 97, 108, 108, 32, 110, 101, 97, 114, 32, 102, 97, 114, 32, 114, 111, 100, 32, 119, 105, 114, 101, 32, 100, 97, 109, 112, 32, 114, 101, 97, 100, 115, 32, 122, 101, 114, 111, 32, 99, 114, 101, 101, 112, 32, 119, 97, 114, 109, 32, 105, 114, 111, 110, 32, 99, 97, 117, 115, 101, 32, 116, 114, 105, 97, 108, 32, 115, 104, 111, 119, 115, 32, 104, 111, 117, 115, 101, 32, 115, 97, 121, 115, 32, 115, 112, 97, 110, 32, 99, 101, 108, 108, 97, 114, 32, 105, 115, 32, 112, 114, 105, 110, 116, 115, 32].getD j 0
def zTx : String := "ball near far rod wire damp reads zero creep warm iron cause trial shows house says span cellar is prints "
/-- what a state is asked for while the world grows: the words' text, two statics of the JDK, the array that is cloned; t: the text's object and its bytes -/
def zCU (w : zWC) (U : State) (H : Heap) : Prop := U.vm.findClass "[I" = some (zkI w) ∧ va_Nw (.castable "[I" "java/lang/Cloneable") U ∧ ∃ cell : Cell, H[ztU w]? = some cell ∧ cell.cls = zkI w ∧ cell.vm ≠ .unknown ∧ (∀ k, cell.vm ≠ .statics k) ∧ cell.slots.size = 11 ∧ (∀ j : Nat, j < 11 → cell.slots[j]? = some (.int (ztabU j))) ∧ ¬ zA w (ztU w)
def zT3 (w : zWC) (t : Nat × Nat) (U : State) (H : Heap) : Prop := vk_R "LeadBalls$Reader" 26 zTx t.1 U ∧ va_O "java/lang/String" t.1 (zA w) U H ∧ va_OF "java/lang/String" "coder" "B" (.int 0) t.1 (zA w) U H ∧ va_OF "java/lang/String" "value" "[B" (.ref t.2) t.1 (zA w) U H ∧ va_T .byte t.2 106 (fun j => .int (zby j)) (zA w) U H ∧ va_Z "java/lang/String" "COMPACT_STRINGS" "Z" (.int 1) (zA w) U H ∧ va_Zq "jdk/internal/util/Preconditions" "SIOOBE_FORMATTER" "Ljava/util/function/BiFunction;" (zA w) U H ∧ zCU w U H
theorem zCU.moved {w : zWC} {u U : State} {H : Heap} (hvm : u.vm.Alike U.vm) (h : zCU w u H) : zCU w U H := ⟨by rw [hvm.findClass]; exact h.1, va_tabs rfl (rfl : (u.setVm U.vm).vm = U.vm) (by rw [Cond.castable_setVm hvm]; exact h.2.1), h.2.2⟩
theorem zCU.kept {w : zWC} {U : State} {H H1 : Heap} (h : zCU w U H) (hq : ∀ a : Nat, a < H.size → ¬ zA w a → H1[a]? = H[a]?) : zCU w U H1 := by
  obtain ⟨h0, h00, cell, h1, h2, h3, h4, h5, h6, h7⟩ := h
  exact ⟨h0, h00, cell, by rw [hq _ (Array.getElem?_eq_some_iff.mp h1).1 h7]; exact h1, h2, h3, h4, h5, h6, h7⟩
theorem zT3.warm {w : zWC} {t : Nat × Nat} {s U : State} {H : Heap} (hW : s.WarmedH U.vm) (h : zT3 w t s H) : zT3 w t U H := ⟨h.1.warm hW, va_O.moved hW.alike h.2.1, va_OF.moved hW.alike h.2.2.1, va_OF.moved hW.alike h.2.2.2.1, va_T.moved hW.alike h.2.2.2.2.1, va_Z.moved hW.alike h.2.2.2.2.2.1, va_Zq.moved hW.alike h.2.2.2.2.2.2.1, zCU.moved hW.alike h.2.2.2.2.2.2.2⟩
theorem zT3.same {w : zWC} {t : Nat × Nat} {s U : State} {H : Heap} (hv : U.vm = s.vm) (h : zT3 w t s H) : zT3 w t U H := by
  have ha : s.vm.Alike U.vm := by rw [hv]; exact Vm.Alike.refl _
  exact ⟨h.1.same hv, va_O.moved ha h.2.1, va_OF.moved ha h.2.2.1, va_OF.moved ha h.2.2.2.1, va_T.moved ha h.2.2.2.2.1, va_Z.moved ha h.2.2.2.2.2.1, va_Zq.moved ha h.2.2.2.2.2.2.1, zCU.moved ha h.2.2.2.2.2.2.2⟩
theorem zT3.kept {w : zWC} {t : Nat × Nat} {U : State} {H H1 : Heap} (h : zT3 w t U H) (hq : ∀ a : Nat, a < H.size → ¬ zA w a → H1[a]? = H[a]?) : zT3 w t U H1 := ⟨h.1, h.2.1.kept hq, h.2.2.1.kept hq, h.2.2.2.1.kept hq, h.2.2.2.2.1.kept hq, h.2.2.2.2.2.1.kept hq, h.2.2.2.2.2.2.1.kept hq, h.2.2.2.2.2.2.2.kept hq⟩
/-! the growing world: n cells, S says which reference fields are set -/
def zVn (w : zWC) (S : Nat → Nat → Bool) (σ : zSt) (o ci k : Nat) : Value := match zF ci k with
  | 0 => .int (zI σ o k)
  | 1 => .long (zL σ o k)
  | 2 => if S o k = true then .ref (zb w + zT o k) else .null
  | _ => if S o k = true then .ref (zb w + zR σ o k) else .null
def zEn (w : zWC) (S : Nat → Nat → Bool) (σ : zSt) (o : Nat) : va_E := match zC o with
  | 10 => .inl (zkB w, zN o, .inl (zI σ o))
  | 11 => .inl (zkI w, zN o, .inl (zI σ o))
  | 12 => .inl (zkJ w, zN o, .inr (.inl (zL σ o)))
  | 13 => .inl (zkZ w, zN o, .inl (zI σ o))
  | ci => .inr (ci, (List.range (zN o)).map (zVn w S σ o ci))
def zWn (w : zWC) (n : Nat) (S : Nat → Nat → Bool) (σ : zSt) : va_W := (List.range n).map (fun o => (zb w + o, zEn w S σ o))
def zZ (n : Nat) (S : Nat → Nat → Bool) (σ : zSt) : Prop := ∀ o : Nat, n ≤ o → ∀ k : Nat, zI σ o k = 0 ∧ zL σ o k = 0 ∧ S o k = false
def zHp (w : zWC) (n : Nat) (S : Nat → Nat → Bool) (σ : zSt) (H : Heap) : Prop := H.size = zb w + n ∧ va_P (zD w) vwCl (zWn w n S σ) H ∧ zZ n S σ
def zsS (S : Nat → Nat → Bool) (o k : Nat) : Nat → Nat → Bool := fun o' k' => (decide (o' = o) && decide (k' = k)) || S o' k'
theorem zWn_at (w : zWC) {n : Nat} (S : Nat → Nat → Bool) (σ : zSt) {o : Nat} (h : o < n) : (zWn w n S σ)[o]? = some (zb w + o, zEn w S σ o) := by
  unfold zWn
  rw [List.getElem?_map, List.getElem?_range h]
  rfl
theorem zWn_inv (w : zWC) {n : Nat} (S : Nat → Nat → Bool) (σ : zSt) {k : Nat} {q : Nat × va_E} (h : (zWn w n S σ)[k]? = some q) : k < n ∧ q = (zb w + k, zEn w S σ k) := by
  rcases Nat.lt_or_ge k n with hk | hk
  · rw [zWn_at w S σ hk] at h
    exact ⟨hk, (Option.some.inj h).symm⟩
  · unfold zWn at h
    rw [List.getElem?_eq_none (by simpa using hk)] at h
    cases h
theorem zWn_D (w : zWC) (n : Nat) (S : Nat → Nat → Bool) (σ : zSt) : va_D (zA w) (zWn w n S σ) := by
  refine ⟨fun i j p q hi hj hpq => ?_, fun k q hk => ?_⟩
  · obtain ⟨-, rfl⟩ := zWn_inv w S σ hi
    obtain ⟨-, rfl⟩ := zWn_inv w S σ hj
    have : zb w + i = zb w + j := hpq
    omega
  · obtain ⟨-, rfl⟩ := zWn_inv w S σ hk
    show zb w ≤ zb w + k
    omega
theorem zWn_set (w : zWC) {n : Nat} {S S' : Nat → Nat → Bool} {σ σ' : zSt} {o : Nat} {e : va_E} (h : o < n) (he : zEn w S' σ' o = e) (ho : ∀ j, j ≠ o → zEn w S' σ' j = zEn w S σ j) : (zWn w n S σ).set o (zb w + o, e) = zWn w n S' σ' := by
  refine List.ext_getElem? fun k => ?_
  by_cases hk : k = o
  · subst hk
    rw [List.getElem?_set_self (by unfold zWn; simpa using h), zWn_at w S' σ' h, he]
  · rw [List.getElem?_set_ne (Ne.symm hk)]
    rcases Nat.lt_or_ge k n with h1 | h1
    · rw [zWn_at w S σ h1, zWn_at w S' σ' h1, ho k hk]
    · rw [List.getElem?_eq_none (by unfold zWn; simpa using h1), List.getElem?_eq_none (by unfold zWn; simpa using h1)]
theorem zWn_succ (w : zWC) (n : Nat) (S : Nat → Nat → Bool) (σ : zSt) : zWn w (n + 1) S σ = zWn w n S σ ++ [(zb w + n, zEn w S σ n)] := by
  unfold zWn
  rw [List.range_succ, List.map_append]
  rfl
theorem zEn_O {w : zWC} {S : Nat → Nat → Bool} {σ : zSt} {o ci : Nat} (h : zC o = ci) (hc : ci < 10) : zEn w S σ o = .inr (ci, (List.range (zN o)).map (zVn w S σ o ci)) := by
  unfold zEn
  rw [h]
  match ci, hc with
  | 0, _ => rfl
  | 1, _ => rfl
  | 2, _ => rfl
  | 3, _ => rfl
  | 4, _ => rfl
  | 5, _ => rfl
  | 6, _ => rfl
  | 7, _ => rfl
  | 8, _ => rfl
  | 9, _ => rfl
theorem zEn_J {w : zWC} {S : Nat → Nat → Bool} {σ : zSt} {o : Nat} (h : zC o = 12) : zEn w S σ o = .inl (zkJ w, zN o, .inr (.inl (zL σ o))) := by simp only [zEn, h]
theorem zEn_I {w : zWC} {S : Nat → Nat → Bool} {σ : zSt} {o : Nat} (h : zC o = 11) : zEn w S σ o = .inl (zkI w, zN o, .inl (zI σ o)) := by simp only [zEn, h]
theorem zEn_B {w : zWC} {S : Nat → Nat → Bool} {σ : zSt} {o : Nat} (h : zC o = 10) : zEn w S σ o = .inl (zkB w, zN o, .inl (zI σ o)) := by simp only [zEn, h]
theorem zEn_Z {w : zWC} {S : Nat → Nat → Bool} {σ : zSt} {o : Nat} (h : zC o = 13) : zEn w S σ o = .inl (zkZ w, zN o, .inl (zI σ o)) := by simp only [zEn, h]
/-- cells beside the one that is written -/
theorem zEn_ne {w : zWC} {S S' : Nat → Nat → Bool} {σ σ' : zSt} {j : Nat} (h1 : zI σ' j = zI σ j) (h2 : zL σ' j = zL σ j) (h3 : zR σ' j = zR σ j) (h4 : S' j = S j) : zEn w S' σ' j = zEn w S σ j := by
  have h5 : ∀ ci, zVn w S' σ' j ci = zVn w S σ j ci := by
    intro ci; funext q
    unfold zVn
    rw [h1, h2, h3, h4]
  unfold zEn
  rw [h1, h2]
  split <;> first | rfl | rw [h5]
/-- the whole world, once every reference field is set -/
theorem zWn_full {w : zWC} {S : Nat → Nat → Bool} {σ : zSt} (h : (List.range 108).all (fun o => (List.range 72).all (fun k => (zF (zC o) k != 2 && zF (zC o) k != 3) || S o k)) = true) : zWn w 108 S σ = zW w σ := by
  unfold zWn zW
  refine List.map_congr_left fun o ho => ?_
  have ho' := List.mem_range.mp ho
  have h1 := List.all_eq_true.mp h o ho
  suffices hh : zEn w S σ o = zE w σ o by rw [hh]
  by_cases hc : zC o < 10
  · rw [zEn_O rfl hc, zE_O rfl hc]
    congr 2
    refine List.map_congr_left fun k hk => ?_
    have hk' := List.mem_range.mp hk
    have hN : zN o ≤ 72 := by
      have := List.all_eq_true.mp (show (List.range 108).all (fun o => decide (zC o < 10 → zN o ≤ 72)) = true by decide +kernel) o ho
      exact (of_decide_eq_true this) hc
    have h2 := List.all_eq_true.mp h1 k (List.mem_range.mpr (by omega))
    have h9 : zF (zC o) k ≠ 9 := by
      have := List.all_eq_true.mp (show (List.range 108).all (fun o => decide (zC o < 10 → (List.range (zN o)).all (fun k => zF (zC o) k != 9) = true)) = true by decide +kernel) o ho
      have h9 := List.all_eq_true.mp ((of_decide_eq_true this) hc) k (List.mem_range.mpr hk')
      simpa using h9
    have hf := List.all_eq_true.mp (List.all_eq_true.mp (show (List.range 10).all (fun c => (List.range 73).all (fun k => zF c k == 0 || zF c k == 1 || zF c k == 2 || zF c k == 3 || zF c k == 9)) = true by decide +kernel) (zC o) (List.mem_range.mpr hc)) k (List.mem_range.mpr (by omega))
    simp only [Bool.or_eq_true, beq_iff_eq] at hf
    rcases hf with (((hf | hf) | hf) | hf) | hf
    · simp only [zVn, zV, hf]
    · simp only [zVn, zV, hf]
    · rw [hf] at h2; simp at h2; simp only [zVn, zV, hf, h2, if_true]
    · rw [hf] at h2; simp at h2; simp only [zVn, zV, hf, h2, if_true]
    · exact absurd hf h9
  · unfold zEn zE
    generalize hz : zC o = c at hc
    match c, hc with
    | 10, _ => rfl
    | 11, _ => rfl
    | 12, _ => rfl
    | 13, _ => rfl
    | c + 14, _ =>
      exfalso
      have := List.all_eq_true.mp (show (List.range 108).all (fun o => decide (zC o < 14)) = true by decide +kernel) o ho
      have := of_decide_eq_true this
      omega
def zOH (w : zWC) (t : Nat × Nat) (x : zCX) (own : String) (cc : ByteArray) (nL lev : Nat) : Prop :=
  (xp x).tables.exec = Jvm.exec ∧ (xc x).code = cc ∧ (xc x).maxLocals = nL ∧ (xs x).vm.findClass own = some (xm x).cls ∧ (∀ q ∈ ztb, q.before (xa x) (xs x) = true) ∧ zK w (xs x) ∧ zS3 w (xs x) (xs x).heap ∧ (lev ≤ (xR x).frames ∧ 64 * lev ≤ (xR x).locals) ∧ zT3 w t (xs x) (xs x).heap ∧ (xme x).locks = false
def zG (Q : State → Prop) (w : zWC) (t : Nat × Nat) (x : zCX) (own : String) (cc : ByteArray) (nL lev : Nat) (Wp : Heap → Prop) (ce sl pc : Nat) (lv : List (Option Value)) (st : List Value) : Prop :=
  zOH w t x own cc nL lev → ∀ (ls : Array Slot) (H : Heap) (locs : List Loc), zlv ls nL lv → Wp H → va_S (zA w) (xs x).heap H locs → W (xp x) (zl w) (xe x) (xR x) (xs x) (xm x) (xa x) (xb x) (xme x) (xc x) H locs ce sl Q (F0 (xm x) pc ls st)
section ZG
variable {Q : State → Prop} {w : zWC} {t : Nat × Nat} {x : zCX} {own : String} {cc : ByteArray} {nL lev : Nat} {Wp : Heap → Prop} {ce sl pc : Nat} {lv : List (Option Value)} {st : List Value}
theorem zg_iconst {n : Int} {v : Int32} (d : decode cc pc = .ok (.iconst n, 1)) (hv : Int32.ofInt n = v) (kk : zG Q w t x own cc nL lev Wp ce sl (pc + 1) lv (.int v :: st)) : zG Q w t x own cc nL lev Wp ce sl pc lv (st) := by
  intro ok ls H locs hl hP hS
  exact lv_iconst ok.1 ok.2.1 d hv (kk ok ls H locs hl hP hS)
theorem zg_bipush {n : Int} {v : Int32} (d : decode cc pc = .ok (.bipush n, 2)) (hv : (Int8.ofInt n).toInt32 = v) (kk : zG Q w t x own cc nL lev Wp ce sl (pc + 2) lv (.int v :: st)) : zG Q w t x own cc nL lev Wp ce sl pc lv (st) := by
  intro ok ls H locs hl hP hS
  exact lv_bipush ok.1 ok.2.1 d hv (kk ok ls H locs hl hP hS)
theorem zg_sipush {n : Int} {v : Int32} (d : decode cc pc = .ok (.sipush n, 3)) (hv : (Int16.ofInt n).toInt32 = v) (kk : zG Q w t x own cc nL lev Wp ce sl (pc + 3) lv (.int v :: st)) : zG Q w t x own cc nL lev Wp ce sl pc lv (st) := by
  intro ok ls H locs hl hP hS
  exact lv_sipush ok.1 ok.2.1 d hv (kk ok ls H locs hl hP hS)
theorem zg_lconst {n : Fin 2} {v : Int64} (d : decode cc pc = .ok (.lconst n, 1)) (hv : Int64.ofNat (n : Nat) = v) (kk : zG Q w t x own cc nL lev Wp ce sl (pc + 1) lv (.long v :: st)) : zG Q w t x own cc nL lev Wp ce sl pc lv (st) := by
  intro ok ls H locs hl hP hS
  exact lv_lconst ok.1 ok.2.1 d hv (kk ok ls H locs hl hP hS)
theorem zg_ldc2 {n : Nat} {v : Int64} (d : decode cc pc = .ok (.ldc2_w n, 3)) (hc : Cond.constantLong own n v ∈ ztb) (kk : zG Q w t x own cc nL lev Wp ce sl (pc + 3) lv (.long v :: st)) : zG Q w t x own cc nL lev Wp ce sl pc lv (st) := by
  intro ok ls H locs hl hP hS
  exact lv_ldc2 ok.1 ok.2.1 ok.2.2.2.1 (ok.2.2.2.2.1 _ hc) d (kk ok ls H locs hl hP hS)
theorem zg_iload_n {k : Fin 4} {v : Int32} (d : decode cc pc = .ok (.iload_n k, 1)) (hv : lv[(k : Nat)]? = some (some (.int v))) (kk : zG Q w t x own cc nL lev Wp ce sl (pc + 1) lv (.int v :: st)) : zG Q w t x own cc nL lev Wp ce sl pc lv (st) := by
  intro ok ls H locs hl hP hS
  exact lv_iload_n ok.1 ok.2.1 d rfl (hl.2.2 _ _ hv) (kk ok ls H locs hl hP hS)
theorem zg_iload {k : Nat} {v : Int32} (d : decode cc pc = .ok (.iload k, 2)) (hv : lv[k]? = some (some (.int v))) (kk : zG Q w t x own cc nL lev Wp ce sl (pc + 2) lv (.int v :: st)) : zG Q w t x own cc nL lev Wp ce sl pc lv (st) := by
  intro ok ls H locs hl hP hS
  exact lv_iload ok.1 ok.2.1 d (hl.2.2 _ _ hv) (kk ok ls H locs hl hP hS)
theorem zg_lload_n {k : Fin 4} {v : Int64} (d : decode cc pc = .ok (.lload_n k, 1)) (hv : lv[(k : Nat)]? = some (some (.long v))) (kk : zG Q w t x own cc nL lev Wp ce sl (pc + 1) lv (.long v :: st)) : zG Q w t x own cc nL lev Wp ce sl pc lv (st) := by
  intro ok ls H locs hl hP hS
  exact lv_lload_n ok.1 ok.2.1 d rfl (hl.2.2 _ _ hv) (kk ok ls H locs hl hP hS)
theorem zg_lload {k : Nat} {v : Int64} (d : decode cc pc = .ok (.lload k, 2)) (hv : lv[k]? = some (some (.long v))) (kk : zG Q w t x own cc nL lev Wp ce sl (pc + 2) lv (.long v :: st)) : zG Q w t x own cc nL lev Wp ce sl pc lv (st) := by
  intro ok ls H locs hl hP hS
  exact lv_lload ok.1 ok.2.1 d (hl.2.2 _ _ hv) (kk ok ls H locs hl hP hS)
theorem zg_aload_n {k : Fin 4} {v : Nat} (d : decode cc pc = .ok (.aload_n k, 1)) (hv : lv[(k : Nat)]? = some (some (.ref v))) (kk : zG Q w t x own cc nL lev Wp ce sl (pc + 1) lv (.ref v :: st)) : zG Q w t x own cc nL lev Wp ce sl pc lv (st) := by
  intro ok ls H locs hl hP hS
  exact lv_aload_n ok.1 ok.2.1 d rfl (hl.2.2 _ _ hv) (kk ok ls H locs hl hP hS)
theorem zg_aload {k : Nat} {v : Nat} (d : decode cc pc = .ok (.aload k, 2)) (hv : lv[k]? = some (some (.ref v))) (kk : zG Q w t x own cc nL lev Wp ce sl (pc + 2) lv (.ref v :: st)) : zG Q w t x own cc nL lev Wp ce sl pc lv (st) := by
  intro ok ls H locs hl hP hS
  exact lv_aload ok.1 ok.2.1 d (hl.2.2 _ _ hv) (kk ok ls H locs hl hP hS)
theorem zg_istore_n {k : Fin 4} {i : Nat} {v : Int32} {lv' : List (Option Value)} (d : decode cc pc = .ok (.istore_n k, 1)) (hi : (k : Nat) = i) (hn : i < nL) (hp : zpv lv i = true) (hs : (lv.set i (some (.int v))) = lv') (kk : zG Q w t x own cc nL lev Wp ce sl (pc + 1) lv' (st)) : zG Q w t x own cc nL lev Wp ce sl pc lv (.int v :: st) := by
  intro ok ls H locs hl hP hS
  subst hs
  obtain ⟨l, h1, h2⟩ := zlv_store1 (v := .int v) hl hn rfl hp
  exact lv_istore_n ok.1 ok.2.1 d hi h1 hn rfl (fun ls' h' => kk ok ls' H locs (h2 ls' h') hP hS)
theorem zg_istore {i : Nat} {v : Int32} {lv' : List (Option Value)} (d : decode cc pc = .ok (.istore i, 2))  (hn : i < nL) (hp : zpv lv i = true) (hs : (lv.set i (some (.int v))) = lv') (kk : zG Q w t x own cc nL lev Wp ce sl (pc + 2) lv' (st)) : zG Q w t x own cc nL lev Wp ce sl pc lv (.int v :: st) := by
  intro ok ls H locs hl hP hS
  subst hs
  obtain ⟨l, h1, h2⟩ := zlv_store1 (v := .int v) hl hn rfl hp
  exact lv_istore ok.1 ok.2.1 d  h1 hn rfl (fun ls' h' => kk ok ls' H locs (h2 ls' h') hP hS)
theorem zg_lstore_n {k : Fin 4} {i : Nat} {v : Int64} {lv' : List (Option Value)} (d : decode cc pc = .ok (.lstore_n k, 1)) (hi : (k : Nat) = i) (hn : i + 1 < nL) (hp : zpv lv i = true) (hs : ((lv.set i (some (.long v))).set (i + 1) none) = lv') (kk : zG Q w t x own cc nL lev Wp ce sl (pc + 1) lv' (st)) : zG Q w t x own cc nL lev Wp ce sl pc lv (.long v :: st) := by
  intro ok ls H locs hl hP hS
  subst hs
  obtain ⟨l, h1, h2⟩ := zlv_store2 (v := .long v) hl hn rfl hp
  exact lv_lstore_n ok.1 ok.2.1 d hi h1 hn rfl (fun ls' h' => kk ok ls' H locs (h2 ls' h') hP hS)
theorem zg_lstore {i : Nat} {v : Int64} {lv' : List (Option Value)} (d : decode cc pc = .ok (.lstore i, 2))  (hn : i + 1 < nL) (hp : zpv lv i = true) (hs : ((lv.set i (some (.long v))).set (i + 1) none) = lv') (kk : zG Q w t x own cc nL lev Wp ce sl (pc + 2) lv' (st)) : zG Q w t x own cc nL lev Wp ce sl pc lv (.long v :: st) := by
  intro ok ls H locs hl hP hS
  subst hs
  obtain ⟨l, h1, h2⟩ := zlv_store2 (v := .long v) hl hn rfl hp
  exact lv_lstore ok.1 ok.2.1 d  h1 hn rfl (fun ls' h' => kk ok ls' H locs (h2 ls' h') hP hS)
theorem zg_astore_n {k : Fin 4} {i : Nat} {v : Nat} {lv' : List (Option Value)} (d : decode cc pc = .ok (.astore_n k, 1)) (hi : (k : Nat) = i) (hn : i < nL) (hp : zpv lv i = true) (hs : (lv.set i (some (.ref v))) = lv') (kk : zG Q w t x own cc nL lev Wp ce sl (pc + 1) lv' (st)) : zG Q w t x own cc nL lev Wp ce sl pc lv (.ref v :: st) := by
  intro ok ls H locs hl hP hS
  subst hs
  obtain ⟨l, h1, h2⟩ := zlv_store1 (v := .ref v) hl hn rfl hp
  exact lv_astore_n ok.1 ok.2.1 d hi h1 hn rfl (fun ls' h' => kk ok ls' H locs (h2 ls' h') hP hS)
theorem zg_astore {i : Nat} {v : Nat} {lv' : List (Option Value)} (d : decode cc pc = .ok (.astore i, 2))  (hn : i < nL) (hp : zpv lv i = true) (hs : (lv.set i (some (.ref v))) = lv') (kk : zG Q w t x own cc nL lev Wp ce sl (pc + 2) lv' (st)) : zG Q w t x own cc nL lev Wp ce sl pc lv (.ref v :: st) := by
  intro ok ls H locs hl hP hS
  subst hs
  obtain ⟨l, h1, h2⟩ := zlv_store1 (v := .ref v) hl hn rfl hp
  exact lv_astore ok.1 ok.2.1 d  h1 hn rfl (fun ls' h' => kk ok ls' H locs (h2 ls' h') hP hS)
theorem zg_iadd {a1 a2 : Int32} (d : decode cc pc = .ok (.iadd, 1))  (kk : zG Q w t x own cc nL lev Wp ce sl (pc + 1) lv (.int (a1 + a2) :: st)) : zG Q w t x own cc nL lev Wp ce sl pc lv (.int a2 :: .int a1 :: st) := by
  intro ok ls H locs hl hP hS
  exact lv_iadd ok.1 ok.2.1 d (kk ok ls H locs hl hP hS)
theorem zg_isub {a1 a2 : Int32} (d : decode cc pc = .ok (.isub, 1))  (kk : zG Q w t x own cc nL lev Wp ce sl (pc + 1) lv (.int (a1 - a2) :: st)) : zG Q w t x own cc nL lev Wp ce sl pc lv (.int a2 :: .int a1 :: st) := by
  intro ok ls H locs hl hP hS
  exact lv_isub ok.1 ok.2.1 d (kk ok ls H locs hl hP hS)
theorem zg_iand {a1 a2 : Int32} (d : decode cc pc = .ok (.iand, 1))  (kk : zG Q w t x own cc nL lev Wp ce sl (pc + 1) lv (.int (a1 &&& a2) :: st)) : zG Q w t x own cc nL lev Wp ce sl pc lv (.int a2 :: .int a1 :: st) := by
  intro ok ls H locs hl hP hS
  exact lv_iand ok.1 ok.2.1 d (kk ok ls H locs hl hP hS)
theorem zg_ishr {a1 a2 : Int32} (d : decode cc pc = .ok (.ishr, 1))  (kk : zG Q w t x own cc nL lev Wp ce sl (pc + 1) lv (.int (a1 >>> (a2 &&& 31)) :: st)) : zG Q w t x own cc nL lev Wp ce sl pc lv (.int a2 :: .int a1 :: st) := by
  intro ok ls H locs hl hP hS
  exact lv_ishr ok.1 ok.2.1 d (kk ok ls H locs hl hP hS)
theorem zg_ladd {a1 a2 : Int64} (d : decode cc pc = .ok (.ladd, 1))  (kk : zG Q w t x own cc nL lev Wp ce sl (pc + 1) lv (.long (a1 + a2) :: st)) : zG Q w t x own cc nL lev Wp ce sl pc lv (.long a2 :: .long a1 :: st) := by
  intro ok ls H locs hl hP hS
  exact lv_ladd ok.1 ok.2.1 d (kk ok ls H locs hl hP hS)
theorem zg_lmul {a1 a2 : Int64} (d : decode cc pc = .ok (.lmul, 1))  (kk : zG Q w t x own cc nL lev Wp ce sl (pc + 1) lv (.long (a1 * a2) :: st)) : zG Q w t x own cc nL lev Wp ce sl pc lv (.long a2 :: .long a1 :: st) := by
  intro ok ls H locs hl hP hS
  exact lv_lmul ok.1 ok.2.1 d (kk ok ls H locs hl hP hS)
theorem zg_i2l {a1 : Int32} (d : decode cc pc = .ok (.i2l, 1))  (kk : zG Q w t x own cc nL lev Wp ce sl (pc + 1) lv (.long a1.toInt64 :: st)) : zG Q w t x own cc nL lev Wp ce sl pc lv (.int a1 :: st) := by
  intro ok ls H locs hl hP hS
  exact lv_i2l ok.1 ok.2.1 d rfl (kk ok ls H locs hl hP hS)
theorem zg_i2c {a1 : Int32} (d : decode cc pc = .ok (.i2c, 1))  (kk : zG Q w t x own cc nL lev Wp ce sl (pc + 1) lv (.int (a1.toUInt32 % 65536).toInt32 :: st)) : zG Q w t x own cc nL lev Wp ce sl pc lv (.int a1 :: st) := by
  intro ok ls H locs hl hP hS
  exact lv_i2c ok.1 ok.2.1 d rfl (kk ok ls H locs hl hP hS)
theorem zg_dup {v : Value} (d : decode cc pc = .ok (.dup, 1)) (hc : v.category = 1) (kk : zG Q w t x own cc nL lev Wp ce sl (pc + 1) lv (v :: v :: st)) : zG Q w t x own cc nL lev Wp ce sl pc lv (v :: st) := by
  intro ok ls H locs hl hP hS
  exact lv_dup ok.1 ok.2.1 d hc (kk ok ls H locs hl hP hS)
theorem zg_pop {v : Value} (d : decode cc pc = .ok (.pop, 1)) (hc : v.category = 1) (kk : zG Q w t x own cc nL lev Wp ce sl (pc + 1) lv (st)) : zG Q w t x own cc nL lev Wp ce sl pc lv (v :: st) := by
  intro ok ls H locs hl hP hS
  exact lv_pop ok.1 ok.2.1 d hc (kk ok ls H locs hl hP hS)
theorem zg_goto {off : Int} {tgt : Nat} (d : decode cc pc = .ok (.goto off, 3)) (ht : (pc : Int) + off = (tgt : Int)) (kk : zG Q w t x own cc nL lev Wp ce sl tgt lv (st)) : zG Q w t x own cc nL lev Wp ce sl pc lv (st) := by
  intro ok ls H locs hl hP hS
  exact lv_goto ok.1 ok.2.1 d ht (kk ok ls H locs hl hP hS)
theorem zg_weak {lv' : List (Option Value)} (ms : List Bool) (h : zmask lv ms = lv') (kk : zG Q w t x own cc nL lev Wp ce sl pc lv' (st)) : zG Q w t x own cc nL lev Wp ce sl pc lv (st) := by
  intro ok ls H locs hl hP hS
  subst h
  exact kk ok ls H locs ⟨hl.1, hl.2.1, fun i v hv => hl.2.2 i v (zmask_sub lv ms i v hv)⟩ hP hS
theorem zg_if_eq {a1 : Int32} {off : Int} {tgt : Nat} (d : decode cc pc = .ok (.ifCond .eq off, 3)) (ht : (pc : Int) + off = (tgt : Int)) (k1 : a1 = 0 → zG Q w t x own cc nL lev Wp ce sl tgt lv (st)) (k2 : ¬ (a1 = 0) → zG Q w t x own cc nL lev Wp ce sl (pc + 3) lv (st)) : zG Q w t x own cc nL lev Wp ce sl pc lv (.int a1 :: st) := by
  intro ok ls H locs hl hP hS
  exact lv_if_eq (tgt := tgt) ok.1 ok.2.1 d ht (fun h => k1 h ok ls H locs hl hP hS) (fun h => k2 h ok ls H locs hl hP hS)
theorem zg_if_ne {a1 : Int32} {off : Int} {tgt : Nat} (d : decode cc pc = .ok (.ifCond .ne off, 3)) (ht : (pc : Int) + off = (tgt : Int)) (k1 : ¬ a1 = 0 → zG Q w t x own cc nL lev Wp ce sl tgt lv (st)) (k2 : ¬ (¬ a1 = 0) → zG Q w t x own cc nL lev Wp ce sl (pc + 3) lv (st)) : zG Q w t x own cc nL lev Wp ce sl pc lv (.int a1 :: st) := by
  intro ok ls H locs hl hP hS
  exact lv_if_ne (tgt := tgt) ok.1 ok.2.1 d ht (fun h => k1 h ok ls H locs hl hP hS) (fun h => k2 (fun q => q h) ok ls H locs hl hP hS)
theorem zg_if_lt {a1 : Int32} {off : Int} {tgt : Nat} (d : decode cc pc = .ok (.ifCond .lt off, 3)) (ht : (pc : Int) + off = (tgt : Int)) (k1 : a1 < 0 → zG Q w t x own cc nL lev Wp ce sl tgt lv (st)) (k2 : ¬ (a1 < 0) → zG Q w t x own cc nL lev Wp ce sl (pc + 3) lv (st)) : zG Q w t x own cc nL lev Wp ce sl pc lv (.int a1 :: st) := by
  intro ok ls H locs hl hP hS
  exact lv_if_lt (tgt := tgt) ok.1 ok.2.1 d ht (fun h => k1 h ok ls H locs hl hP hS) (fun h => k2 h ok ls H locs hl hP hS)
theorem zg_if_ge {a1 : Int32} {off : Int} {tgt : Nat} (d : decode cc pc = .ok (.ifCond .ge off, 3)) (ht : (pc : Int) + off = (tgt : Int)) (k1 : 0 ≤ a1 → zG Q w t x own cc nL lev Wp ce sl tgt lv (st)) (k2 : ¬ (0 ≤ a1) → zG Q w t x own cc nL lev Wp ce sl (pc + 3) lv (st)) : zG Q w t x own cc nL lev Wp ce sl pc lv (.int a1 :: st) := by
  intro ok ls H locs hl hP hS
  exact lv_if_ge (tgt := tgt) ok.1 ok.2.1 d ht (fun h => k1 h ok ls H locs hl hP hS) (fun h => k2 h ok ls H locs hl hP hS)
theorem zg_icmp_eq {a1 a2 : Int32} {off : Int} {tgt : Nat} (d : decode cc pc = .ok (.if_icmp .eq off, 3)) (ht : (pc : Int) + off = (tgt : Int)) (k1 : a1 = a2 → zG Q w t x own cc nL lev Wp ce sl tgt lv (st)) (k2 : ¬ (a1 = a2) → zG Q w t x own cc nL lev Wp ce sl (pc + 3) lv (st)) : zG Q w t x own cc nL lev Wp ce sl pc lv (.int a2 :: .int a1 :: st) := by
  intro ok ls H locs hl hP hS
  exact lv_icmp_eq (tgt := tgt) ok.1 ok.2.1 d ht (fun h => k1 h ok ls H locs hl hP hS) (fun h => k2 h ok ls H locs hl hP hS)
theorem zg_icmp_ne {a1 a2 : Int32} {off : Int} {tgt : Nat} (d : decode cc pc = .ok (.if_icmp .ne off, 3)) (ht : (pc : Int) + off = (tgt : Int)) (k1 : ¬ a1 = a2 → zG Q w t x own cc nL lev Wp ce sl tgt lv (st)) (k2 : ¬ (¬ a1 = a2) → zG Q w t x own cc nL lev Wp ce sl (pc + 3) lv (st)) : zG Q w t x own cc nL lev Wp ce sl pc lv (.int a2 :: .int a1 :: st) := by
  intro ok ls H locs hl hP hS
  exact lv_icmp_ne (tgt := tgt) ok.1 ok.2.1 d ht (fun h => k1 h ok ls H locs hl hP hS) (fun h => k2 (fun q => q h) ok ls H locs hl hP hS)
theorem zg_icmp_lt {a1 a2 : Int32} {off : Int} {tgt : Nat} (d : decode cc pc = .ok (.if_icmp .lt off, 3)) (ht : (pc : Int) + off = (tgt : Int)) (k1 : a1 < a2 → zG Q w t x own cc nL lev Wp ce sl tgt lv (st)) (k2 : ¬ (a1 < a2) → zG Q w t x own cc nL lev Wp ce sl (pc + 3) lv (st)) : zG Q w t x own cc nL lev Wp ce sl pc lv (.int a2 :: .int a1 :: st) := by
  intro ok ls H locs hl hP hS
  exact lv_icmp_lt (tgt := tgt) ok.1 ok.2.1 d ht (fun h => k1 h ok ls H locs hl hP hS) (fun h => k2 h ok ls H locs hl hP hS)
theorem zg_icmp_ge {a1 a2 : Int32} {off : Int} {tgt : Nat} (d : decode cc pc = .ok (.if_icmp .ge off, 3)) (ht : (pc : Int) + off = (tgt : Int)) (k1 : a2 ≤ a1 → zG Q w t x own cc nL lev Wp ce sl tgt lv (st)) (k2 : ¬ (a2 ≤ a1) → zG Q w t x own cc nL lev Wp ce sl (pc + 3) lv (st)) : zG Q w t x own cc nL lev Wp ce sl pc lv (.int a2 :: .int a1 :: st) := by
  intro ok ls H locs hl hP hS
  exact lv_icmp_ge (tgt := tgt) ok.1 ok.2.1 d ht (fun h => k1 h ok ls H locs hl hP hS) (fun h => k2 h ok ls H locs hl hP hS)
theorem zg_iinc {i : Nat} {n : Int} {v v2 : Int32} {lv' : List (Option Value)} (d : decode cc pc = .ok (.iinc i n, 3)) (hv : lv[i]? = some (some (.int v))) (he : v + Int32.ofInt n = v2) (hn : i < nL) (hp : zpv lv i = true) (hs : (lv.set i (some (.int v2))) = lv') (kk : zG Q w t x own cc nL lev Wp ce sl (pc + 3) lv' (st)) : zG Q w t x own cc nL lev Wp ce sl pc lv (st) := by
  intro ok ls H locs hl hP hS
  subst hs
  have hz : (i, Value.int v) ∈ zprs lv := zprs_mem.mpr hv
  obtain ⟨k, hk⟩ := List.getElem?_of_mem hz
  refine lv_iinc (lv := zprs lv) (lv' := (i, Value.int v2) :: (zprs lv).filter (fun q => !(q.1 == i) && !(q.1 + 1 == i && q.2.category == 2))) ok.1 ok.2.1 d (zlv_has hl) hk he hn rfl (fun ls' h' => kk ok ls' H locs ?_ hP hS)
  obtain ⟨e1, e2, e3⟩ := h'
  refine ⟨e1, e2, fun j u hj => ?_⟩
  by_cases hji : j = i
  · subst hji
    rw [List.getElem?_set_self'] at hj
    rw [hv] at hj
    have : u = .int v2 := by simpa using hj.symm
    subst this
    exact e3 (j, .int v2) List.mem_cons_self
  · rw [List.getElem?_set_ne (Ne.symm hji)] at hj
    refine e3 (j, u) (List.mem_cons_of_mem _ (List.mem_filter.mpr ⟨zprs_mem.mpr hj, ?_⟩))
    have h2 : ¬ (j + 1 = i ∧ u.category = 2) := by
      rintro ⟨rfl, hu⟩
      simp only [zpv, hj] at hp
      simp [hu] at hp
    simp only [Bool.and_eq_true, Bool.not_eq_true', beq_eq_false_iff_ne, ne_eq]
    refine ⟨hji, ?_⟩
    by_cases q1 : j + 1 = i
    · by_cases q2 : u.category = 2
      · exact absurd ⟨q1, q2⟩ h2
      · simp [q2]
    · simp [q1]
theorem zg_objInit {idx o : Nat} (hlk : Cond.methodLink own idx objectInit ∈ ztb) (hi : Cond.instanceMethod objectInit ∈ ztb) (hc : Cond.code objectInit ⟨#[0xb1]⟩ 1 none ∈ ztb) (hlev : 1 ≤ lev) (hcat : (st.map fun v => v.category).sum ≤ 8) (d : decode cc pc = .ok (.invokespecial idx, 3)) (kk : zG Q w t x own cc nL lev Wp ce sl (pc + 3) lv st) : zG Q w t x own cc nL lev Wp ce sl pc lv (.ref o :: st) := by
  intro ok ls H locs hl hP hS
  refine W.objInit ok.1 ok.2.1 ok.2.2.2.1 (ok.2.2.2.2.1 _ hlk) (ok.2.2.2.2.1 _ hi) (ok.2.2.2.2.1 _ hc) rfl (by rw [ok.2.2.1]; exact hl.1) rfl d (by have := ok.2.2.2.2.2.2.2.1; omega) (by have := ok.2.2.2.2.2.2.2.1; show 2 * 0 + _ + 12 ≤ _; omega) ?_
  exact kk ok ls H locs hl hP hS
theorem zg_widen {ce' sl' : Nat} (h1 : ce ≤ ce') (h2 : sl ≤ sl') (kk : zG Q w t x own cc nL lev Wp ce' sl' pc lv st) : zG Q w t x own cc nL lev Wp ce sl pc lv st := fun ok ls H locs hl hP hS => W.widen h1 h2 (kk ok ls H locs hl hP hS)
theorem zg_Wp {Wp' : Heap → Prop} (h : ∀ H, Wp H → Wp' H) (kk : zG Q w t x own cc nL lev Wp' ce sl pc lv st) : zG Q w t x own cc nL lev Wp ce sl pc lv st := fun ok ls H locs hl hP hS => kk ok ls H locs hl (h H hP) hS
end ZG
