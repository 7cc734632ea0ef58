def zFuel : Nat := 1000000
theorem zuws {C : String} {T : u_T} {N : Nat} (ps : List Nat) (h : u_ws C T N = ps.filterMap (fun i => lw_tbl[i]?)) (hg : (u_ws C T N).all goodWord = true) : ∀ q ∈ u_ws C T N, q ∈ ztb := by
  intro q hq
  have h1 := List.all_eq_true.mp hg q hq
  rw [h] at hq
  obtain ⟨i, -, hi⟩ := List.mem_filterMap.mp hq
  exact List.mem_filter.mpr ⟨List.mem_of_getElem? hi, h1⟩
def zcpU (σ : zSt) (o : Nat) : zSt := (fun o' k => if o' = o ∧ k < 11 then ztabU k else σ.1 o' k, σ.2.1, σ.2.2)
theorem zac_n : Cond.native arraycopyName ∈ ztb := zmem 488 (by decide +kernel) rfl
theorem zac_s : Cond.static arraycopyName ∈ ztb := zmem 487 (by decide +kernel) rfl
theorem zac_i : Cond.initialized "java/lang/System" ∈ ztb := zmem 82 (by decide +kernel) rfl
section ZX
variable {α : Type} {Qf : α → State → Prop} {w : zWC} {x : zCX} {own : String} {cc : ByteArray} {nL lev : Nat} {m : Option α} {pc : Nat} {lv : List (Option Value)} {st : List Value} {σ : zSt}
theorem zj_tsE {dflt lo hi : Int} {offs : Array Int} {len : Nat} {v u : Int32} {off : Int} {tgt : Nat} (hx : v = u) (d : decode cc pc = .ok (.tableswitch dflt lo hi offs, len)) (h1 : ¬ u.toInt < lo) (h2 : ¬ hi < u.toInt) (ho : offs[(u.toInt - lo).toNat]? = some off) (ht : (pc : Int) + off = (tgt : Int)) (kk : zJ Qf w x own cc nL lev m tgt lv st σ) : zJ Qf w x own cc nL lev m pc lv (.int v :: st) σ := by
  subst hx
  exact zj_tsIn d h1 h2 ho ht kk
theorem zj_tsDef {dflt lo hi : Int} {offs : Array Int} {len : Nat} {v : Int32} {tgt : Nat} {vs : List Int32} (d : decode cc pc = .ok (.tableswitch dflt lo hi offs, len)) (ht : (pc : Int) + dflt = (tgt : Int)) (hc : (List.range offs.size).all (fun j => offs[j]? == some dflt || vs.any (fun u => u.toInt == lo + (j : Int))) = true) (hsz : hi = lo + (offs.size : Int) - 1) (hv : ∀ u ∈ vs, ¬ v = u) (kk : zJ Qf w x own cc nL lev m tgt lv st σ) : zJ Qf w x own cc nL lev m pc lv (.int v :: st) σ := by
  by_cases h1 : v.toInt < lo
  · exact zj_tsOut d (Or.inl h1) ht kk
  by_cases h2 : hi < v.toInt
  · exact zj_tsOut d (Or.inr h2) ht kk
  have hj : (v.toInt - lo).toNat < offs.size := by omega
  have h3 := List.all_eq_true.mp hc (v.toInt - lo).toNat (List.mem_range.mpr hj)
  simp only [Bool.or_eq_true, beq_iff_eq] at h3
  rcases h3 with h3 | h3
  · exact zj_tsIn d h1 h2 h3 ht kk
  · exfalso
    obtain ⟨u, hu, he⟩ := List.any_eq_true.mp h3
    have he : u.toInt = lo + ((v.toInt - lo).toNat : Int) := by simpa using he
    exact hv u hu (Int32.toInt_inj.mp (by omega))
theorem zj_acopy {idx o : Nat} {f : zSt → Option α} {dc : Decidable (zN o = 11)} (d : decode cc pc = .ok (.invokestatic idx, 3)) (hlk : Cond.methodLink own idx arraycopyName ∈ ztb) (ho : zC o = 11) (hlev : 1 ≤ lev) (hcat : (st.map fun v => v.category).sum ≤ 8) (kk : ∀ σ', zJ Qf w x own cc nL lev (f σ') (pc + 3) lv st σ') : zJ Qf w x own cc nL lev (@ite _ (zN o = 11) dc (zlt (zcpU σ o) f) none) pc lv (.int 11 :: .int 0 :: .ref (zb w + o) :: .int 0 :: .ref (ztU w) :: st) σ := by
  refine zj_split (fun hN => ?_) (fun _ => zj_none)
  intro a hm ok ls H locs hl hP hS
  obtain ⟨hx, hb, hml, hown, hts, hK, h3, hrm, hcs, hlkk⟩ := ok
  have hcell := zcell (w := w) (σ := σ) ho (by omega)
  rw [zE_I ho] at hcell
  have hc1 : H[zb w + o]? = some (vp_cell (zkI w) (zN o, .inl (zI σ o))) := hP o _ hcell
  obtain ⟨scr, hs1, hs2, hs3, hs4, -, hs5, hs7⟩ := h3.1.2
  have hc0 : H[ztU w]? = some scr := by rw [hS.2.1 (ztU w) (Array.getElem?_eq_some_iff.mp hs1).1 hs7]; exact hs1
  obtain ⟨hs6, k0, hk0, cm0, hkk0⟩ := hs2
  obtain ⟨-, k1, hk1, cm1, hkk1⟩ := (hK.1.2 1 _ rfl).1 (zN o) (fun j => .int (zI σ o j))
  intro T hT X
  obtain ⟨vm', X', step⟩ := X.arraycopy hx hown (hts _ hlk) (hts _ zac_n) (hts _ zac_s) (hts _ zac_i) (src := ztU w) (dst := zb w + o) (cs := scr) (cd := vp_cell (zkI w) (zN o, .inl (zI σ o))) (srcPos := 0) (destPos := 0) (n := 11) (by rw [hT]; exact hc0) (by rw [hT]; exact hc1)
    hs6 (fun _ h => by cases h) hs3 (fun h => by cases h) hk0 hk1 hkk0 hkk1 (by simp [refKind]) (by decide) (by decide) (by decide)
    (by show ¬ (0 : Int) + 11 > _; omega)
    (by show ¬ (0 : Int) + 11 > ((arrV (zkI w) (zN o) (fun j => .int (zI σ o j))).slots.size : Int); rw [arrV_size, hN]; omega)
    (fun vm₁ _ i hi => by
      have hi' : i < 11 := hi
      have e : scr.slots.getD ((0 : Int32).toNatClampNeg + i) .null = .int (ztabU ((0 : Int32).toNatClampNeg + i)) := by
        rw [Array.getD_eq_getD_getElem?, hs5 _ (by show 0 + i < 11; omega)]
        rfl
      refine ⟨?_, ?_⟩
      · rw [e]
        rfl
      · rw [e]
        exact trivial)
    (g := F0 (xm x) pc ls (.int 11 :: .int 0 :: .ref (zb w + o) :: .int 0 :: .ref (ztU w) :: st)) rfl (by rw [hml]; exact hl.1) (rest := st) rfl (by rw [hb]; exact d) (by omega) (by show 2 * 0 + _ + (5 + 2 + 11) ≤ _; omega)
  have e1 : copied scr (vp_cell (zkI w) (zN o, .inl (zI σ o))) 0 0 11 = vp_cell (zkI w) (zN o, .inl (va_cpy ztabU (zI σ o) (0 : Int32).toNatClampNeg (0 : Int32).toNatClampNeg (11 : Int32).toNatClampNeg)) := va_copiedX (fun z => .int z) scr (zkI w) ztabU (zI σ o) hs5 (by decide)
  rw [e1] at X' step
  have e2 : va_cpy ztabU (zI σ o) (0 : Int32).toNatClampNeg (0 : Int32).toNatClampNeg (11 : Int32).toNatClampNeg = zI (zcpU σ o) o := by
    funext k
    show (if 0 ≤ k ∧ k < 0 + 11 then ztabU (0 + (k - 0)) else zI σ o k) = (if o = o ∧ k < 11 then ztabU k else σ.1 o k)
    simp [zI]
  rw [e2] at X' step
  have hll : zb w + o < H.size := (Array.getElem?_eq_some_iff.mp hc1).1
  have hheap : ((T.setVm vm').setCell (zb w + o) (vp_cell (zkI w) (zN o, .inl (zI (zcpU σ o) o)))).heap = H.setIfInBounds (zb w + o) (vp_cell (zkI w) (zN o, .inl (zI (zcpU σ o) o))) := by rw [← hT]; rfl
  have oq : ∀ q : Nat, q ≠ zb w + o → (H.setIfInBounds (zb w + o) (vp_cell (zkI w) (zN o, .inl (zI (zcpU σ o) o))))[q]? = H[q]? := fun q hq => by simp [Array.getElem?_setIfInBounds, Ne.symm hq]
  have hP1 := hP.set (zW_D w σ) hcell (e := .inl (zkI w, zN o, .inl (zI (zcpU σ o) o))) (show (H.setIfInBounds (zb w + o) _)[zb w + o]? = some (vp_cell (zkI w) (zN o, .inl (zI (zcpU σ o) o))) by simp [Array.getElem?_setIfInBounds, hll]) oq
  rw [zW_set w (σ' := zcpU σ o) (zC_lt (by omega)) (by rw [zE_I ho]) (fun j hj => ?_)] at hP1
  · obtain ⟨t, a1, b1⟩ := kk (zcpU σ o) a hm ⟨hx, hb, hml, hown, hts, hK, h3, hrm, hcs, hlkk⟩ ls _ _ hl hP1 ⟨by simp; exact hS.1, fun q g1 g2 => by
        rw [oq q (fun e => g2 (by rw [e]; show zb w ≤ zb w + o; omega))]
        exact hS.2.1 q g1 g2, fun q hq => by
        rcases List.mem_append.mp hq with h | h
        · exact hS.2.2 q h
        · obtain ⟨z, -, hz⟩ := List.mem_map.mp h
          rw [← hz]
          show zb w ≤ zb w + o
          omega⟩ _ hheap X'
    exact ⟨t, step t a1, b1⟩
  · have h1 : zI (zcpU σ o) j = zI σ j := by funext q; show (if j = o ∧ q < 11 then _ else _) = _; rw [if_neg (fun h => hj h.1)]; rfl
    have h2 : ∀ ci, zV w (zcpU σ o) j ci = zV w σ j ci := by
      intro ci; funext q
      unfold zV
      rw [h1]
      rfl
    unfold zE
    rw [h1]
    split <;> first | rfl | rw [h2]
end ZX
