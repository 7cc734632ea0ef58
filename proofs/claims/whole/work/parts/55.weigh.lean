theorem sized_eq {a : Int} (h : zin a) (s : zSt) : m_X9_sized (zq a) s = some (zq (a.natAbs : Int), s) := by
  unfold m_X9_sized
  rw [zq_neg]
  by_cases hc : a < 0
  · rw [if_pos ((zq_lt0 h).2 hc)]
    congr 3; omega
  · rw [if_neg (fun hd => hc ((zq_lt0 h).1 hd))]
    congr 3; omega
def zthree (t : zSt) (o : Nat) (a b c : Int64) : zSt := zsL (zsL (zsL t o 0 a) o 1 b) o 2 c
theorem weigh2_eq {p1 p2 : Int32} {k : zSt → Option zSt} (f : Nat) (t : zSt) : lp_X9_weigh_2 64 p1 p2 k (f + 1 + 1 + 1 + 1) 0 t = k (zthree t 83 0 0 0) := by
  have e1 : (0 : Int32) + 1 = 1 := by decide
  have e2 : (1 : Int32) + 1 = 2 := by decide
  have e3 : (2 : Int32) + 1 = 3 := by decide
  have g0 : (0 : Int32) < 3 := by decide
  have g1 : (1 : Int32) < 3 := by decide
  have g2 : (2 : Int32) < 3 := by decide
  have g3 : ¬ (3 : Int32) < 3 := by decide
  simp only [lp_X9_weigh_2, bd_X9_weigh_2, e1, e2, e3, g0, g1, g2, g3, if_true, if_false, zT_64_38, zN_83, tc_0, ln_0, tc_1, ln_1, tc_2, ln_2, tc_3, ln_3, tc_4, ln_4, tc_5, ln_5, tc_6, ln_6, tc_7, ln_7, tc_8, ln_8, tc_9, ln_9, tc_10, ln_10, tc_11, ln_11, tc_12, ln_12, tc_13, ln_13, false_or, show ¬ 3 ≤ 0 by decide, show ¬ 3 ≤ 1 by decide, show ¬ 3 ≤ 2 by decide, zlt_eq, zthree]
theorem weigh22_lp {row n : Nat} (hr : row < 2147483648) (hn : n ≤ 12) {k : zSt → Option zSt} : ∀ (d j f : Nat) (t : zSt), j + d = n → d < f → zL t 83 0 = zq (ow1 row j) → zL t 83 1 = zq (ow2 row j) → zL t 83 2 = zq (ow3 row j) →
    ∃ t' : zSt, lp_X9_weigh_22 64 (zn row) (zn n) k f (zn j) t = k t' ∧ zL t' 83 0 = zq (ow1 row n) ∧ zL t' 83 1 = zq (ow2 row n) ∧ zL t' 83 2 = zq (ow3 row n) ∧ zOf (fun o _ => o = 83) t t' := by
  intro d
  induction d with
  | zero =>
    intro j f t hj hf h1 h2 h3
    obtain ⟨f, rfl⟩ : ∃ g, f = g + 1 := ⟨f - 1, by omega⟩
    have hjn : j = n := by omega
    subst hjn
    have : ¬ zn j < zn j := by rw [zn_lt (by omega) (by omega)]; omega
    refine ⟨t, ?_, h1, h2, h3, zOf.rf⟩
    simp only [lp_X9_weigh_22, bd_X9_weigh_22, this, if_false]
  | succ d ih =>
    intro j f t hj hf h1 h2 h3
    obtain ⟨f, rfl⟩ : ∃ g, f = g + 1 := ⟨f - 1, by omega⟩
    have hl : zn j < zn n := by rw [zn_lt (by omega) (by omega)]; omega
    have hz : (zn j).toInt64 = zq j := by rw [zq_i32, zn_int (by omega)]
    have fin : ∀ (t0 : Int64) (u : Int), t0 = zq u → osg row j = u → ∃ t' : zSt, m_X9_weigh_43 64 (zn row) (zn n) (fun l3 s => lp_X9_weigh_22 64 (zn row) (zn n) k f l3 s) k (zn j) t0 t = k t' ∧ zL t' 83 0 = zq (ow1 row n) ∧ zL t' 83 1 = zq (ow2 row n) ∧ zL t' 83 2 = zq (ow3 row n) ∧ zOf (fun o _ => o = 83) t t' := by
      intro t0 u h0 hu
      subst h0
      obtain ⟨t', e1, e2, e3, e4, e5⟩ := ih (j + 1) f (zthree t 83 (zq (ow1 row (j + 1))) (zq (ow2 row (j + 1))) (zq (ow3 row (j + 1)))) (by omega) (by omega) (by simp [zthree, zI_sI, zI_sL, zI_sR, zL_sI, zL_sL, zL_sR, zR_sI, zR_sL, zR_sR]) (by simp [zthree, zI_sI, zI_sL, zI_sR, zL_sI, zL_sL, zL_sR, zR_sI, zR_sL, zR_sR]) (by simp [zthree, zI_sI, zI_sL, zI_sR, zL_sI, zL_sL, zL_sR, zR_sI, zR_sL, zR_sR])
      refine ⟨t', ?_, e2, e3, e4, (((zOf.rf.sL (by rfl)).sL (by rfl)).sL (by rfl)).tr e5⟩
      rw [← e1]
      have w1 : zq (ow1 row j) + zq u * zq j = zq (ow1 row (j + 1)) := by rw [zq_mul, zq_add, ← hu]; rfl
      have w2 : zq (ow2 row j) + zq u * zq j * zq j = zq (ow2 row (j + 1)) := by rw [zq_mul, zq_mul, zq_add, ← hu]; rfl
      have w3 : zq (ow3 row j) + zq u * zq j * zq j * zq j = zq (ow3 row (j + 1)) := by rw [zq_mul, zq_mul, zq_mul, zq_add, ← hu]; rfl
      simp only [m_X9_weigh_43, zT_64_38, zN_83, tc_0, ln_0, tc_1, ln_1, tc_2, ln_2, tc_3, ln_3, tc_4, ln_4, tc_5, ln_5, tc_6, ln_6, tc_7, ln_7, tc_8, ln_8, tc_9, ln_9, tc_10, ln_10, tc_11, ln_11, tc_12, ln_12, tc_13, ln_13, false_or, show ¬ 3 ≤ 0 by decide, show ¬ 3 ≤ 1 by decide, show ¬ 3 ≤ 2 by decide, if_false, zlt_eq, zI_sI, zI_sL, zI_sR, zL_sI, zL_sL, zL_sR, zR_sI, zR_sL, zR_sR, true_and, show ¬ (1 : Nat) = 0 by decide, show ¬ (2 : Nat) = 0 by decide, show ¬ (2 : Nat) = 1 by decide, h1, h2, h3, hz, w1, w2, w3, zn_succ, zthree]
    simp only [lp_X9_weigh_22, bd_X9_weigh_22, hl, if_true, zn_shr hr (show j < 32 by omega), zn_b1]
    by_cases hb : row.testBit j = true
    · rw [if_pos hb]
      exact fin 1 1 rfl (by unfold osg; rw [if_pos hb])
    · rw [if_neg hb]
      exact fin (-1) (-1) rfl (by unfold osg; rw [if_neg hb])
theorem weigh104_eq {p1 p2 : Int32} (f : Nat) {t : zSt} {a b c : Int} (ha : zin a) (hb : zin b) (hc : zin c) (h1 : zL t 83 0 = zq a) (h2 : zL t 83 1 = zq b) (h3 : zL t 83 2 = zq c) : lp_X9_weigh_104 64 p1 p2 (f + 1 + 1 + 1 + 1) 0 t = some (zthree t 83 (zq a.natAbs) (zq b.natAbs) (zq c.natAbs)) := by
  have e1 : (0 : Int32) + 1 = 1 := by decide
  have e2 : (1 : Int32) + 1 = 2 := by decide
  have e3 : (2 : Int32) + 1 = 3 := by decide
  have g0 : (0 : Int32) < 3 := by decide
  have g1 : (1 : Int32) < 3 := by decide
  have g2 : (2 : Int32) < 3 := by decide
  have g3 : ¬ (3 : Int32) < 3 := by decide
  simp only [lp_X9_weigh_104, bd_X9_weigh_104, e1, e2, e3, g0, g1, g2, g3, if_true, if_false, zT_64_38, zN_83, tc_0, ln_0, tc_1, ln_1, tc_2, ln_2, tc_3, ln_3, tc_4, ln_4, tc_5, ln_5, tc_6, ln_6, tc_7, ln_7, tc_8, ln_8, tc_9, ln_9, tc_10, ln_10, tc_11, ln_11, tc_12, ln_12, tc_13, ln_13, false_or, show ¬ 3 ≤ 0 by decide, show ¬ 3 ≤ 1 by decide, show ¬ 3 ≤ 2 by decide, zlt_eq, zthree, h1, sized_eq ha, zcl_some, zI_sI, zI_sL, zI_sR, zL_sI, zL_sL, zL_sR, zR_sI, zR_sL, zR_sR, true_and, show ¬ (1 : Nat) = 0 by decide, show ¬ (2 : Nat) = 0 by decide, show ¬ (2 : Nat) = 1 by decide, h2, sized_eq hb, h3, sized_eq hc]
theorem weigh_eq {row n : Nat} (hr : row < 2147483648) (hn : n ≤ 12) (t : zSt) : ∃ t' : zSt, m_X9_weigh 64 (zn row) (zn n) t = some t' ∧ zL t' 83 0 = zq ((ow1 row n).natAbs : Nat) ∧ zL t' 83 1 = zq ((ow2 row n).natAbs : Nat) ∧ zL t' 83 2 = zq ((ow3 row n).natAbs : Nat) ∧ zOf (fun o _ => o = 83) t t' := by
  obtain ⟨b1, b2, b3⟩ := ow_le (row := row) hn
  obtain ⟨t1, e1, e2, e3, e4, e5⟩ := weigh22_lp hr hn (k := fun s_6 => lp_X9_weigh_104 64 (zn row) (zn n) zFuel 0 s_6) n 0 zFuel (zthree t 83 0 0 0) (by omega) (by unfold zFuel; omega) (by simp [zthree, zI_sI, zI_sL, zI_sR, zL_sI, zL_sL, zL_sR, zR_sI, zR_sL, zR_sR]; rfl) (by simp [zthree, zI_sI, zI_sL, zI_sR, zL_sI, zL_sL, zL_sR, zR_sI, zR_sL, zR_sR]; rfl) (by simp [zthree, zI_sI, zI_sL, zI_sR, zL_sI, zL_sL, zL_sR, zR_sI, zR_sL, zR_sR]; rfl)
  have e6 : lp_X9_weigh_104 64 (zn row) (zn n) zFuel 0 t1 = _ := weigh104_eq (p1 := zn row) (p2 := zn n) 999996 (by unfold zin; omega) (by unfold zin; omega) (by unfold zin; omega) e2 e3 e4
  refine ⟨zthree t1 83 (zq (ow1 row n).natAbs) (zq (ow2 row n).natAbs) (zq (ow3 row n).natAbs), ?_, by simp [zthree, zI_sI, zI_sL, zI_sR, zL_sI, zL_sL, zL_sR, zR_sI, zR_sL, zR_sR], by simp [zthree, zI_sI, zI_sL, zI_sR, zL_sI, zL_sL, zL_sR, zR_sI, zR_sL, zR_sR], by simp [zthree, zI_sI, zI_sL, zI_sR, zL_sI, zL_sL, zL_sR, zR_sI, zR_sL, zR_sR], ?_⟩
  · unfold m_X9_weigh
    refine Eq.trans (weigh2_eq 999996 t) ?_
    refine Eq.trans e1 ?_
    exact e6
  · exact ((((zOf.rf.sL (by rfl)).sL (by rfl)).sL (by rfl)).tr e5).tr (((zOf.rf.sL (by rfl)).sL (by rfl)).sL (by rfl))
