def iSum (U : Nat) (σ : zSt) : Prop := ∃ (n : Nat) (fs : Nat → Nat) (kd : Nat → Nat) (vl pr : Nat → Int32), okSum n fs kd vl ∧ smC U n fs kd vl (fun l => pr l - eL kd vl fs l pr) σ ∧ (∀ l, l < n → zI σ (U + 1) l = eL kd vl fs l pr) ∧ smM n fs kd vl pr σ
def gLin (U : Nat) (o _ : Nat) : Prop := o = U + 8 ∨ o = U + 9 ∨ o = 103 ∨ o = 104
theorem isU.lt {U : Nat} (h : isU U) : U + 9 < 64 ∧ 33 ≤ U := by rcases h with rfl | rfl <;> omega
theorem call_right {σ : zSt} {U : Nat} (hU : isU U) (h1 : zR σ 0 6 = U) (hI : iSum U σ) : zCa (fun _ => True) (gLin U) (m_X8_right 0) (m_X9_right 64) σ := by
  obtain ⟨n, fs, kd, vl, pr, ok, hC, hw, hM⟩ := hI
  have hcl := hU.c.1
  have hlt := hU.lt
  have hn := ok.1
  by_cases h0 : n = 0
  · subst h0
    have e1 : zI σ U 0 = 0 := hC.1
    have e2 : zI σ 64 66 = 0 := hM.1
    refine zCa.mk (r := -1000000000000) (σ1 := σ) (σ2 := σ) ?_ ?_ trivial zOf.rf
    · simp only [m_X8_right, h1, hcl, if_true, e1]
    · simp only [m_X9_right, e2, if_true]
  have z1 : ¬ zn n = 0 := fun h => h0 ((zn_inj (b := 0) (by omega) (by omega)).1 h)
  obtain ⟨s', g1, g2⟩ := lastWith_eq hU ok (by omega) (b := 0) (by omega) hC
  have g2h : ∀ o k, 64 ≤ o → zI s' o k = zI σ o k := fun o k ho => (g2 o k (by omega)).1
  have hM' : smM n fs kd vl pr s' := ⟨(g2h 64 66 (by omega)).trans hM.1, hM.2.1.of (fun o k ho => g2h o k (by omega)), fun l hl => (g2h 101 l (by omega)).trans (hM.2.2 l hl)⟩
  obtain ⟨m, rfl⟩ : ∃ m, n = m + 1 := ⟨n - 1, by omega⟩
  have m2 : ¬ zn m < 0 := zn_neg (by omega)
  have m3 : (zn m).toNatClampNeg = m := zn_cl (by omega)
  have m4 : ¬ 12 ≤ m := by omega
  obtain ⟨t', k1, k2, k3⟩ := ri_lp ok (kk := fun s_4 => (if (zI s_4 64 66) - 1 < 0 ∨ zN (zT 64 61) ≤ Int32.toNatClampNeg ((zI s_4 64 66) - 1) then none else some ((zI s_4 (zT 64 61) (Int32.toNatClampNeg ((zI s_4 64 66) - 1))).toInt64, s_4))) (m + 1) 0 zFuel s' (by omega) (by unfold zFuel; omega) hM' (fun k hk => by omega)
  have e66 := (hM'.of k2).1
  have hg : rwF kd vl fs (fun i => if (0 : Nat).testBit i then pr i - eL kd vl fs i pr else 0) (m + 1) = rwF kd vl fs (fun _ => 0) (m + 1) := rwF_congr (m + 1) (fun i _ => by rw [Nat.zero_testBit]; rfl)
  refine zCa.mk (σ1 := s') (σ2 := t') (r := (rwF kd vl fs (fun _ => 0) (m + 1) m).toInt64) ?_ ?_ trivial ?_
  · simp only [m_X8_right, h1, hcl, if_true, hC.1, z1, if_false]
    rw [show (0 : Int32) = zn 0 from rfl, g1, zcl_some, hg, Nat.add_sub_cancel]
    rfl
  · simp only [m_X9_right, hM'.1, z1, if_false]
    refine Eq.trans k1 ?_
    simp only [e66, zn_pred, zT_64_61, zN_104, m2, m3, m4, or_self, if_false, k3 m (by omega)]
  · exact (g2.mono (fun o k h => by unfold gLin; omega)).tr (k2.mono (fun o k h => by unfold gLin; omega))
theorem b4095 {i j : Nat} (hi : i < 12) : (adn 4095 (2 ^ j)).testBit i = !decide (j = i) := by
  rw [adn2_bit, show (4095 : Nat) = 2 ^ 12 - 1 from rfl, full_bit hi]
  rfl
theorem call_line {σ : zSt} {U : Nat} (hU : isU U) (h1 : zR σ 0 6 = U) (hI : iSum U σ) (p1 p2 : Int32) : zCa (fun _ => True) (gLin U) (m_X8_line 0 p1 p2) (m_X9_line 64 p1 p2) σ := by
  obtain ⟨n, fs, kd, vl, pr, ok, hC, hw, hM⟩ := hI
  obtain ⟨hcl, ⟨t2, t3, -, -, -, -, -, -, -⟩, ⟨n1, n2, -, -, -, -, -, -, -⟩⟩ := hU.c
  have hlt := hU.lt
  have hn := ok.1
  by_cases q : p1 < 0
  · have : ¬ (0 ≤ p1 ∧ p1 ≤ zn n - 1) := by grind
    refine zCa.mk (r := -1000000000000) (σ1 := σ) (σ2 := σ) ?_ ?_ trivial zOf.rf
    · simp only [m_X8_line, h1, hcl, if_true, hC.1, within_eq, zcl_some, this, if_false]
    · simp only [m_X9_line, q, if_true]
  obtain ⟨j, hj, rfl⟩ := zn_of q
  have cl : (zn j).toNatClampNeg = j := zn_cl hj
  by_cases g : j < n
  · have g1 : 0 ≤ zn j ∧ zn j ≤ zn n - 1 := ⟨zn_nn hj, (zn_le1 (by omega) hj).2 g⟩
    have g2 : zn j < zn n := (zn_lt hj (by omega)).2 g
    have g3 : ¬ 12 ≤ j := by omega
    by_cases x0 : p2 = 0
    · obtain ⟨t', k1, k2⟩ := eOf_eq ok hM.2.1 (o2 := 101) (Or.inl rfl) g (fun k hk => hM.2.2 k (by omega))
      refine zCa.mk (r := (eL kd vl fs j pr).toInt64) (σ1 := σ) (σ2 := t') ?_ ?_ trivial (k2.mono (fun o k h => by unfold gLin; omega))
      · simp only [m_X8_line, h1, hcl, if_true, hC.1, within_eq, zcl_some, g1, and_self, show ¬ (1 : Int32) = 0 by decide, if_false, x0, t2, n1, q, cl, g3, or_self, hw j g]
      · simp only [m_X9_line, q, if_false, hM.1, g2, if_true, x0, zT_64_58, k1, zcl_some]
    by_cases x1 : p2 = 1
    · obtain ⟨t', k1, k2⟩ := slipOf_eq ok hM g
      refine zCa.mk (r := (pr j - eL kd vl fs j pr).toInt64) (σ1 := σ) (σ2 := t') ?_ ?_ trivial (k2.mono (fun o k h => by unfold gLin; omega))
      · simp only [m_X8_line, h1, hcl, if_true, hC.1, within_eq, zcl_some, g1, and_self, show ¬ (1 : Int32) = 0 by decide, if_false, x1, t3, n2, q, cl, g3, or_self, hC.2.2 j g]
      · simp only [m_X9_line, q, if_false, hM.1, g2, if_true, x1, show ¬ (1 : Int32) = 0 by decide, k1, zcl_some]
    by_cases x2 : p2 = 2
    · obtain ⟨s1, a1, a2⟩ := lastWith_eq hU ok (by omega) (b := 4095) (by omega) hC
      obtain ⟨s2, a3, a4⟩ := lastWith_eq hU ok (by omega) (b := adn 4095 (2 ^ j)) (Nat.lt_of_le_of_lt (adn_le _ _) (by omega)) (hC.of a2)
      have a5 := a2.tr a4
      have g2h : ∀ o k, 64 ≤ o → zI s2 o k = zI σ o k := fun o k ho => (a5 o k (by omega)).1
      have hM' : smM n fs kd vl pr s2 := ⟨(g2h 64 66 (by omega)).trans hM.1, hM.2.1.of (fun o k ho => g2h o k (by omega)), fun l hl => (g2h 101 l (by omega)).trans (hM.2.2 l hl)⟩
      obtain ⟨t', k1, k2⟩ := wo_lp ok (by omega) g n 0 zFuel s2 (by omega) (by unfold zFuel; omega) hM' (fun k hk => by omega)
      have hall : rwF kd vl fs (fun i => if (4095 : Nat).testBit i then pr i - eL kd vl fs i pr else 0) n (n - 1) = pr (n - 1) := rwF_pr ok (fun i hi => by
        show (if (4095 : Nat).testBit i then pr i - eL kd vl fs i pr else 0) = _
        rw [show (4095 : Nat) = 2 ^ 12 - 1 from rfl, if_pos (full_bit (by omega))]) n (Nat.le_refl n) (n - 1) (by omega)
      have hg : rwF kd vl fs (fun i => if (adn 4095 (2 ^ j)).testBit i then pr i - eL kd vl fs i pr else 0) n = rwF kd vl fs (fun i => if i = j then 0 else pr i - eL kd vl fs i pr) n := rwF_congr n (fun i hi => by
        show (if (adn 4095 (2 ^ j)).testBit i then pr i - eL kd vl fs i pr else 0) = (if i = j then 0 else pr i - eL kd vl fs i pr)
        rw [b4095 (show i < 12 by omega)]
        by_cases hij : j = i
        · rw [if_neg (by simp [hij]), if_pos hij.symm]
        · rw [if_pos (by simp [hij]), if_neg (fun h => hij h.symm)])
      have sl : (1 : Int32) <<< (zn j &&& 31) = zn (2 ^ j) := zn_shl ⟨j, by omega⟩
      have an : (4095 : Int32) &&& (zn (2 ^ j) ^^^ -1) = zn (adn 4095 (2 ^ j)) := zn_andn 4095 (2 ^ j)
      have a1' : m_X6_lastWith U 4095 σ = some (pr (n - 1), s1) := by
        rw [← hall]; exact a1
      obtain ⟨m, rfl⟩ : ∃ m, n = m + 1 := ⟨n - 1, by omega⟩
      have m2 : ¬ zn m < 0 := zn_neg (by omega)
      have m3 : (zn m).toNatClampNeg = m := zn_cl (by omega)
      have m4 : ¬ 12 ≤ m := by omega
      refine zCa.mk (r := (pr m - rwF kd vl fs (fun i => if i = j then 0 else pr i - eL kd vl fs i pr) (m + 1) m).toInt64) (σ1 := s2) (σ2 := t') ?_ ?_ trivial ((a5.mono (fun o k h => by unfold gLin; omega)).tr (k2.mono (fun o k h => by unfold gLin; omega)))
      · simp only [m_X8_line, h1, hcl, if_true, hC.1, within_eq, zcl_some, g1, and_self, show ¬ (1 : Int32) = 0 by decide, if_false, x2, show ¬ (2 : Int32) = 0 by decide, show ¬ (2 : Int32) = 1 by decide, m_X6_moved, a1', sl, an, a3, hg, Nat.add_sub_cancel]
      · simp only [m_X9_line, q, if_false, hM'.1, g2, if_true, x2, show ¬ (2 : Int32) = 0 by decide, show ¬ (2 : Int32) = 1 by decide, zT_64_58, zN_101, zn_pred, m2, m3, m4, or_self, m_X9_without, hM'.2.2 m (by omega)]
        rw [show (0 : Int32) = zn 0 from rfl, k1, zcl_some, Nat.add_sub_cancel]
        rfl
    · refine zCa.mk (r := -1000000000000) (σ1 := σ) (σ2 := σ) ?_ ?_ trivial zOf.rf
      · simp only [m_X8_line, h1, hcl, if_true, hC.1, within_eq, zcl_some, g1, and_self, show ¬ (1 : Int32) = 0 by decide, if_false, x0, x1, x2]
      · simp only [m_X9_line, q, if_false, hM.1, g2, if_true, x0, x1, x2]
  · refine zCa.mk (r := -1000000000000) (σ1 := σ) (σ2 := σ) ?_ ?_ trivial zOf.rf
    · have : ¬ (0 ≤ zn j ∧ zn j ≤ zn n - 1) := fun hc => g ((zn_le1 (by omega) hj).1 hc.2)
      simp only [m_X8_line, h1, hcl, if_true, hC.1, within_eq, zcl_some, this, if_false]
    · have : ¬ zn j < zn n := fun hc => g ((zn_lt hj (by omega)).1 hc)
      simp only [m_X9_line, q, hM.1, this, if_false]
theorem call_about {σ : zSt} {S H U : Nat} (hS : isS S) (hH : isH H) (hU : isU U) (r2 : zR σ 0 2 = S) (r4 : zR σ 0 4 = H) (r6 : zR σ 0 6 = U) (e0 : zI σ (S + 1) 0 = zI σ 64 21) (e1 : zI σ (S + 1) 1 = zI σ 64 22) (e2 : zI σ H 0 = zI σ 64 49) (e3 : zI σ U 0 = zI σ 64 66) (e4 : zI σ 53 0 = zI σ 64 30) (e5 : zI σ 53 1 = zI σ 64 31) (e6 : zI σ 1 1 = zI σ 64 1) (e7 : zI σ U 1 = zI σ 64 65) (p1 : Int32) : zCa (fun _ => True) (fun _ _ => False) (m_X8_about 0 p1) (m_X9_about 64 p1) σ := by
  have hr : m_X8_about 0 p1 σ = m_X9_about 64 p1 σ := by
    simp only [m_X8_about, m_X9_about, r2, r4, r6, hS.c.1, hS.c.2.1, hH.c.1, hU.c.1, if_true, e0, e1, e2, e3, e7, zT_0_8, zT_0_0, e4, e5, e6]
  have hx : ∃ r, m_X9_about 64 p1 σ = some (r, σ) := by
    unfold m_X9_about
    repeat' (split; exact ⟨_, rfl⟩)
    exact ⟨_, rfl⟩
  obtain ⟨r, hx⟩ := hx
  exact zCa.mk (hr.trans hx) hx trivial zOf.rf
