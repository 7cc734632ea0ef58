theorem or2_bit (a p k : Nat) : (a ||| 2 ^ p).testBit k = (a.testBit k || decide (p = k)) := by
  rw [Nat.testBit_or, Nat.testBit_two_pow]
theorem adn2_bit (a p k : Nat) : (adn a (2 ^ p)).testBit k = (a.testBit k && !decide (p = k)) := by
  rw [adn_bit, Nat.testBit_two_pow]
theorem or_lt {a p n : Nat} (ha : a < 2 ^ n) (hp : p < n) : a ||| 2 ^ p < 2 ^ n := Nat.or_lt_two_pow ha (Nat.pow_lt_pow_right (by omega) hp)
def gRes (S : Nat) (o k : Nat) : Prop := (o = S + 1 ∧ (k = 6 ∨ k = 7)) ∨ o = 105 ∨ o = 106
def iCau (S nc nt : Nat) (sh : Nat → Nat) (σ : zSt) : Prop := ∃ kn po, rCauC S σ nc nt kn po sh ∧ rCauM σ nc nt kn po sh ∧ okCau nc nt kn po sh
theorem call_result {σ : zSt} {S : Nat} (hS : isS S) (h1 : zR σ 0 2 = S) {nc nt : Nat} {sh : Nat → Nat} (hI : iCau S nc nt sh σ) (p1 p2 : Int32) (hp2 : p2 = 0 ∨ p2 = 1) : zCa (iCau S nc nt sh) (gRes S) (m_X8_result 0 p1 p2) (m_X9_result 64 p1 p2) σ := by
  have hI' := hI
  obtain ⟨kn, po, hC, hM, ok⟩ := hI
  obtain ⟨c0, c1, c2, c3, c4⟩ := hC
  obtain ⟨m0, m1, m2, m3⟩ := hM
  obtain ⟨k0, k1, k2, k3, k4⟩ := ok
  obtain ⟨t0, t1, t2, t3, t4, t5⟩ := hS.c2
  by_cases q : p1 < 0
  · refine zCa.mk (r := 0) (σ1 := σ) (σ2 := σ) ?_ ?_ hI' zOf.rf
    · have : ¬ (0 ≤ p1 ∧ p1 ≤ zn nt - 1) := by grind
      simp [m_X8_result, h1, t0, t1, m_X0_tell, within_eq, zcl_some, zcv_some, zlt_eq, c1, this]
    · simp [m_X9_result, q]
  obtain ⟨p, hp, rfl⟩ := zn_of q
  by_cases g : p < nt
  rotate_left
  · refine zCa.mk (r := 0) (σ1 := σ) (σ2 := σ) ?_ ?_ hI' zOf.rf
    · have : ¬ (0 ≤ zn p ∧ zn p ≤ zn nt - 1) := fun hc => g ((zn_le1 (by omega) hp).1 hc.2)
      simp [m_X8_result, h1, t0, t1, m_X0_tell, within_eq, zcl_some, zcv_some, zlt_eq, c1, this]
    · have : ¬ zn p < zn nt := fun hc => g ((zn_lt hp (by omega)).1 hc)
      simp [m_X9_result, q, m1, this]
  have g1 : 0 ≤ zn p ∧ zn p ≤ zn nt - 1 := ⟨zn_nn hp, (zn_le1 (by omega) hp).2 g⟩
  have g2 : zn p < zn nt := (zn_lt hp (by omega)).2 g
  have g3 : ¬ 8 ≤ p := by omega
  have cl : (zn p).toNatClampNeg = p := zn_cl hp
  have sl : (1 : Int32) <<< (zn p &&& 31) = zn (2 ^ p) := zn_shl ⟨p, by omega⟩
  have one : ¬ (1 : Int32) = 0 := by decide
  have zr : ¬ (0 : Int32) = 1 := by decide
  obtain ⟨m4, m5⟩ := m3 p g
  -- told anew
  have anew : (kn.testBit p = true → ¬ zn (po.testBit p).toNat = p2) → zCa (iCau S nc nt sh) (gRes S) (m_X8_result 0 (zn p) p2) (m_X9_result 64 (zn p) p2) σ := by
    intro hn
    have hb : ∃ po' : Nat, po' < 256 ∧ (∀ k, po'.testBit k = if k = p then decide (p2 = 1) else po.testBit k) ∧ (if p2 = 0 then zn po &&& (zn (2 ^ p) ^^^ -1) else zn po ||| zn (2 ^ p)) = zn po' := by
      rcases hp2 with rfl | rfl
      · refine ⟨adn po (2 ^ p), Nat.lt_of_le_of_lt (adn_le _ _) k3, fun k => ?_, by rw [if_pos rfl, zn_andn]⟩
        rw [adn2_bit]
        by_cases hk : k = p
        · subst hk; simp
        · have : ¬ p = k := fun h => hk h.symm
          simp [hk, this]
      · refine ⟨po ||| 2 ^ p, or_lt (n := 8) k3 (by omega), fun k => ?_, by rw [if_neg one, zn_or]⟩
        rw [or2_bit]
        by_cases hk : k = p
        · subst hk; simp
        · have : ¬ p = k := fun h => hk h.symm
          simp [hk, this]
    obtain ⟨po', b1, b2, b3⟩ := hb
    refine zCa.mk (r := 1) (σ1 := zsI (zsI σ (S + 1) 6 (zn (kn ||| 2 ^ p))) (S + 1) 7 (zn po')) (σ2 := zsI (zsI (zsI (zsI σ (S + 1) 6 (zn (kn ||| 2 ^ p))) (S + 1) 7 (zn po')) 105 p 1) 106 p p2) ?_ ?_ ?_ ?_
    · simp only [m_X8_result, h1, t0, t1, m_X0_tell, within_eq, zcl_some, zcv_some, zlt_eq, c1, g1, and_self, if_true, one, if_false, sl]
      have fin : m_X0_tell_65 (S + 1) (zn p) p2 (zn (2 ^ p)) σ = some (1, zsI (zsI σ (S + 1) 6 (zn (kn ||| 2 ^ p))) (S + 1) 7 (zn po')) := by
        simp only [m_X0_tell_65, zlt_eq, c2, zn_or, zI_sI, zI_sL, zI_sR, zL_sI, zL_sL, zL_sR, zR_sI, zR_sL, zR_sR]
        rcases hp2 with rfl | rfl
        · rw [if_pos rfl] at b3
          simp only [if_true, show ¬ (7 : Nat) = 6 by decide, and_false, if_false, c3, b3]
        · rw [if_neg one] at b3
          simp only [one, if_false, show ¬ (7 : Nat) = 6 by decide, and_false, c3, b3]
      have e34 : ∀ b : Int32, (b = 0 ∨ kn.testBit p = true) → m_X0_tell_34 (S + 1) (zn p) p2 (zn (2 ^ p)) b σ = some (1, zsI (zsI σ (S + 1) 6 (zn (kn ||| 2 ^ p))) (S + 1) 7 (zn po')) := by
        intro b hb
        simp only [m_X0_tell_34, m_X0_tell_50, c3, znb_0 (show p < 31 by omega), fin]
        by_cases hb0 : b = 0
        · simp [hb0]
        · have hk := hb.resolve_left hb0
          have hn' := hn hk
          cases hpb : po.testBit p
          · rw [hpb] at hn'
            have : ¬ (0 : Int32) = p2 := hn'
            simp [hb0, this]
          · rw [hpb] at hn'
            have : ¬ (1 : Int32) = p2 := hn'
            simp [hb0, this]
      simp only [c2, znb_0 (show p < 31 by omega)]
      cases hkb : kn.testBit p
      · simp only [if_true, e34 0 (Or.inl rfl), zcl_some, or_true]
      · simp only [Bool.true_eq_false, if_false, e34 1 (Or.inr hkb), zcl_some, or_true, if_true]
    · have bo : vp_nar .boolean p2 = p2 := by rcases hp2 with rfl | rfl <;> decide
      have b1' : vp_nar .boolean 1 = 1 := by decide
      have n1 : ¬ 105 = S + 1 := by rcases hS with rfl | rfl <;> decide
      have n2 : ¬ 106 = S + 1 := by rcases hS with rfl | rfl <;> decide
      have n3 : ¬ 64 = S + 1 := by rcases hS with rfl | rfl <;> decide
      simp only [m_X9_result, m_X9_result_33, zcl_some, zcv_some, zlt_eq, zT_64_69, zT_64_70, zN_105, zN_106, q, if_false, cl, g3, or_self, zI_sI, zI_sL, zI_sR, zL_sI, zL_sL, zL_sR, zR_sI, zR_sL, zR_sR, n1, n2, n3, false_and, m1, g2, if_true, m4, zn_b0, bo, b1']
      cases hkb : kn.testBit p
      · simp
      · simp only [Bool.true_eq_false, if_false]
        rw [m5 hkb, if_neg (hn hkb)]
    · refine ⟨kn ||| 2 ^ p, po', ⟨?_, ?_, ?_, ?_, fun k hk => ?_⟩, ⟨?_, ?_, fun k hk => ?_, fun k hk => ?_⟩, k0, k1, or_lt (n := 8) k2 (by omega), b1, k4⟩
      · have n1 : ¬ S + 1 = 105 := by rcases hS with rfl | rfl <;> decide
        have n2 : ¬ S + 1 = 106 := by rcases hS with rfl | rfl <;> decide
        simp [zI_sI, zI_sL, zI_sR, zL_sI, zL_sL, zL_sR, zR_sI, zR_sL, zR_sR, c0, n1, n2]
      · have n1 : ¬ S + 1 = 105 := by rcases hS with rfl | rfl <;> decide
        have n2 : ¬ S + 1 = 106 := by rcases hS with rfl | rfl <;> decide
        simp [zI_sI, zI_sL, zI_sR, zL_sI, zL_sL, zL_sR, zR_sI, zR_sL, zR_sR, c1, n1, n2]
      · have n1 : ¬ S + 1 = 105 := by rcases hS with rfl | rfl <;> decide
        have n2 : ¬ S + 1 = 106 := by rcases hS with rfl | rfl <;> decide
        simp [zI_sI, zI_sL, zI_sR, zL_sI, zL_sL, zL_sR, zR_sI, zR_sL, zR_sR, n1, n2]
      · have n1 : ¬ S + 1 = 105 := by rcases hS with rfl | rfl <;> decide
        have n2 : ¬ S + 1 = 106 := by rcases hS with rfl | rfl <;> decide
        simp [zI_sI, zI_sL, zI_sR, zL_sI, zL_sL, zL_sR, zR_sI, zR_sL, zR_sR, n1, n2]
      · have n1 : ¬ S + 4 = 105 := by rcases hS with rfl | rfl <;> decide
        have n2 : ¬ S + 4 = 106 := by rcases hS with rfl | rfl <;> decide
        simp [zI_sI, zI_sL, zI_sR, zL_sI, zL_sL, zL_sR, zR_sI, zR_sL, zR_sR, n1, n2, c4 k hk]
      · have n3 : ¬ 64 = S + 1 := by rcases hS with rfl | rfl <;> decide
        simp [zI_sI, zI_sL, zI_sR, zL_sI, zL_sL, zL_sR, zR_sI, zR_sL, zR_sR, n3, m0]
      · have n3 : ¬ 64 = S + 1 := by rcases hS with rfl | rfl <;> decide
        simp [zI_sI, zI_sL, zI_sR, zL_sI, zL_sL, zL_sR, zR_sI, zR_sL, zR_sR, n3, m1]
      · have n3 : ¬ 69 = S + 1 := by rcases hS with rfl | rfl <;> decide
        simp [zI_sI, zI_sL, zI_sR, zL_sI, zL_sL, zL_sR, zR_sI, zR_sL, zR_sR, n3, m2 k hk]
      · have n1 : ¬ 105 = S + 1 := by rcases hS with rfl | rfl <;> decide
        have n2 : ¬ 106 = S + 1 := by rcases hS with rfl | rfl <;> decide
        rw [or2_bit, b2]
        simp only [zI_sI, zI_sL, zI_sR, zL_sI, zL_sL, zL_sR, zR_sI, zR_sL, zR_sR, n1, n2, false_and, if_false, show ¬ (105 : Nat) = 106 by decide, true_and, show ¬ (106 : Nat) = 105 by decide]
        by_cases hkp : k = p
        · subst hkp
          simp only [if_true, decide_true, Bool.or_true, Bool.toNat_true]
          refine ⟨rfl, fun _ => ?_⟩
          rcases hp2 with rfl | rfl <;> decide
        · have hpk : ¬ p = k := fun h => hkp h.symm
          obtain ⟨x1, x2⟩ := m3 k hk
          simp only [hkp, if_false, hpk, decide_false, Bool.or_false]
          exact ⟨x1, x2⟩
    · refine ((((zOf.rf.sI ?_).sI ?_).sI ?_).sI ?_) <;> simp [gRes]
  by_cases hk : kn.testBit p = true
  · by_cases hs : zn (po.testBit p).toNat = p2
    · refine zCa.mk (r := 0) (σ1 := σ) (σ2 := σ) ?_ ?_ hI' zOf.rf
      · simp only [m_X8_result, h1, t0, t1, m_X0_tell, m_X0_tell_34, m_X0_tell_50, within_eq, zcl_some, zcv_some, zlt_eq, c1, g1, and_self, if_true, one, if_false, sl, c2, c3, znb_0 (show p < 31 by omega), hk, Bool.true_eq_false]
        cases hpb : po.testBit p
        · rw [hpb] at hs
          have : (0 : Int32) = p2 := hs
          simp [this, zcl_some, zcv_some, zlt_eq]
        · rw [hpb] at hs
          have : (1 : Int32) = p2 := hs
          simp [this, zcl_some, zcv_some, zlt_eq]
      · simp only [m_X9_result, zcl_some, zcv_some, zlt_eq, zT_64_69, zT_64_70, zN_105, zN_106, q, if_false, cl, g3, or_self, m1, g2, if_true, m4, zn_b0, hk, Bool.true_eq_false, m5 hk, hs]
    · exact anew (fun _ => hs)
  · exact anew (fun h => absurd h hk)
