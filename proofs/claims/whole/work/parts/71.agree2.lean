theorem out_cl {H : Nat} (hH : isH H) {s : zSt} {n : Nat} {lo hi : Nat → Int} (hC : rHoC H s n lo hi) (ok : okHo n lo hi) : m_X2_out H s = some (zn (obF n lo hi n 0 0 (n + 1)), s) := by
  unfold m_X2_out
  rw [hC.1, zn_succ]
  exact out_lp hH hC ok n 0 zFuel 0 (n + 1) (by omega) (by have := ok.1; unfold zFuel; omega) (by omega) (by have := ok.1; omega)
theorem outOf_eq {t : zSt} {n : Nat} {lo hi : Nat → Int} (hM : rHoM t n lo hi) (ok : okHo n lo hi) (hn : 1 ≤ n) : m_X9_outOf 64 t = some (zn (obF n lo hi n 0 0 (n + 1)), t) := by
  have h12 : 2 ^ n ≤ 4096 := pow_le (n := 12) ok.1
  unfold m_X9_outOf
  rw [hM.1, zn_full (by have := ok.1; omega)]
  have h := oo_lp hM ok (2 ^ n) 0 zFuel none (by omega) (by unfold zFuel; omega) (fun z hz => by cases hz)
  rw [(out_eq ok hn).1, enc_some] at h
  exact h
def iHo (H : Nat) (σ : zSt) : Prop := ∃ (n : Nat) (lo hi : Nat → Int) (E : Nat → Nat → Bool), rHoC H σ n lo hi ∧ rHoM σ n lo hi ∧ okHo n lo hi ∧ sh2 σ (H + 2) (H + 3) n E ∧ sh2 σ 87 88 n E ∧ ∀ x y, E x y = E y x
theorem call_agree {σ : zSt} {H : Nat} (hH : isH H) (h1 : zR σ 0 4 = H) (hI : iHo H σ) (p1 : Int32) : zCa (fun _ => True) (fun o _ => o = H + 6) (m_X8_agree 0 p1) (m_X9_agree 64 p1) σ := by
  obtain ⟨n, lo, hi, E, hC, hM, ok, hE1, hE2, hsy⟩ := hI
  have hcl := hH.c.1
  have n12 := ok.1
  have h12 : 2 ^ n ≤ 4096 := pow_le (n := 12) n12
  by_cases h0 : n = 0
  · subst h0
    have e1 : zI σ H 0 = 0 := hC.1
    have e2 : zI σ 64 49 = 0 := hM.1
    refine zCa.mk (r := -1) (σ1 := σ) (σ2 := σ) ?_ ?_ trivial zOf.rf
    · simp only [m_X8_agree, h1, hcl, if_true, e1]
    · simp only [m_X9_agree, e2, if_true]
  have hn : 1 ≤ n := by omega
  have z1 : ¬ zn n = 0 := fun h => h0 ((zn_inj (b := 0) (by omega) (by omega)).1 h)
  have e1 : zI σ H 0 = zn n := hC.1
  have e2 : zI σ 64 49 = zn n := hM.1
  by_cases q0 : p1 = 0
  · refine zCa.mk (σ1 := σ) (σ2 := σ) (r := zi (mval (mfr (2 ^ n - 1) lo n 0 (-100000)) (mto (2 ^ n - 1) hi n 0 100000))) ?_ ?_ trivial zOf.rf
    · simp only [m_X8_agree, h1, hcl, if_true, e1, z1, if_false, q0, more_eq hH hC ok hn, zcl_some]
    · simp only [m_X9_agree, e2, z1, if_false, q0, if_true, zn_full (show n < 31 by omega), (moreOf_eq hM ok (set := 2 ^ n - 1) (by omega)).1, zcl_some]
  by_cases q1 : p1 = 1
  · refine zCa.mk (σ1 := σ) (σ2 := σ) (r := zn (obF n lo hi n 0 0 (n + 1))) ?_ ?_ trivial zOf.rf
    · simp only [m_X8_agree, h1, hcl, if_true, e1, z1, if_false, q1, show ¬ (1 : Int32) = 0 by decide, out_cl hH hC ok, zcl_some]
    · simp only [m_X9_agree, e2, z1, if_false, q1, show ¬ (1 : Int32) = 0 by decide, if_true, outOf_eq hM ok hn, zcl_some]
  by_cases q2 : p1 = 2
  · have hl := (out_eq ok hn).2
    refine zCa.mk (σ1 := σ) (σ2 := σ) (r := zn n - zn (pc (obF n lo hi n 0 0 (n + 1)))) ?_ ?_ trivial zOf.rf
    · simp only [m_X8_agree, h1, hcl, if_true, e1, z1, if_false, q2, show ¬ (2 : Int32) = 0 by decide, show ¬ (2 : Int32) = 1 by decide, out_cl hH hC ok, zcl_some, bitCount_eq hl]
    · simp only [m_X9_agree, e2, z1, if_false, q2, show ¬ (2 : Int32) = 0 by decide, show ¬ (2 : Int32) = 1 by decide, if_true, outOf_eq hM ok hn, zcl_some, ones_eq (show obF n lo hi n 0 0 (n + 1) < 2147483648 by omega)]
  by_cases q3 : p1 = 3
  · obtain ⟨s', p, g1, g2, g3⟩ := apart_eq hH n12 hsy e1 hE1
    have k49 : ∀ o k, 64 ≤ o → zI s' o k = zI σ o k ∧ zL s' o k = zL σ o k := fun o k ho => by
      have := g3 o k (by rcases hH with rfl | rfl <;> omega)
      exact ⟨this.1, this.2.1⟩
    have g4 := partsOf_eq n12 hsy g2 ((k49 64 49 (by omega)).1.trans e2) (hE2.of (fun o k ho => (k49 o k (by omega)).2))
    refine zCa.mk (σ1 := s') (σ2 := s') (r := zn (cus n p n)) ?_ ?_ trivial g3
    · simp only [m_X8_agree, h1, hcl, if_true, e1, z1, if_false, q3, show ¬ (3 : Int32) = 0 by decide, show ¬ (3 : Int32) = 1 by decide, show ¬ (3 : Int32) = 2 by decide, g1, zcl_some]
    · simp only [m_X9_agree, (k49 64 49 (by omega)).1.trans e2, z1, if_false, q3, show ¬ (3 : Int32) = 0 by decide, show ¬ (3 : Int32) = 1 by decide, show ¬ (3 : Int32) = 2 by decide, if_true, g4, zcl_some]
  · refine zCa.mk (σ1 := σ) (σ2 := σ) (r := -1) ?_ ?_ trivial zOf.rf
    · simp only [m_X8_agree, h1, hcl, if_true, e1, z1, if_false, q0, q1, q2, q3]
    · simp only [m_X9_agree, e2, z1, if_false, q0, q1, q2, q3]
