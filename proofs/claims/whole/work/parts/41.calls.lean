theorem zcl_some {α β : Type} (a : α) (s : zSt) (f : α → zSt → Option β) : zcl (some (a, s)) f = f a s := id rfl
theorem zcv_some {β : Type} (s : zSt) (f : zSt → Option β) : zcv (some s) f = f s := id rfl
theorem zlt_eq {α β : Type} (a : α) (f : α → Option β) : zlt a f = f a := id rfl
def zCa {α : Type} (I : zSt → Prop) (W : Nat → Nat → Prop) (c m : zSt → Option (α × zSt)) (σ : zSt) : Prop := zHo (c σ) fun a => zHo (m a.2) fun b => a.1 = b.1 ∧ I b.2 ∧ zOf W σ b.2
theorem zCa.mk {α : Type} {I : zSt → Prop} {W : Nat → Nat → Prop} {c m : zSt → Option (α × zSt)} {σ σ1 σ2 : zSt} {r : α} (h1 : c σ = some (r, σ1)) (h2 : m σ1 = some (r, σ2)) (h3 : I σ2) (h4 : zOf W σ σ2) : zCa I W c m σ := ⟨(r, σ1), h1, (r, σ2), h2, rfl, h3, h4⟩
theorem within_eq (p a b : Int32) (s : zSt) : m_X8_within p a b s = some (if a ≤ p ∧ p ≤ b then 1 else 0, s) := by
  unfold m_X8_within
  split
  · rw [if_neg (by grind)]
  · split
    · rw [if_neg (by grind)]
    · rw [if_pos (by grind)]
theorem isSide_eq (p : Int32) (s : zSt) : m_X9_isSide p s = some (if -1 ≤ p ∧ p ≤ 1 then 1 else 0, s) := by
  unfold m_X9_isSide
  split
  · rw [if_neg (by grind)]
  · split
    · rw [if_neg (by grind)]
    · rw [if_pos (by grind)]
/-! readings -/
def gRead (o k : Nat) : Prop := (53 ≤ o ∧ o ≤ 58) ∨ (73 ≤ o ∧ o ≤ 77) ∨ (o = 64 ∧ (k = 30 ∨ k = 31))
def pRead (a b : Int32) (lo hi : Int32) : Prop := a = b ∧ lo ≤ b ∧ b ≤ hi
def iRead (σ : zSt) : Prop := ∃ n t : Nat, (n ≤ 40 ∧ t ≤ 100000) ∧ (zI σ 53 0 = zn n ∧ zI σ 64 30 = zn n) ∧ (zI σ 53 1 = zn t ∧ zI σ 64 31 = zn t) ∧ ∀ k : Nat, k < n → pRead (zI σ 54 k) (zI σ 73 k) 0 199 ∧ pRead (zI σ 55 k) (zI σ 74 k) (-1) 1 ∧ pRead (zI σ 56 k) (zI σ 75 k) (-999) 999 ∧ zI σ 57 k = zI σ 76 k ∧ zI σ 58 k = zI σ 77 k ∧ -1 ≤ zI σ 77 k
theorem iRead.of {σ σ' : zSt} (h : iRead σ) (e : ∀ o k, gRead o k → zI σ' o k = zI σ o k) : iRead σ' := by
  unfold iRead at h ⊢
  simpa only [e 53 0 (by simp [gRead]), e 64 30 (by simp [gRead]), e 53 1 (by simp [gRead]), e 64 31 (by simp [gRead]), fun k => e 54 k (by simp [gRead]), fun k => e 55 k (by simp [gRead]), fun k => e 56 k (by simp [gRead]), fun k => e 57 k (by simp [gRead]), fun k => e 58 k (by simp [gRead]), fun k => e 73 k (by simp [gRead]), fun k => e 74 k (by simp [gRead]), fun k => e 75 k (by simp [gRead]), fun k => e 76 k (by simp [gRead]), fun k => e 77 k (by simp [gRead])] using h
theorem call_reading {σ : zSt} (h : iRead σ) (p1 p2 p3 : Int32) : zCa iRead gRead (m_X8_reading 0 p1 p2 p3) (m_X9_reading 64 p1 p2 p3) σ := by
  have h' := h
  obtain ⟨n, t, ⟨hn, ht⟩, ⟨c1, m1⟩, ⟨c2, m2⟩, hk⟩ := h
  have cl : (zn n).toNatClampNeg = n := zn_cl (by omega)
  have ng : ¬ zn n < 0 := zn_neg (by omega)
  by_cases g : ((0 ≤ p1 ∧ p1 ≤ 199) ∧ (-1 ≤ p2 ∧ p2 ≤ 1) ∧ (-999 ≤ p3 ∧ p3 ≤ 999)) ∧ n < 40
  · obtain ⟨⟨g1, g2, g3⟩, g4⟩ := g
    have l40 : zn n < 40 := (zn_lt (b := 40) (by omega) (by omega)).2 g4
    have n40 : ¬ zn n = 40 := fun hc => absurd ((zn_inj (b := 40) (by omega) (by omega)).1 hc) (by omega)
    have q1 : ¬ p1 < 0 := by grind
    have q2 : ¬ 199 < p1 := by grind
    have q3 : ¬ p3 < -999 := by grind
    have q4 : ¬ 999 < p3 := by grind
    refine zCa.mk (r := zn n) (σ1 := zsI (zsI (zsI (zsI (zsI (zsI σ 54 n p1) 55 n p2) 56 n p3) 57 n (zn t)) 58 n (-1)) 53 0 (zn (n + 1))) (σ2 := zsI (zsI (zsI (zsI (zsI (zsI (zsI (zsI (zsI (zsI (zsI (zsI σ 54 n p1) 55 n p2) 56 n p3) 57 n (zn t)) 58 n (-1)) 53 0 (zn (n + 1))) 73 n p1) 74 n p2) 75 n p3) 76 n (zn t)) 77 n (-1)) 64 30 (zn (n + 1))) ?_ ?_ ?_ ?_
    · simp only [m_X8_reading, m_X4_tell, within_eq, zcl_some, zlt_eq, zT_0_8, zT_53_2, zT_53_3, zT_53_4, zT_53_5, zT_53_6, zN_54, zN_55, zN_56, zN_57, zN_58, g1, g2, g3, zI_sI, zI_sL, zI_sR, zL_sI, zL_sL, zL_sR, zR_sI, zR_sL, zR_sR, c1, c2, cl, ng, l40, zn_succ, zn_pred]
      simp [Nat.not_le.mpr g4, zcl_some, zcv_some, zlt_eq, zI_sI, zI_sL, zI_sR, zL_sI, zL_sL, zL_sR, zR_sI, zR_sL, zR_sR, c1, c2, cl, ng, zn_succ, zn_pred]
    · simp only [m_X9_reading, isSide_eq, zcl_some, zlt_eq, zT_64_0, zT_64_11, zT_64_12, zT_64_13, zT_64_14, zT_64_15, zT_64_16, zT_64_17, zT_64_25, zT_64_26, zT_64_27, zT_64_28, zT_64_29, zT_64_32, zT_64_33, zT_64_34, zT_64_35, zT_64_37, zT_64_38, zT_64_39, zT_64_40, zT_64_41, zT_64_42, zT_64_43, zT_64_44, zT_64_45, zT_64_46, zT_64_47, zT_64_50, zT_64_51, zT_64_52, zT_64_53, zT_64_54, zT_64_55, zT_64_56, zT_64_57, zT_64_58, zT_64_59, zT_64_60, zT_64_61, zT_64_69, zT_64_70, zT_64_71, zN_73, zN_74, zN_75, zN_76, zN_77, q1, q2, q3, q4, g2, zI_sI, zI_sL, zI_sR, zL_sI, zL_sL, zL_sR, zR_sI, zR_sL, zR_sR, m1, m2, cl, ng, n40, zn_succ, zn_pred]
      simp [Nat.not_le.mpr g4, zcl_some, zcv_some, zlt_eq, zI_sI, zI_sL, zI_sR, zL_sI, zL_sL, zL_sR, zR_sI, zR_sL, zR_sR, m1, m2, cl, ng, n40, zn_succ, zn_pred]
    · refine ⟨n + 1, t, ⟨by omega, ht⟩, by simp [zI_sI, zI_sL, zI_sR, zL_sI, zL_sL, zL_sR, zR_sI, zR_sL, zR_sR], by simp [zI_sI, zI_sL, zI_sR, zL_sI, zL_sL, zL_sR, zR_sI, zR_sL, zR_sR, c2, m2], fun k hk1 => ?_⟩
      by_cases hkn : k = n
      · subst hkn
        simp only [zI_sI, zI_sL, zI_sR, zL_sI, zL_sL, zL_sR, zR_sI, zR_sL, zR_sR]
        simp [pRead, g1, g2, g3]
      · have := hk k (by omega)
        simp only [zI_sI, zI_sL, zI_sR, zL_sI, zL_sL, zL_sR, zR_sI, zR_sL, zR_sR]
        simpa [hkn] using this
    · refine ((((((((((((zOf.rf.sI ?_).sI ?_).sI ?_).sI ?_).sI ?_).sI ?_).sI ?_).sI ?_).sI ?_).sI ?_).sI ?_).sI ?_) <;> simp [gRead]
  · refine zCa.mk (r := -1) (σ1 := σ) (σ2 := σ) ?_ ?_ h' zOf.rf
    · have l40 : ¬ n < 40 → ¬ zn n < 40 := fun hc hd => hc ((zn_lt (b := 40) (by omega) (by omega)).1 hd)
      simp only [m_X8_reading, m_X4_tell, within_eq, zcl_some, zlt_eq, zT_0_8, c1]
      by_cases g1 : 0 ≤ p1 ∧ p1 ≤ 199
      · by_cases g2 : -1 ≤ p2 ∧ p2 ≤ 1
        · by_cases g3 : -999 ≤ p3 ∧ p3 ≤ 999
          · have := l40 (fun hc => g ⟨⟨g1, g2, g3⟩, hc⟩)
            simp [g1, g2, g3, this, zcl_some]
          · simp [g1, g2, g3, zcl_some]
        · simp [g1, g2, zcl_some]
      · simp [g1, zcl_some]
    · have l40 : ¬ n < 40 → zn n = 40 := fun hc => (zn_inj (b := 40) (by omega) (by omega)).2 (by omega)
      simp only [m_X9_reading, isSide_eq, zcl_some, zlt_eq, m1]
      by_cases q1 : p1 < 0
      · simp [q1]
      by_cases q2 : 199 < p1
      · simp [q1, q2]
      by_cases g2 : -1 ≤ p2 ∧ p2 ≤ 1
      · by_cases q3 : p3 < -999
        · simp [q1, q2, g2, q3]
        by_cases q4 : 999 < p3
        · simp [q1, q2, g2, q3, q4]
        have := l40 (fun hc => g ⟨⟨by grind, g2, by grind⟩, hc⟩)
        simp [q1, q2, g2, q3, q4, this]
      · simp [q1, q2, g2]
theorem zn_le1 {n j : Nat} (hn : n < 2147483648) (hj : j < 2147483648) : (zn j ≤ zn n - 1) ↔ j < n := by
  have h1 := zn_int hn
  have h2 := zn_int hj
  rw [Int32.le_iff_toInt_le, Int32.toInt_sub, h1, h2]
  have : (1 : Int32).toInt = 1 := rfl
  rw [this, Int.bmod_eq_of_le (by omega) (by omega)]
  omega
theorem zn_nn {j : Nat} (hj : j < 2147483648) : 0 ≤ zn j := by
  rw [Int32.le_iff_toInt_le, zn_int hj]
  have : (0 : Int32).toInt = 0 := rfl
  omega
theorem call_untell {σ : zSt} (h : iRead σ) (p1 : Int32) : zCa iRead gRead (m_X8_untell 0 p1) (m_X9_untell 64 p1) σ := by
  have h' := h
  obtain ⟨n, t, ⟨hn, ht⟩, ⟨c1, m1⟩, ⟨c2, m2⟩, hk⟩ := h
  by_cases q : p1 < 0
  · refine zCa.mk (r := 0) (σ1 := σ) (σ2 := σ) ?_ ?_ h' zOf.rf
    · have : ¬ (0 ≤ p1 ∧ p1 ≤ zn n - 1) := by grind
      simp [m_X8_untell, m_X4_takeBack, within_eq, zcl_some, zcv_some, zlt_eq, zT_0_8, c1, this]
    · simp [m_X9_untell, q]
  obtain ⟨j, hj, rfl⟩ := zn_of q
  have cl : (zn j).toNatClampNeg = j := zn_cl hj
  by_cases g : j < n
  · have g1 : 0 ≤ zn j ∧ zn j ≤ zn n - 1 := ⟨zn_nn hj, (zn_le1 (by omega) hj).2 g⟩
    have g2 : zn j < zn n := (zn_lt hj (by omega)).2 g
    have g3 : ¬ 40 ≤ j := by omega
    obtain ⟨-, -, -, -, k5, k6⟩ := hk j g
    by_cases u : zI σ 77 j = -1
    · refine zCa.mk (r := 1) (σ1 := zsI σ 58 j (zn t)) (σ2 := zsI (zsI σ 58 j (zn t)) 77 j (zn t)) ?_ ?_ ?_ ?_
      · simp [m_X8_untell, m_X4_takeBack, within_eq, zcl_some, zcv_some, zlt_eq, zT_0_8, zT_53_6, zN_58, c1, c2, g1, q, cl, g3, k5, u]
      · have : (-1 : Int32) < 0 := by decide
        simp [m_X9_untell, zcl_some, zcv_some, zlt_eq, zT_64_29, zN_77, zI_sI, zI_sL, zI_sR, zL_sI, zL_sL, zL_sR, zR_sI, zR_sL, zR_sR, m1, m2, g2, q, cl, g3, u, this]
      · refine ⟨n, t, ⟨hn, ht⟩, by simp [zI_sI, zI_sL, zI_sR, zL_sI, zL_sL, zL_sR, zR_sI, zR_sL, zR_sR, c1, m1], by simp [zI_sI, zI_sL, zI_sR, zL_sI, zL_sL, zL_sR, zR_sI, zR_sL, zR_sR, c2, m2], fun k hk1 => ?_⟩
        have := hk k hk1
        by_cases hkn : k = j
        · subst hkn
          simp only [zI_sI, zI_sL, zI_sR, zL_sI, zL_sL, zL_sR, zR_sI, zR_sL, zR_sR]
          have h0 : (-1 : Int32) ≤ zn t := by have := zn_nn (j := t) (by omega); grind
          simp [h0]
          exact ⟨this.1, this.2.1, this.2.2.1, this.2.2.2.1⟩
        · simp only [zI_sI, zI_sL, zI_sR, zL_sI, zL_sL, zL_sR, zR_sI, zR_sL, zR_sR]
          simpa [hkn] using this
      · refine ((zOf.rf.sI ?_).sI ?_) <;> simp [gRead]
    · refine zCa.mk (r := 0) (σ1 := σ) (σ2 := σ) ?_ ?_ h' zOf.rf
      · simp [m_X8_untell, m_X4_takeBack, within_eq, zcl_some, zcv_some, zlt_eq, zT_0_8, zT_53_6, zN_58, c1, c2, g1, q, cl, g3, k5, u]
      · have : ¬ zI σ 77 j < 0 := by grind
        simp [m_X9_untell, zcl_some, zcv_some, zlt_eq, zT_64_29, zN_77, zI_sI, zI_sL, zI_sR, zL_sI, zL_sL, zL_sR, zR_sI, zR_sL, zR_sR, m1, m2, g2, q, cl, g3, this]
  · refine zCa.mk (r := 0) (σ1 := σ) (σ2 := σ) ?_ ?_ h' zOf.rf
    · have : ¬ (0 ≤ zn j ∧ zn j ≤ zn n - 1) := fun hc => g ((zn_le1 (by omega) hj).1 hc.2)
      simp [m_X8_untell, m_X4_takeBack, within_eq, zcl_some, zcv_some, zlt_eq, zT_0_8, c1, this]
    · have : ¬ zn j < zn n := fun hc => g ((zn_lt hj (by omega)).1 hc)
      simp [m_X9_untell, q, m1, this]
theorem call_later {σ : zSt} (h : iRead σ) (p1 : Int32) : zCa iRead gRead (m_X8_later 0 p1) (m_X9_later 64 p1) σ := by
  have h' := h
  obtain ⟨n, t, ⟨hn, ht⟩, ⟨c1, m1⟩, ⟨c2, m2⟩, hk⟩ := h
  by_cases g1 : 0 ≤ p1 ∧ p1 ≤ 1000
  · have q1 : ¬ p1 < 0 := by grind
    have q2 : ¬ 1000 < p1 := by grind
    obtain ⟨j, hj, rfl⟩ := zn_of q1
    have hj2 : j ≤ 1000 := (zn_le (b := 1000) hj (by omega)).1 g1.2
    by_cases g2 : 100000 < t + j
    · have g3 : (100000 : Int32) < zn t + zn j := by rw [zn_add]; exact (zn_lt (a := 100000) (by omega) (by omega)).2 g2
      refine zCa.mk (r := -1) (σ1 := σ) (σ2 := σ) ?_ ?_ h' zOf.rf
      · simp [m_X8_later, m_X4_goOn, within_eq, zcl_some, zcv_some, zlt_eq, zT_0_8, c2, g1, g3]
      · simp [m_X9_later, zcl_some, zcv_some, zlt_eq, m2, q1, q2, g3]
    · have g3 : ¬ (100000 : Int32) < zn t + zn j := by rw [zn_add]; exact fun hc => g2 ((zn_lt (a := 100000) (by omega) (by omega)).1 hc)
      refine zCa.mk (r := zn (t + j)) (σ1 := zsI σ 53 1 (zn (t + j))) (σ2 := zsI (zsI σ 53 1 (zn (t + j))) 64 31 (zn (t + j))) ?_ ?_ ?_ ?_
      · rw [zn_add] at g3
        simp [m_X8_later, m_X4_goOn, within_eq, zcl_some, zcv_some, zlt_eq, zT_0_8, c2, g1, g3, zn_add, zI_sI, zI_sL, zI_sR, zL_sI, zL_sL, zL_sR, zR_sI, zR_sL, zR_sR]
      · rw [zn_add] at g3
        simp [m_X9_later, zcl_some, zcv_some, zlt_eq, m2, q1, q2, g3, zn_add, zI_sI, zI_sL, zI_sR, zL_sI, zL_sL, zL_sR, zR_sI, zR_sL, zR_sR]
      · refine ⟨n, t + j, ⟨hn, by omega⟩, by simp [zI_sI, zI_sL, zI_sR, zL_sI, zL_sL, zL_sR, zR_sI, zR_sL, zR_sR, c1, m1], by simp [zI_sI, zI_sL, zI_sR, zL_sI, zL_sL, zL_sR, zR_sI, zR_sL, zR_sR], fun k hk1 => ?_⟩
        have := hk k hk1
        simp only [zI_sI, zI_sL, zI_sR, zL_sI, zL_sL, zL_sR, zR_sI, zR_sL, zR_sR]
        simpa using this
      · refine ((zOf.rf.sI ?_).sI ?_) <;> simp [gRead]
  · refine zCa.mk (r := -1) (σ1 := σ) (σ2 := σ) ?_ ?_ h' zOf.rf
    · simp [m_X8_later, m_X4_goOn, within_eq, zcl_some, zcv_some, zlt_eq, zT_0_8, g1]
    · by_cases q1 : p1 < 0
      · simp [m_X9_later, q1]
      · have q2 : 1000 < p1 := by grind
        simp [m_X9_later, q1, q2]
/-! faults -/
def gFault (o k : Nat) : Prop := (o = 3 ∧ (k = 10 ∨ k = 11)) ∨ (o = 64 ∧ (k = 2 ∨ k = 3))
def iFault (σ : zSt) : Prop := zI σ 3 10 = zI σ 64 2 ∧ zI σ 3 11 = zI σ 64 3
theorem iFault.of {σ σ' : zSt} (h : iFault σ) (e : ∀ o k, gFault o k → zI σ' o k = zI σ o k) : iFault σ' := by
  unfold iFault at h ⊢
  simpa only [e 3 10 (by simp [gFault]), e 3 11 (by simp [gFault]), e 64 2 (by simp [gFault]), e 64 3 (by simp [gFault])] using h
theorem call_fault {σ : zSt} (h : iFault σ) (p1 : Int32) : zCa iFault gFault (m_X8_fault 0 p1) (m_X9_fault 64 p1) σ := by
  obtain ⟨h1, h2⟩ := id h
  by_cases q : p1 = 0
  · exact zCa.mk (r := zI σ 3 10) (σ1 := σ) (by simp [m_X8_fault, q, zT_0_1]) (by simp [m_X9_fault, q, h1]) h zOf.rf
  by_cases q1 : p1 = 1
  · exact zCa.mk (r := zI σ 3 11) (σ1 := σ) (by simp [m_X8_fault, q, q1, zT_0_1]) (by simp [m_X9_fault, q, q1, h2]) h zOf.rf
  · exact zCa.mk (r := -1) (σ1 := σ) (by simp [m_X8_fault, q, q1]) (by simp [m_X9_fault, q, q1]) h zOf.rf
