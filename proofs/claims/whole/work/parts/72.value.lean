/-! the sum: what a line's steps come to -/
def isU (U : Nat) : Prop := U = 33 ∨ U = 43
theorem isU.c {U : Nat} (h : isU U) : zC U = 6 ∧ (zT U 2 = U + 1 ∧ zT U 3 = U + 2 ∧ zT U 4 = U + 3 ∧ zT U 5 = U + 4 ∧ zT U 6 = U + 5 ∧ zT U 7 = U + 6 ∧ zT U 8 = U + 7 ∧ zT U 9 = U + 8 ∧ zT U 10 = U + 9) ∧ (zN (U + 1) = 12 ∧ zN (U + 2) = 12 ∧ zN (U + 3) = 12 ∧ zN (U + 4) = 12 ∧ zN (U + 5) = 13 ∧ zN (U + 6) = 120 ∧ zN (U + 7) = 120 ∧ zN (U + 8) = 120 ∧ zN (U + 9) = 12) := by
  rcases h with rfl | rfl <;> exact ⟨rfl, ⟨rfl, rfl, rfl, rfl, rfl, rfl, rfl, rfl, rfl⟩, ⟨rfl, rfl, rfl, rfl, rfl, rfl, rfl, rfl, rfl⟩⟩
/-- kinds: 0 number, 1 line, 2 plus, 3 minus, 4 times, 5 over -/
def ckd (k : Nat) : Int32 := if k = 0 then 3 else if k = 1 then 2 else if k = 2 then 43 else if k = 3 then 45 else if k = 4 then 42 else 47
def mkd (k : Nat) : Int32 := if k = 0 then 0 else if k = 1 then 1 else if k = 2 then 20 else if k = 3 then 21 else if k = 4 then 22 else 23
def jnd (k : Nat) (a b : Int32) : Int32 := if k = 2 then a + b else if k = 3 then a - b else if k = 4 then a * b else if b = 0 then 0 else a / b
theorem kd_cases {k : Nat} (h : k < 6) : k = 0 ∨ k = 1 ∨ k = 2 ∨ k = 3 ∨ k = 4 ∨ k = 5 := by omega
theorem joined_eq {k : Nat} (h : k < 6) (h2 : 2 ≤ k) (a b : Int32) (s : zSt) : m_X6_joined (ckd k) a b s = some (jnd k a b, s) := by
  rcases (show k = 2 ∨ k = 3 ∨ k = 4 ∨ k = 5 by omega) with rfl | rfl | rfl | rfl
  · simp [m_X6_joined, ckd, jnd]
  · simp [m_X6_joined, ckd, jnd]
  · simp [m_X6_joined, ckd, jnd]
  · by_cases hb : b = 0
    · simp [m_X6_joined, ckd, jnd, hb]
    · simp [m_X6_joined, ckd, jnd, hb]
theorem worked_eq {k : Nat} (h : k < 6) (h2 : 2 ≤ k) (a b : Int32) (s : zSt) : m_X9_worked (mkd k) a b s = some (jnd k a b, s) := by
  rcases (show k = 2 ∨ k = 3 ∨ k = 4 ∨ k = 5 by omega) with rfl | rfl | rfl | rfl
  · simp [m_X9_worked, mkd, jnd]
  · simp [m_X9_worked, mkd, jnd]
  · simp [m_X9_worked, mkd, jnd]
  · by_cases hb : b = 0
    · simp [m_X9_worked, mkd, jnd, hb]
    · simp [m_X9_worked, mkd, jnd, hb]
def stp (st : Nat → Int32) (j : Nat) (v : Int32) : Nat → Int32 := fun k => if k = j then v else st k
def opv (kd : Nat) (v : Int32) (row : Nat → Int32) : Int32 := if kd = 0 then v else row v.toNatClampNeg
def evF (kd : Nat → Nat) (vl : Nat → Int32) (row : Nat → Int32) : Nat → Nat → (Nat → Int32) → Nat → Int32
  | 0, _, st, _ => st 0
  | d + 1, i, st, m => if kd i < 2 then evF kd vl row d (i + 1) (stp st m (opv (kd i) (vl i) row)) (m + 1) else evF kd vl row d (i + 1) (stp st (m - 2) (jnd (kd i) (st (m - 2)) (st (m - 1)))) (m - 1)
def wfF (kd : Nat → Nat) (vl : Nat → Int32) (l : Nat) : Nat → Nat → Nat → Prop
  | 0, _, m => m = 1
  | d + 1, i, m => kd i < 6 ∧ (kd i = 1 → ∃ r, r < l ∧ vl i = zn r) ∧ (if kd i < 2 then m < 60 ∧ wfF kd vl l d (i + 1) (m + 1) else 2 ≤ m ∧ wfF kd vl l d (i + 1) (m - 1))
theorem evF_congr {kd : Nat → Nat} {vl row row' : Nat → Int32} {l : Nat} (hl : l ≤ 12) (hr : ∀ k, k < l → row k = row' k) : ∀ (d i : Nat) (st : Nat → Int32) (m : Nat), wfF kd vl l d i m → evF kd vl row d i st m = evF kd vl row' d i st m := by
  intro d
  induction d with
  | zero => intro i st m _; rfl
  | succ d ih =>
    intro i st m hw
    obtain ⟨w1, w2, w3⟩ := hw
    unfold evF
    by_cases h : kd i < 2
    · rw [if_pos h] at w3
      rw [if_pos h, if_pos h]
      have : opv (kd i) (vl i) row = opv (kd i) (vl i) row' := by
        unfold opv
        by_cases h0 : kd i = 0
        · rw [if_pos h0, if_pos h0]
        · obtain ⟨r, hr1, hr2⟩ := w2 (by omega)
          rw [if_neg h0, if_neg h0, hr2, zn_cl (by omega)]
          exact hr r hr1
      rw [this]
      exact ih _ _ _ w3.2
    · rw [if_neg h] at w3
      rw [if_neg h, if_neg h]
      exact ih _ _ _ w3.2
theorem zn_m2 (m : Nat) : (zn (m + 2) + (-1)) - 1 = zn m := by
  rw [show m + 2 = (m + 1) + 1 from rfl, zn_m1, zn_pred]
theorem val_lp {U : Nat} (hU : isU U) {o2 l : Nat} (ho2 : o2 = U + 4 ∨ o2 = U + 9) (hl : l < 12) {kd : Nat → Nat} {vl row : Nat → Int32} {e : Nat} (he : e ≤ 120) : ∀ (d i f : Nat) (s : zSt) (st : Nat → Int32) (m : Nat), i + d = e → d < f → m ≤ 60 → zI s (U + 5) (l + 1) = zn e → (∀ k, i ≤ k → k < e → zI s (U + 6) k = ckd (kd k) ∧ zI s (U + 7) k = vl k) → (∀ k, k < l → zI s o2 k = row k) → (∀ k, k < m → zI s (U + 8) k = st k) → wfF kd vl l d i m → ∃ s', lp_X6_valueOf_10 U (zn l) o2 f (zn m) (zn i) s = some (evF kd vl row d i st m, s') ∧ zOf (fun o _ => o = U + 8) s s' := by
  obtain ⟨-, ⟨-, -, -, -, t6, t7, t8, t9, -⟩, ⟨-, -, -, n4, n5, n6, n7, n8, n9⟩⟩ := hU.c
  have no2 : zN o2 = 12 := by rcases ho2 with rfl | rfl <;> assumption
  have ho : o2 ≠ U + 8 := by omega
  have l2 : ¬ zn l + 1 < 0 := by rw [zn_succ]; exact zn_neg (by omega)
  have l3 : (zn l + 1).toNatClampNeg = l + 1 := by rw [zn_succ]; exact zn_cl (by omega)
  have l4 : ¬ 13 ≤ l + 1 := by omega
  intro d
  induction d with
  | zero =>
    intro i f s st m hi hf hm c5 c6 cr cs hw
    obtain ⟨f, rfl⟩ : ∃ g, f = g + 1 := ⟨f - 1, by omega⟩
    have h1 : ¬ zn i < zn e := by rw [zn_lt (by omega) (by omega)]; omega
    have hm1 : m = 1 := hw
    subst hm1
    refine ⟨s, ?_, zOf.rf⟩
    simp only [lp_X6_valueOf_10, bd_X6_valueOf_10, t6, t9, n5, n8, l2, l3, l4, or_self, if_false, c5, h1, show ¬ (0 : Int32) < 0 by decide, tc_0, show ¬ 120 ≤ 0 by decide, cs 0 (by omega), evF]
  | succ d ih =>
    intro i f s st m hi hf hm c5 c6 cr cs hw
    obtain ⟨f, rfl⟩ : ∃ g, f = g + 1 := ⟨f - 1, by omega⟩
    have h1 : zn i < zn e := by rw [zn_lt (by omega) (by omega)]; omega
    have h2 : ¬ zn i < 0 := zn_neg (by omega)
    have h3 : (zn i).toNatClampNeg = i := zn_cl (by omega)
    have h4 : ¬ 120 ≤ i := by omega
    obtain ⟨e1, e2⟩ := c6 i (by omega) (by omega)
    obtain ⟨w1, w2, w3⟩ := hw
    simp only [lp_X6_valueOf_10, bd_X6_valueOf_10, m_X6_valueOf_82, m_X6_valueOf_121, m_X6_valueOf_125, t6, t7, t8, t9, n5, n6, n7, n8, no2, l2, l3, l4, or_self, if_false, c5, h1, if_true, h2, h3, h4, e1, e2, zlt_eq]
    by_cases hk : kd i < 2
    · rw [if_pos hk] at w3
      have m1 : zn m < Int32.ofNat 120 := (zn_lt (a := m) (b := 120) (by omega) (by omega)).2 (by omega)
      have m2 : ¬ zn m < 0 := zn_neg (by omega)
      have m3 : (zn m).toNatClampNeg = m := zn_cl (by omega)
      have m4 : ¬ 120 ≤ m := by omega
      have go : ∀ v, v = opv (kd i) (vl i) row → ∃ s', lp_X6_valueOf_10 U (zn l) o2 f (zn m + 1) (zn i + 1) (zsI s (U + 8) m v) = some (evF kd vl row (d + 1) i st m, s') ∧ zOf (fun o _ => o = U + 8) s s' := by
        intro v hv
        rw [zn_succ, zn_succ]
        unfold evF
        rw [if_pos hk, ← hv]
        obtain ⟨s', g1, g2⟩ := ih (i + 1) f (zsI s (U + 8) m v) (stp st m v) (m + 1) (by omega) (by omega) (by omega) (by rw [zI_sI, if_neg (by omega)]; exact c5) (fun k hk1 hk2 => by
          rw [zI_sI, if_neg (by omega), zI_sI, if_neg (by omega)]
          exact c6 k (by omega) hk2) (fun k hk1 => by rw [zI_sI, if_neg (fun h => ho h.1)]; exact cr k hk1) (fun k hk1 => by
          rw [zI_sI]
          unfold stp
          by_cases hkm : k = m
          · rw [if_pos ⟨rfl, hkm⟩, if_pos hkm]
          · rw [if_neg (fun h => hkm h.2), if_neg hkm]
            exact cs k (by omega)) w3.2
        exact ⟨s', g1, (zOf.rf.sI (by rfl)).tr g2⟩
      by_cases h0 : kd i = 0
      · have k3 : ckd (kd i) = 3 := by rw [h0]; rfl
        simp only [k3, if_true, m1, m2, m3, m4, or_self, if_false]
        exact go _ (by unfold opv; rw [if_pos h0])
      · obtain ⟨r, hr1, hr2⟩ := w2 (by omega)
        have k1 : kd i = 1 := by omega
        have k2 : ckd (kd i) = 2 := by rw [k1]; rfl
        have r2 : ¬ zn r < 0 := zn_neg (by omega)
        have r3 : (zn r).toNatClampNeg = r := zn_cl (by omega)
        have r4 : ¬ 12 ≤ r := by omega
        simp only [k2, show ¬ (2 : Int32) = 3 by decide, if_true, m1, m2, m3, m4, or_self, if_false, hr2, r2, r3, r4]
        exact go _ (by unfold opv; rw [if_neg h0, hr2, r3]; exact cr r hr1)
    · rw [if_neg hk] at w3
      obtain ⟨m', rfl⟩ : ∃ m', m = m' + 2 := ⟨m - 2, by omega⟩
      have k3 : ¬ ckd (kd i) = 3 := by rcases (show kd i = 2 ∨ kd i = 3 ∨ kd i = 4 ∨ kd i = 5 by omega) with h | h | h | h <;> rw [h] <;> decide
      have k2 : ¬ ckd (kd i) = 2 := by rcases (show kd i = 2 ∨ kd i = 3 ∨ kd i = 4 ∨ kd i = 5 by omega) with h | h | h | h <;> rw [h] <;> decide
      have m1 : ¬ zn (m' + 2) < 2 := fun h => absurd ((zn_lt (a := m' + 2) (b := 2) (by omega) (by omega)).1 h) (by omega)
      have a1 : zn (m' + 2) + (-1) = zn (m' + 1) := zn_m1 (m' + 1)
      have m2 : ¬ zn m' < 0 := zn_neg (by omega)
      have m3 : (zn m').toNatClampNeg = m' := zn_cl (by omega)
      have m4 : ¬ 120 ≤ m' := by omega
      have m5 : ¬ zn (m' + 1) < 0 := zn_neg (by omega)
      have m6 : (zn (m' + 1)).toNatClampNeg = m' + 1 := zn_cl (by omega)
      have m7 : ¬ 120 ≤ m' + 1 := by omega
      simp only [k3, k2, if_false, m1, a1, zn_pred, m2, m3, m4, m5, m6, m7, or_self, joined_eq w1 (show 2 ≤ kd i by omega), zcl_some, cs m' (by omega), cs (m' + 1) (by omega), zlt_eq]
      rw [zn_succ]
      unfold evF
      rw [if_neg hk]
      obtain ⟨s', g1, g2⟩ := ih (i + 1) f (zsI s (U + 8) m' (jnd (kd i) (st m') (st (m' + 1)))) (stp st m' (jnd (kd i) (st m') (st (m' + 1)))) (m' + 1) (by omega) (by omega) (by omega) (by rw [zI_sI, if_neg (by omega)]; exact c5) (fun k hk1 hk2 => by
          rw [zI_sI, if_neg (by omega), zI_sI, if_neg (by omega)]
          exact c6 k (by omega) hk2) (fun k hk1 => by rw [zI_sI, if_neg (fun h => ho h.1)]; exact cr k hk1) (fun k hk1 => by
          rw [zI_sI]
          unfold stp
          by_cases hkm : k = m'
          · rw [if_pos ⟨rfl, hkm⟩, if_pos hkm]
          · rw [if_neg (fun h => hkm h.2), if_neg hkm]
            exact cs k (by omega)) w3.2
      exact ⟨s', g1, (zOf.rf.sI (by rfl)).tr g2⟩
theorem eof_lp {o2 l : Nat} (ho2 : o2 = 101 ∨ o2 = 104) (hl : l < 12) {kd : Nat → Nat} {vl row : Nat → Int32} {e : Nat} (he : e ≤ 120) : ∀ (d i f : Nat) (s : zSt) (st : Nat → Int32) (m : Nat), i + d = e → d < f → m ≤ 60 → zI s 100 (l + 1) = zn e → (∀ k, i ≤ k → k < e → zI s 98 k = mkd (kd k) ∧ zI s 99 k = vl k) → (∀ k, k < l → zI s o2 k = row k) → (∀ k, k < m → zI s 103 k = st k) → wfF kd vl l d i m → ∃ s', lp_X9_eOf_10 64 (zn l) o2 f (zn m) (zn i) s = some (evF kd vl row d i st m, s') ∧ zOf (fun o _ => o = 103) s s' := by
  have no2 : zN o2 = 12 := by rcases ho2 with rfl | rfl <;> rfl
  have ho : o2 ≠ 103 := by omega
  have l2 : ¬ zn l + 1 < 0 := by rw [zn_succ]; exact zn_neg (by omega)
  have l3 : (zn l + 1).toNatClampNeg = l + 1 := by rw [zn_succ]; exact zn_cl (by omega)
  have l4 : ¬ 13 ≤ l + 1 := by omega
  intro d
  induction d with
  | zero =>
    intro i f s st m hi hf hm c5 c6 cr cs hw
    obtain ⟨f, rfl⟩ : ∃ g, f = g + 1 := ⟨f - 1, by omega⟩
    have h1 : ¬ zn i < zn e := by rw [zn_lt (by omega) (by omega)]; omega
    have hm1 : m = 1 := hw
    subst hm1
    refine ⟨s, ?_, zOf.rf⟩
    simp only [lp_X9_eOf_10, bd_X9_eOf_10, zT_64_57, zT_64_60, zN_100, zN_103, l2, l3, l4, or_self, if_false, c5, h1, show ¬ (0 : Int32) < 0 by decide, tc_0, show ¬ 70 ≤ 0 by decide, cs 0 (by omega), evF]
  | succ d ih =>
    intro i f s st m hi hf hm c5 c6 cr cs hw
    obtain ⟨f, rfl⟩ : ∃ g, f = g + 1 := ⟨f - 1, by omega⟩
    have h1 : zn i < zn e := by rw [zn_lt (by omega) (by omega)]; omega
    have h2 : ¬ zn i < 0 := zn_neg (by omega)
    have h3 : (zn i).toNatClampNeg = i := zn_cl (by omega)
    have h4 : ¬ 300 ≤ i := by omega
    obtain ⟨e1, e2⟩ := c6 i (by omega) (by omega)
    obtain ⟨w1, w2, w3⟩ := hw
    simp only [lp_X9_eOf_10, bd_X9_eOf_10, m_X9_eOf_69, m_X9_eOf_111, zT_64_57, zT_64_55, zT_64_56, zT_64_60, zN_100, zN_98, zN_99, zN_103, no2, l2, l3, l4, or_self, if_false, c5, h1, if_true, h2, h3, h4, e1, e2, zlt_eq]
    by_cases hk : kd i < 2
    · rw [if_pos hk] at w3
      have m2 : ¬ zn m < 0 := zn_neg (by omega)
      have m3 : (zn m).toNatClampNeg = m := zn_cl (by omega)
      have m4 : ¬ 70 ≤ m := by omega
      have go : ∀ v, v = opv (kd i) (vl i) row → ∃ s', lp_X9_eOf_10 64 (zn l) o2 f (zn m + 1) (zn i + 1) (zsI s 103 m v) = some (evF kd vl row (d + 1) i st m, s') ∧ zOf (fun o _ => o = 103) s s' := by
        intro v hv
        rw [zn_succ, zn_succ]
        unfold evF
        rw [if_pos hk, ← hv]
        obtain ⟨s', g1, g2⟩ := ih (i + 1) f (zsI s 103 m v) (stp st m v) (m + 1) (by omega) (by omega) (by omega) (by rw [zI_sI, if_neg (by omega)]; exact c5) (fun k hk1 hk2 => by
          rw [zI_sI, if_neg (by omega), zI_sI, if_neg (by omega)]
          exact c6 k (by omega) hk2) (fun k hk1 => by rw [zI_sI, if_neg (fun h => ho h.1)]; exact cr k hk1) (fun k hk1 => by
          rw [zI_sI]
          unfold stp
          by_cases hkm : k = m
          · rw [if_pos ⟨rfl, hkm⟩, if_pos hkm]
          · rw [if_neg (fun h => hkm h.2), if_neg hkm]
            exact cs k (by omega)) w3.2
        exact ⟨s', g1, (zOf.rf.sI (by rfl)).tr g2⟩
      by_cases h0 : kd i = 0
      · have k3 : mkd (kd i) = 0 := by rw [h0]; rfl
        simp only [k3, if_true, show (0 : Int32) < 20 by decide, m2, m3, m4, or_self, if_false]
        exact go _ (by unfold opv; rw [if_pos h0])
      · obtain ⟨r, hr1, hr2⟩ := w2 (by omega)
        have k1 : kd i = 1 := by omega
        have k2 : mkd (kd i) = 1 := by rw [k1]; rfl
        have r2 : ¬ zn r < 0 := zn_neg (by omega)
        have r3 : (zn r).toNatClampNeg = r := zn_cl (by omega)
        have r4 : ¬ 12 ≤ r := by omega
        simp only [k2, show (1 : Int32) < 20 by decide, show ¬ (1 : Int32) = 0 by decide, if_true, m2, m3, m4, or_self, if_false, hr2, r2, r3, r4]
        exact go _ (by unfold opv; rw [if_neg h0, hr2, r3]; exact cr r hr1)
    · rw [if_neg hk] at w3
      obtain ⟨m', rfl⟩ : ∃ m', m = m' + 2 := ⟨m - 2, by omega⟩
      have k3 : ¬ mkd (kd i) < 20 := by rcases (show kd i = 2 ∨ kd i = 3 ∨ kd i = 4 ∨ kd i = 5 by omega) with h | h | h | h <;> rw [h] <;> decide
      have a1 : zn (m' + 2) + (-1) = zn (m' + 1) := zn_m1 (m' + 1)
      have m2 : ¬ zn m' < 0 := zn_neg (by omega)
      have m3 : (zn m').toNatClampNeg = m' := zn_cl (by omega)
      have m4 : ¬ 70 ≤ m' := by omega
      have m5 : ¬ zn (m' + 1) < 0 := zn_neg (by omega)
      have m6 : (zn (m' + 1)).toNatClampNeg = m' + 1 := zn_cl (by omega)
      have m7 : ¬ 70 ≤ m' + 1 := by omega
      simp only [k3, if_false, a1, zn_pred, m2, m3, m4, m5, m6, m7, or_self, worked_eq w1 (show 2 ≤ kd i by omega), zcl_some, cs m' (by omega), cs (m' + 1) (by omega), zlt_eq]
      rw [zn_succ]
      unfold evF
      rw [if_neg hk]
      obtain ⟨s', g1, g2⟩ := ih (i + 1) f (zsI s 103 m' (jnd (kd i) (st m') (st (m' + 1)))) (stp st m' (jnd (kd i) (st m') (st (m' + 1)))) (m' + 1) (by omega) (by omega) (by omega) (by rw [zI_sI, if_neg (by omega)]; exact c5) (fun k hk1 hk2 => by
          rw [zI_sI, if_neg (by omega), zI_sI, if_neg (by omega)]
          exact c6 k (by omega) hk2) (fun k hk1 => by rw [zI_sI, if_neg (fun h => ho h.1)]; exact cr k hk1) (fun k hk1 => by
          rw [zI_sI]
          unfold stp
          by_cases hkm : k = m'
          · rw [if_pos ⟨rfl, hkm⟩, if_pos hkm]
          · rw [if_neg (fun h => hkm h.2), if_neg hkm]
            exact cs k (by omega)) w3.2
      exact ⟨s', g1, (zOf.rf.sI (by rfl)).tr g2⟩
