/-! houses: what each lets -/
theorem zi_div {a b : Int} (ha : zib a) (hb : zib b) : zi a / zi b = zi (a.tdiv b) := by
  rw [← Int32.toInt_inj, Int32.toInt_div, zi_int ha, zi_int hb]
  have h := tdiv_abs a b
  unfold zib at ha
  rw [zi_int (by unfold zib; omega)]
  exact Int.bmod_eq_of_le (by omega) (by omega)
theorem zi_half {a : Int} (ha : zib a) : zi a >>> ((1 : Int32) &&& 31) = zi (a / 2) := by
  unfold zib at ha
  rw [← Int32.toInt_inj, zi_int (by unfold zib; omega)]
  have h1 : (zi a >>> ((1 : Int32) &&& 31)).toInt = ((zi a).toBitVec.sshiftRight 1).toInt := rfl
  rw [h1, BitVec.toInt_sshiftRight]
  have h2 : (zi a).toBitVec.toInt = a := zi_int (by unfold zib; omega)
  rw [h2, Int.shiftRight_eq_div_pow]
  rfl
def isH (H : Nat) : Prop := H = 19 ∨ H = 26
theorem isH.c {H : Nat} (h : isH H) : zC H = 2 ∧ (zT H 1 = H + 1 ∧ zT H 2 = H + 2 ∧ zT H 3 = H + 3 ∧ zT H 4 = H + 4 ∧ zT H 5 = H + 5 ∧ zT H 6 = H + 6) ∧ (zN (H + 1) = 12 ∧ zN (H + 2) = 12 ∧ zN (H + 3) = 12 ∧ zN (H + 4) = 12 ∧ zN (H + 5) = 12 ∧ zN (H + 6) = 12) := by
  rcases h with rfl | rfl <;> exact ⟨rfl, ⟨rfl, rfl, rfl, rfl, rfl, rfl⟩, ⟨rfl, rfl, rfl, rfl, rfl, rfl⟩⟩
def okHo (n : Nat) (lo hi : Nat → Int) : Prop := n ≤ 12 ∧ ∀ k : Nat, k < n → -999 ≤ lo k ∧ lo k ≤ hi k ∧ hi k ≤ 10998
def rHoC (H : Nat) (s : zSt) (n : Nat) (lo hi : Nat → Int) : Prop := zI s H 0 = zn n ∧ ∀ k : Nat, k < n → zI s (H + 4) k = zi (lo k) ∧ zI s (H + 5) k = zi (hi k)
def rHoM (t : zSt) (n : Nat) (lo hi : Nat → Int) : Prop := zI t 64 49 = zn n ∧ ∀ k : Nat, k < n → zI t 91 k - zI t 92 k = zi (lo k) ∧ zI t 91 k + zI t 92 k = zi (hi k)
def mfr (set : Nat) (lo : Nat → Int) : Nat → Nat → Int → Int
  | 0, _, a => a
  | d + 1, i, a => mfr set lo d (i + 1) (if set.testBit i then max a (lo i) else a)
def mto (set : Nat) (hi : Nat → Int) : Nat → Nat → Int → Int
  | 0, _, a => a
  | d + 1, i, a => mto set hi d (i + 1) (if set.testBit i then min a (hi i) else a)
def hB (a : Int) : Prop := -100000 ≤ a ∧ a ≤ 100000
theorem more_model {t : zSt} {n : Nat} {lo hi : Nat → Int} (hM : rHoM t n lo hi) (ok : okHo n lo hi) {set : Nat} (hs : set < 2147483648) {k : Int32 → Int32 → zSt → Option (Int32 × zSt)} : ∀ (d i f : Nat) (a b : Int), i + d = n → d < f → hB a → hB b → lp_X9_moreOf_11 64 (zn set) k f (zi a) (zi b) (zn i) t = k (zi (mfr set lo d i a)) (zi (mto set hi d i b)) t ∧ hB (mfr set lo d i a) ∧ hB (mto set hi d i b) := by
  obtain ⟨c0, c1⟩ := hM
  obtain ⟨k0, k1⟩ := ok
  intro d
  induction d with
  | zero =>
    intro i f a b hi' hf ha hb
    obtain ⟨f, rfl⟩ : ∃ g, f = g + 1 := ⟨f - 1, by omega⟩
    have : ¬ zn i < zn n := by rw [zn_lt (by omega) (by omega)]; omega
    refine ⟨?_, ha, hb⟩
    simp only [lp_X9_moreOf_11, bd_X9_moreOf_11, c0, this, if_false, mfr, mto]
  | succ d ih =>
    intro i f a b hi' hf ha hb
    obtain ⟨f, rfl⟩ : ∃ g, f = g + 1 := ⟨f - 1, by omega⟩
    have h1 : zn i < zn n := by rw [zn_lt (by omega) (by omega)]; omega
    have h2 : ¬ zn i < 0 := zn_neg (by omega)
    have h3 : (zn i).toNatClampNeg = i := zn_cl (by omega)
    have h4 : ¬ 12 ≤ i := by omega
    obtain ⟨e1, e2⟩ := c1 i (by omega)
    obtain ⟨q1, q2, q3⟩ := k1 i (by omega)
    unfold hB at ha hb
    have l1 : zi a < zi (lo i) ↔ a < lo i := zi_lt (by unfold zib; omega) (by unfold zib; omega)
    have l2 : zi (hi i) < zi b ↔ hi i < b := zi_lt (by unfold zib; omega) (by unfold zib; omega)
    simp only [lp_X9_moreOf_11, bd_X9_moreOf_11, m_X9_moreOf_70, m_X9_moreOf_109, m_X9_moreOf_110, c0, h1, if_true, zn_shr hs (show i < 32 by omega), zn_b0, zT_64_46, zT_64_47, zN_91, zN_92, h2, h3, h4, or_self, if_false, e1, e2, l1, l2, zn_succ, mfr, mto]
    cases hb' : set.testBit i
    · simp only [if_true, Bool.false_eq_true, if_false]
      exact ih (i + 1) f a b (by omega) (by omega) ha hb
    · simp only [Bool.true_eq_false, if_false, if_true]
      have m1 : max a (lo i) = if a < lo i then lo i else a := by split <;> omega
      have m2 : min b (hi i) = if hi i < b then hi i else b := by split <;> omega
      rw [m1, m2]
      by_cases x1 : a < lo i
      · by_cases x2 : hi i < b
        · simp only [x1, x2, if_true]
          exact ih (i + 1) f _ _ (by omega) (by omega) (by unfold hB; omega) (by unfold hB; omega)
        · simp only [x1, x2, if_true, if_false]
          exact ih (i + 1) f _ _ (by omega) (by omega) (by unfold hB; omega) (by unfold hB; omega)
      · by_cases x2 : hi i < b
        · simp only [x1, x2, if_true, if_false]
          exact ih (i + 1) f _ _ (by omega) (by omega) (by unfold hB; omega) (by unfold hB; omega)
        · simp only [x1, x2, if_false]
          exact ih (i + 1) f _ _ (by omega) (by omega) (by unfold hB; omega) (by unfold hB; omega)
def mval (a b : Int) : Int := if b < a then (a - b + 1) / 2 else 0
theorem moreOf_eq {t : zSt} {n : Nat} {lo hi : Nat → Int} (hM : rHoM t n lo hi) (ok : okHo n lo hi) {set : Nat} (hs : set < 2147483648) : m_X9_moreOf 64 (zn set) t = some (zi (mval (mfr set lo n 0 (-100000)) (mto set hi n 0 100000)), t) ∧ hB (mfr set lo n 0 (-100000)) ∧ hB (mto set hi n 0 100000) := by
  obtain ⟨e1, e2, e3⟩ := more_model hM ok hs (k := fun l2_1 l3_1 s_1 => (if l3_1 < l2_1 then some (((l2_1 - l3_1) + 1) / 2, s_1) else some (0, s_1))) n 0 zFuel (-100000) 100000 (by omega) (by have := ok.1; unfold zFuel; omega) (by unfold hB; omega) (by unfold hB; omega)
  refine ⟨?_, e2, e3⟩
  unfold m_X9_moreOf
  refine Eq.trans e1 ?_
  generalize mfr set lo n 0 (-100000) = a at *
  generalize mto set hi n 0 100000 = b at *
  unfold hB at e2 e3
  have l : zi b < zi a ↔ b < a := zi_lt (by unfold zib; omega) (by unfold zib; omega)
  unfold mval
  by_cases h : b < a
  · rw [if_pos (l.2 h), if_pos h, zi_sub, show (1 : Int32) = zi 1 from rfl, zi_add, show (2 : Int32) = zi 2 from rfl, zi_div (by unfold zib; omega) (by unfold zib; omega), Int.tdiv_eq_ediv_of_nonneg (by omega)]
  · rw [if_neg (fun x => h (l.1 x)), if_neg h]
    rfl
theorem more_class {H : Nat} (hH : isH H) {s : zSt} {n : Nat} {lo hi : Nat → Int} (hC : rHoC H s n lo hi) (ok : okHo n lo hi) {set : Nat} (hset : ∀ i, i < n → set.testBit i = true) {k : Int32 → Int32 → zSt → Option (Int32 × zSt)} : ∀ (d i f : Nat) (a b : Int), i + d = n → d < f → hB a → hB b → lp_X2_more_16 H k f (zi a) (zi b) (zn i) s = k (zi (mfr set lo d i a)) (zi (mto set hi d i b)) s := by
  obtain ⟨c0, c1⟩ := hC
  obtain ⟨k0, k1⟩ := ok
  obtain ⟨-, ⟨-, -, -, t4, t5, -⟩, ⟨-, -, -, n4, n5, -⟩⟩ := hH.c
  intro d
  induction d with
  | zero =>
    intro i f a b hi' hf ha hb
    obtain ⟨f, rfl⟩ : ∃ g, f = g + 1 := ⟨f - 1, by omega⟩
    have : ¬ zn i < zn n := by rw [zn_lt (by omega) (by omega)]; omega
    simp only [lp_X2_more_16, bd_X2_more_16, c0, this, if_false, mfr, mto]
  | succ d ih =>
    intro i f a b hi' hf ha hb
    obtain ⟨f, rfl⟩ : ∃ g, f = g + 1 := ⟨f - 1, by omega⟩
    have h1 : zn i < zn n := by rw [zn_lt (by omega) (by omega)]; omega
    have h2 : ¬ zn i < 0 := zn_neg (by omega)
    have h3 : (zn i).toNatClampNeg = i := zn_cl (by omega)
    have h4 : ¬ 12 ≤ i := by omega
    obtain ⟨e1, e2⟩ := c1 i (by omega)
    obtain ⟨q1, q2, q3⟩ := k1 i (by omega)
    unfold hB at ha hb
    simp only [lp_X2_more_16, bd_X2_more_16, c0, h1, if_true, t4, t5, n4, n5, h2, h3, h4, or_self, if_false, e1, e2, max32_eq (show zib a by unfold zib; omega) (show zib (lo i) by unfold zib; omega), min32_eq (show zib b by unfold zib; omega) (show zib (hi i) by unfold zib; omega), zcl_some, zn_succ, mfr, mto, hset i (by omega)]
    exact ih (i + 1) f _ _ (by omega) (by omega) (by unfold hB; omega) (by unfold hB; omega)
