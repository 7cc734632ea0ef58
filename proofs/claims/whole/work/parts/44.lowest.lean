def rU (u l : Int) : Int := (if l < 0 then -u else u).tdiv (Int.gcd u l)
def rL (u l : Int) : Int := (l.natAbs : Int).tdiv (Int.gcd u l)
theorem zin_gcd {u l : Int} (hl : zin l) (h0 : l ≠ 0) : zin (Int.gcd u l : Int) ∧ 0 < Int.gcd u l := by
  have h1 : Int.gcd u l ≤ l.natAbs := Nat.gcd_le_right _ (by omega)
  unfold zin at *
  exact ⟨by omega, Int.gcd_pos_of_ne_zero_right _ h0⟩
theorem lowest_eq {u l : Int} (hu : zin u) (hl : zin l) (h0 : l ≠ 0) (p : Int32) (s : zSt) : m_X8_lowest (zq u) (zq l) p s = some (zq (if p = 1 then rL u l else rU u l), s) := by
  obtain ⟨g1, g2⟩ := zin_gcd (u := u) hl h0
  have z0 : ¬ zq l = 0 := fun hc => h0 ((zq_eq0 hl).1 hc)
  have zg : ¬ zq (Int.gcd u l : Int) = 0 := fun hc => by have := (zq_eq0 g1).1 hc; omega
  have hu' := hu
  have hl' := hl
  unfold zin at hu' hl'
  unfold m_X8_lowest
  rw [if_neg z0, abs_eq hu, zcl_some, abs_eq hl, zcl_some, commonDivisor_eq (by omega) (by omega), zcl_some]
  have e : (u.natAbs.gcd l.natAbs) = Int.gcd u l := rfl
  rw [e, if_neg zg, if_neg zg, if_neg zg]
  by_cases hp : p = 1
  · rw [if_pos hp, if_pos hp, abs_eq hl, zcl_some, if_neg zg, zq_div (by unfold zin; omega) g1]
    rfl
  · rw [if_neg hp, if_neg hp]
    unfold rU
    by_cases hc : l < 0
    · rw [if_pos ((zq_lt0 hl).2 hc), if_pos hc, zq_neg, zq_div (by unfold zin; omega) g1]
    · rw [if_neg (fun hd => hc ((zq_lt0 hl).1 hd)), if_neg hc, zq_div hu g1]
theorem lowest_gap (u : Int64) (p : Int32) (s : zSt) : m_X8_lowest u 0 p s = some (-1000000000000, s) := by
  simp [m_X8_lowest]
theorem found_eq {u l : Int} (hu : zin u) (hl : zin l) (h0 : l ≠ 0) (s : zSt) : m_X9_found 64 (zq u) (zq l) s = some (zsL (zsL s 64 23 (zq (rU u l))) 64 24 (zq (rL u l))) := by
  obtain ⟨g1, g2⟩ := zin_gcd (u := u) hl h0
  have zg : ¬ zq (Int.gcd u l : Int) = 0 := fun hc => by have := (zq_eq0 g1).1 hc; omega
  have hu' := hu
  have hl' := hl
  unfold zin at hu' hl'
  unfold m_X9_found m_X9_found_26
  rw [common_eq hu hl, zcl_some, if_neg zg, if_neg zg]
  simp only [zlt_eq, if_neg zg, zq_neg, zq_lt0 hl]
  unfold rU rL
  by_cases hc : l < 0
  · simp only [hc, if_true]
    rw [zq_div (by unfold zin; omega) g1, zq_div (by unfold zin; omega) g1]
    congr 4; omega
  · simp only [hc, if_false]
    rw [zq_div hu g1, zq_div hl g1]
    congr 4; omega
theorem rU_scale {c u l : Int} (hc : 0 < c) : rU (c * u) (c * l) = rU u l := by
  unfold rU
  rw [Int.gcd_mul_left]
  have h1 : c * l < 0 ↔ l < 0 := ⟨fun h => by
    rcases Int.lt_or_le l 0 with h2 | h2
    · exact h2
    · have := Int.mul_nonneg (Int.le_of_lt hc) h2; omega, fun h => Int.mul_neg_of_pos_of_neg hc h⟩
  have h2 : ((c.natAbs * Int.gcd u l : Nat) : Int) = c * (Int.gcd u l : Int) := by
    rw [Int.natCast_mul]; congr 1; omega
  rw [h2]
  by_cases hl : l < 0
  · rw [if_pos hl, if_pos (h1.2 hl), ← Int.mul_neg, Int.mul_tdiv_mul_of_pos _ _ hc]
  · rw [if_neg hl, if_neg (fun h => hl (h1.1 h)), Int.mul_tdiv_mul_of_pos _ _ hc]
theorem rL_scale {c u l : Int} (hc : 0 < c) : rL (c * u) (c * l) = rL u l := by
  unfold rL
  rw [Int.gcd_mul_left, Int.natAbs_mul, Int.natCast_mul, Int.natCast_mul]
  have h : (c.natAbs : Int) = c := by omega
  rw [h, Int.mul_tdiv_mul_of_pos _ _ hc]
/-- a fraction by its lowest terms: with l > 0, u = g * rU, l = g * rL -/
theorem r_spec {u l : Int} (hl : 0 < l) : ∃ g : Int, 0 < g ∧ u = g * rU u l ∧ l = g * rL u l ∧ 0 < rL u l := by
  have g2 : 0 < Int.gcd u l := Int.gcd_pos_of_ne_zero_right _ (by omega)
  have a1 : (Int.gcd u l : Int) * rU u l = u := by
    unfold rU
    rw [if_neg (by omega)]
    exact Int.mul_tdiv_cancel' (Int.gcd_dvd_left ..)
  have a2 : (Int.gcd u l : Int) * rL u l = l := by
    unfold rL
    have : (l.natAbs : Int) = l := by omega
    rw [this]
    exact Int.mul_tdiv_cancel' (Int.gcd_dvd_right ..)
  refine ⟨(Int.gcd u l : Int), by omega, a1.symm, a2.symm, ?_⟩
  rcases Int.lt_or_le 0 (rL u l) with h | h
  · exact h
  · have := Int.mul_nonpos_of_nonneg_of_nonpos (show (0 : Int) ≤ (Int.gcd u l : Int) by omega) h
    omega
/-! floors -/
theorem fl_int {x y : Int} (hy : 0 < y) : x / y = (if x < 0 ∧ x.tdiv y * y ≠ x then x.tdiv y - 1 else x.tdiv y) ∧ (x - x.tdiv y * y < 0 ↔ (x < 0 ∧ x.tdiv y * y ≠ x)) := by
  have h := Int.tdiv_eq_ediv (a := x) (b := y)
  have h1 := Int.emod_add_mul_ediv x y
  have h2 := Int.emod_nonneg x (show y ≠ 0 by omega)
  have h3 := Int.emod_lt_of_pos x hy
  have hm : y * (x / y) = x / y * y := Int.mul_comm _ _
  have hs : y.sign = 1 := Int.sign_eq_one_of_pos hy
  by_cases h0 : 0 ≤ x
  · rw [if_pos (Or.inl h0), Int.add_zero] at h
    rw [h, if_neg (by omega)]
    exact ⟨rfl, by omega⟩
  · by_cases hd : y ∣ x
    · rw [if_pos (Or.inr hd), Int.add_zero] at h
      have := Int.ediv_mul_cancel hd
      rw [h, if_neg (by omega)]
      exact ⟨rfl, by omega⟩
    · rw [if_neg (by simp [h0, hd]), hs] at h
      have h4 : x % y ≠ 0 := fun hc => hd (Int.dvd_of_emod_eq_zero hc)
      have h5 : (x / y + 1) * y = x / y * y + y := by rw [Int.add_mul, Int.one_mul]
      rw [h, h5, if_pos ⟨by omega, by omega⟩]
      exact ⟨by omega, by omega⟩
theorem i64_div {x y : Int64} (hy : 0 < y.toInt) : (x / y).toInt = x.toInt.tdiv y.toInt := by
  rw [Int64.toInt_div]
  have h := tdiv_abs x.toInt y.toInt
  have h1 := x.toInt_lt
  have h2 := x.le_toInt
  have h3 : x.toInt.tdiv y.toInt ≤ 9223372036854775807 := by
    rcases Int.lt_or_le x.toInt 0 with hc | hc
    · have : x.toInt.tdiv y.toInt ≤ 0 := by
        have := Int.tdiv_nonneg (a := -x.toInt) (b := y.toInt) (by omega) (by omega)
        rw [Int.neg_tdiv] at this
        omega
      omega
    · omega
  exact Int.bmod_eq_of_le (by omega) (by omega)
theorem i64_xor {x y : Int64} (hy : 0 < y.toInt) : x ^^^ y < 0 ↔ x.toInt < 0 := by
  have h1 : (x ^^^ y).toInt = (x.toBitVec ^^^ y.toBitVec).toInt := rfl
  have h2 := BitVec.msb_eq_toInt (x := x.toBitVec ^^^ y.toBitVec)
  have h3 := BitVec.msb_eq_toInt (x := x.toBitVec)
  have h4 := BitVec.msb_eq_toInt (x := y.toBitVec)
  have h5 : y.toBitVec.toInt = y.toInt := rfl
  have h6 : x.toBitVec.toInt = x.toInt := rfl
  rw [BitVec.msb_xor, h3, h4, h5, h6] at h2
  rw [Int64.lt_iff_toInt_lt, h1]
  have h7 : ¬ y.toInt < 0 := by omega
  have h8 : (0 : Int64).toInt = 0 := rfl
  rw [h8]
  simp only [h7, decide_false, Bool.bne_false] at h2
  constructor
  · intro h; have : decide ((x.toBitVec ^^^ y.toBitVec).toInt < 0) = true := decide_eq_true h
    rw [← h2] at this
    exact of_decide_eq_true this
  · intro h; have : decide (x.toInt < 0) = true := decide_eq_true h
    rw [h2] at this
    exact of_decide_eq_true this
theorem i64_tm {x y : Int64} (hy : 0 < y.toInt) : ((x / y) * y).toInt = x.toInt.tdiv y.toInt * y.toInt := by
  rw [Int64.toInt_mul, i64_div hy]
  have h1 := x.toInt_lt
  have h2 := x.le_toInt
  have h3 : (x.toInt.tdiv y.toInt * y.toInt).natAbs ≤ x.toInt.natAbs := by
    rw [Int.natAbs_mul, Int.natAbs_tdiv]
    exact Nat.div_mul_le_self _ _
  have h4 : x.toInt.tdiv y.toInt * y.toInt ≤ 9223372036854775807 := by
    rcases Int.lt_or_le x.toInt 0 with hc | hc
    · have h5 : x.toInt.tdiv y.toInt ≤ 0 := by
        have := Int.tdiv_nonneg (a := -x.toInt) (b := y.toInt) (by omega) (by omega)
        rw [Int.neg_tdiv] at this
        omega
      have := Int.mul_nonpos_of_nonpos_of_nonneg h5 (show 0 ≤ y.toInt by omega)
      omega
    · omega
  exact Int.bmod_eq_of_le (by omega) (by omega)
theorem fl_lo {x y : Int} (hy : 0 < y) (h1 : -9223372036854775808 ≤ x) : -9223372036854775808 ≤ x / y := by
  rcases Int.lt_or_le x 0 with hc | hc
  · have h := Int.emod_add_mul_ediv x y
    have h2 := Int.emod_lt_of_pos x hy
    have h3 := Int.emod_nonneg x (show y ≠ 0 by omega)
    have h4 : x / y < 0 := Int.ediv_neg_of_neg_of_pos hc hy
    have h5 : 1 * (-(x / y)) ≤ y * (-(x / y)) := Int.mul_le_mul_of_nonneg_right (by omega) (by omega)
    rw [Int.mul_neg] at h5
    rcases Int.lt_or_le (x / y) x with h6 | h6
    · have h7 : x % y + y * (x / y) = x := h
      have h8 : y * (x / y) ≤ x := by omega
      have h9 : (y - 1) * (-(x / y) - 1) ≥ 0 := Int.mul_nonneg (by omega) (by omega)
      rw [Int.sub_mul, Int.mul_sub, Int.mul_neg, Int.one_mul, Int.mul_one] at h9
      omega
    · omega
  · have := Int.ediv_nonneg hc (Int.le_of_lt hy)
    omega
theorem down_eq {x y : Int64} (hy : 0 < y.toInt) (s : zSt) : m_X9_down x y s = some (zq (x.toInt / y.toInt), s) := by
  have y0 : ¬ y = 0 := fun hc => by rw [hc] at hy; exact absurd hy (by decide)
  have h8 : (0 : Int64).toInt = 0 := rfl
  have hx1 := x.toInt_lt
  have hx2 := x.le_toInt
  have hf := fl_int (x := x.toInt) hy
  have e : x - x / y * y < 0 ↔ (x.toInt < 0 ∧ x.toInt.tdiv y.toInt * y.toInt ≠ x.toInt) := by
    rw [← hf.2, Int64.lt_iff_toInt_lt, Int64.toInt_sub, i64_tm hy, h8]
    have h3 : (x.toInt.tdiv y.toInt * y.toInt).natAbs ≤ x.toInt.natAbs := by
      rw [Int.natAbs_mul, Int.natAbs_tdiv]
      exact Nat.div_mul_le_self _ _
    have h4 : 0 ≤ x.toInt → 0 ≤ x.toInt.tdiv y.toInt * y.toInt := fun h => Int.mul_nonneg (Int.tdiv_nonneg h (by omega)) (by omega)
    have h5 : x.toInt < 0 → x.toInt.tdiv y.toInt * y.toInt ≤ 0 := fun h => by
      have h5 : x.toInt.tdiv y.toInt ≤ 0 := by
        have := Int.tdiv_nonneg (a := -x.toInt) (b := y.toInt) (by omega) (by omega)
        rw [Int.neg_tdiv] at this
        omega
      exact Int.mul_nonpos_of_nonpos_of_nonneg h5 (by omega)
    rw [Int.bmod_eq_of_le (by omega) (by omega)]
  unfold m_X9_down
  rw [if_neg y0, if_neg y0]
  by_cases c : x.toInt < 0 ∧ x.toInt.tdiv y.toInt * y.toInt ≠ x.toInt
  · rw [if_pos (e.2 c)]
    have e1 := hf.1
    rw [if_pos c] at e1
    have hlo := fl_lo hy hx2
    congr 2
    rw [← Int64.toInt_inj, Int64.toInt_sub, i64_div hy, e1]
    have h9 : (1 : Int64).toInt = 1 := rfl
    have ht := tdiv_abs x.toInt y.toInt
    rw [h9, zq_int' (by omega) (by omega), Int.bmod_eq_of_le (by omega) (by omega)]
  · rw [if_neg (fun h => c (e.1 h))]
    have e1 := hf.1
    rw [if_neg c] at e1
    have hlo := fl_lo hy hx2
    congr 2
    rw [← Int64.toInt_inj, i64_div hy, e1]
    have ht := i64_div (x := x) hy
    have ht2 := (x / y).toInt_lt
    rw [zq_int' (by omega) (by omega)]
theorem floorOf_eq {x y : Int64} (hy : 0 < y.toInt) (s : zSt) : m_X8_floorOf x y s = some (zq (x.toInt / y.toInt), s) := by
  have y0 : ¬ y = 0 := fun hc => by rw [hc] at hy; exact absurd hy (by decide)
  have hx1 := x.toInt_lt
  have hx2 := x.le_toInt
  have hf := fl_int (x := x.toInt) hy
  have hlo := fl_lo hy hx2
  have ht := i64_div (x := x) hy
  have ht2 := (x / y).toInt_lt
  have ht3 := (x / y).le_toInt
  have e : (x / y) * y = x ↔ x.toInt.tdiv y.toInt * y.toInt = x.toInt := by
    rw [← Int64.toInt_inj, i64_tm hy]
  unfold m_X8_floorOf m_J9_floorDiv_f86c9
  simp only [if_neg y0, i64_xor hy, e]
  by_cases c : x.toInt < 0 ∧ x.toInt.tdiv y.toInt * y.toInt ≠ x.toInt
  · have e1 := hf.1
    rw [if_pos c] at e1
    simp only [c.1, c.2, if_true, if_false, zcl_some]
    congr 2
    rw [← Int64.toInt_inj, Int64.toInt_sub, i64_div hy, e1]
    have h9 : (1 : Int64).toInt = 1 := rfl
    rw [h9, zq_int' (by omega) (by omega), Int.bmod_eq_of_le (by omega) (by omega)]
  · have e1 := hf.1
    rw [if_neg c] at e1
    have hq : x / y = zq (x.toInt / y.toInt) := by
      rw [← Int64.toInt_inj, i64_div hy, e1, zq_int' (by omega) (by omega)]
    rw [← hq]
    by_cases c1 : x.toInt < 0
    · have c2 : x.toInt.tdiv y.toInt * y.toInt = x.toInt := Decidable.byContradiction (fun h => c ⟨c1, h⟩)
      simp only [c1, c2, if_true, zcl_some]
    · simp only [c1, if_false, zcl_some]
