/-! Int64 from Int -/
def zq (a : Int) : Int64 := Int64.ofInt a
def zin (a : Int) : Prop := -4611686018427387904 ≤ a ∧ a ≤ 4611686018427387904
theorem zq_int' {a : Int} (h : -9223372036854775808 ≤ a) (h' : a < 9223372036854775808) : (zq a).toInt = a := Int64.toInt_ofInt_of_le h h'
theorem zq_int {a : Int} (h : zin a) : (zq a).toInt = a := by
  unfold zin at h
  exact zq_int' (by omega) (by omega)
theorem zq_of (x : Int64) : x = zq x.toInt := (Int64.ofInt_toInt x).symm
theorem zq_add (a b : Int) : zq a + zq b = zq (a + b) := (Int64.ofInt_add a b).symm
theorem zq_sub (a b : Int) : zq a - zq b = zq (a - b) := (Int64.ofInt_sub a b).symm
theorem zq_mul (a b : Int) : zq a * zq b = zq (a * b) := (Int64.ofInt_mul a b).symm
theorem zq_neg (a : Int) : - zq a = zq (- a) := (Int64.ofInt_neg a).symm
theorem zq_lt {a b : Int} (ha : zin a) (hb : zin b) : zq a < zq b ↔ a < b := by
  rw [Int64.lt_iff_toInt_lt, zq_int ha, zq_int hb]
theorem zq_inj {a b : Int} (ha : zin a) (hb : zin b) : zq a = zq b ↔ a = b := by
  rw [← Int64.toInt_inj, zq_int ha, zq_int hb]
theorem zq_lt0 {a : Int} (ha : zin a) : zq a < 0 ↔ a < 0 := zq_lt (b := 0) ha (by unfold zin; omega)
theorem zq_0lt {a : Int} (ha : zin a) : 0 < zq a ↔ 0 < a := zq_lt (a := 0) (by unfold zin; omega) ha
theorem zq_eq0 {a : Int} (ha : zin a) : zq a = 0 ↔ a = 0 := zq_inj (b := 0) ha (by unfold zin; omega)
theorem zq_i32 (x : Int32) : x.toInt64 = zq x.toInt := by
  rw [← Int64.toInt_inj, Int32.toInt_toInt64]
  have h1 := x.toInt_lt
  have h2 := x.le_toInt
  exact (zq_int' (by omega) (by omega)).symm
theorem tdiv_abs (a b : Int) : (a.tdiv b).natAbs ≤ a.natAbs := by
  rw [Int.natAbs_tdiv]
  exact Nat.div_le_self _ _
theorem zq_div {a b : Int} (ha : zin a) (hb : zin b) : zq a / zq b = zq (a.tdiv b) := by
  rw [← Int64.toInt_inj, Int64.toInt_div, zq_int ha, zq_int hb]
  have h := tdiv_abs a b
  unfold zin at ha
  rw [zq_int (by unfold zin; omega)]
  exact Int.bmod_eq_of_le (by omega) (by omega)
theorem zq_rem {a b : Int} (ha : zin a) (hb : zin b) : zq a - zq a / zq b * zq b = zq (a.tmod b) := by
  rw [zq_div ha hb, zq_mul, zq_sub, Int.tmod_def, Int.mul_comm]
/-! greatest common divisor -/
theorem nat_rem2 {a b : Nat} (h : a % b ≠ 0) (hb : 0 < b) : 2 * (b % (a % b)) < b := by
  have h1 : a % b < b := Nat.mod_lt _ hb
  have h2 : b % (a % b) < a % b := Nat.mod_lt _ (by omega)
  have h3 : b % (a % b) + (a % b) * (b / (a % b)) = b := Nat.mod_add_div b (a % b)
  have h4 : 1 ≤ b / (a % b) := Nat.div_pos (by omega) (by omega)
  have h5 : (a % b) * 1 ≤ (a % b) * (b / (a % b)) := Nat.mul_le_mul_left _ h4
  omega
theorem zq_nrem {a b : Nat} (ha : a ≤ 4611686018427387904) (hb : b ≤ 4611686018427387904) : zq a - zq a / zq b * zq b = zq ((a % b : Nat) : Int) := by
  rw [zq_rem (by unfold zin; omega) (by unfold zin; omega)]
  congr 1
theorem cd_class (k : Nat) : ∀ (a b i f : Nat) (s : zSt), a ≤ 4611686018427387904 → b ≤ 4611686018427387904 → b < 2 ^ k → i + 2 * k + 1 ≤ 200 → 2 * k + 1 ≤ f → lp_X8_commonDivisor_3 f (zq a) (zq b) (zn i) s = some (zq ((Nat.gcd a b : Nat) : Int), s) := by
  induction k with
  | zero =>
    intro a b i f s ha hb hk hi hf
    obtain ⟨f, rfl⟩ : ∃ g, f = g + 1 := ⟨f - 1, by omega⟩
    have hb0 : b = 0 := by simpa using hk
    subst hb0
    have h1 : zn i < 200 := (zn_lt (b := 200) (by omega) (by omega)).2 (by omega)
    have h2 : zq ((0 : Nat) : Int) = 0 := rfl
    simp only [lp_X8_commonDivisor_3, bd_X8_commonDivisor_3, h1, if_true, h2, Nat.gcd_zero_right]
  | succ k ih =>
    intro a b i f s ha hb hk hi hf
    obtain ⟨f, rfl⟩ : ∃ g, f = g + 1 + 1 := ⟨f - 2, by omega⟩
    have h1 : zn i < 200 := (zn_lt (b := 200) (by omega) (by omega)).2 (by omega)
    have h1' : zn (i + 1) < 200 := (zn_lt (b := 200) (by omega) (by omega)).2 (by omega)
    by_cases hb0 : b = 0
    · subst hb0
      have h2 : zq ((0 : Nat) : Int) = 0 := rfl
      simp only [lp_X8_commonDivisor_3, bd_X8_commonDivisor_3, h1, if_true, h2, Nat.gcd_zero_right]
    have hz : ¬ zq (b : Int) = 0 := by rw [zq_eq0 (by unfold zin; omega)]; omega
    rw [lp_X8_commonDivisor_3, bd_X8_commonDivisor_3]
    simp only [h1, if_true, hz, if_false, zq_nrem ha hb, zn_succ]
    have hlt : a % b < b := Nat.mod_lt _ (by omega)
    by_cases hr : a % b = 0
    · rw [hr]
      have h2 : zq ((0 : Nat) : Int) = 0 := rfl
      simp only [lp_X8_commonDivisor_3, bd_X8_commonDivisor_3, h1', if_true, h2]
      rw [Nat.gcd_comm, Nat.gcd_rec, hr, Nat.gcd_zero_left]
    have hz2 : ¬ zq ((a % b : Nat) : Int) = 0 := by rw [zq_eq0 (by unfold zin; omega)]; omega
    rw [lp_X8_commonDivisor_3, bd_X8_commonDivisor_3]
    simp only [h1', if_true, hz2, if_false, zq_nrem hb (show a % b ≤ 4611686018427387904 by omega), zn_succ]
    have h3 := nat_rem2 hr (by omega : 0 < b)
    rw [ih (a % b) (b % (a % b)) (i + 1 + 1) f s (by omega) (by omega) (by rw [Nat.pow_succ] at hk; omega) (by omega) (by omega)]
    congr 3
    rw [Nat.gcd_comm, ← Nat.gcd_rec, ← Nat.gcd_rec, Nat.gcd_comm]
theorem cd_model (q0 q2 : Int64) (k : Nat) : ∀ (a b f : Nat) (s : zSt), a ≤ 4611686018427387904 → b ≤ 4611686018427387904 → b < 2 ^ k → 2 * k + 1 ≤ f → lp_X9_common_28 q0 q2 f (zq a) (zq b) s = some (zq ((Nat.gcd a b : Nat) : Int), s) := by
  induction k with
  | zero =>
    intro a b f s ha hb hk hf
    obtain ⟨f, rfl⟩ : ∃ g, f = g + 1 := ⟨f - 1, by omega⟩
    have hb0 : b = 0 := by simpa using hk
    subst hb0
    have h2 : ¬ 0 < zq ((0 : Nat) : Int) := by decide
    simp only [lp_X9_common_28, bd_X9_common_28, h2, if_false, Nat.gcd_zero_right]
  | succ k ih =>
    intro a b f s ha hb hk hf
    obtain ⟨f, rfl⟩ : ∃ g, f = g + 1 + 1 := ⟨f - 2, by omega⟩
    have h2 : ¬ 0 < zq ((0 : Nat) : Int) := by decide
    by_cases hb0 : b = 0
    · subst hb0
      simp only [lp_X9_common_28, bd_X9_common_28, h2, if_false, Nat.gcd_zero_right]
    have hz : ¬ zq (b : Int) = 0 := by rw [zq_eq0 (by unfold zin; omega)]; omega
    have hp : 0 < zq (b : Int) := by rw [zq_0lt (by unfold zin; omega)]; omega
    rw [lp_X9_common_28, bd_X9_common_28]
    simp only [hp, if_true, hz, if_false, zq_nrem ha hb]
    have hlt : a % b < b := Nat.mod_lt _ (by omega)
    by_cases hr : a % b = 0
    · rw [hr]
      simp only [lp_X9_common_28, bd_X9_common_28, h2, if_false]
      rw [Nat.gcd_comm, Nat.gcd_rec, hr, Nat.gcd_zero_left]
    have hz2 : ¬ zq ((a % b : Nat) : Int) = 0 := by rw [zq_eq0 (by unfold zin; omega)]; omega
    have hp2 : 0 < zq ((a % b : Nat) : Int) := by rw [zq_0lt (by unfold zin; omega)]; omega
    rw [lp_X9_common_28, bd_X9_common_28]
    simp only [hp2, if_true, hz2, if_false, zq_nrem hb (show a % b ≤ 4611686018427387904 by omega)]
    have h3 := nat_rem2 hr (by omega : 0 < b)
    rw [ih (a % b) (b % (a % b)) f s (by omega) (by omega) (by rw [Nat.pow_succ] at hk; omega) (by omega)]
    congr 3
    rw [Nat.gcd_comm, ← Nat.gcd_rec, ← Nat.gcd_rec, Nat.gcd_comm]
theorem abs_eq {a : Int} (h : zin a) (s : zSt) : m_J9_abs_067f4 (zq a) s = some (zq (a.natAbs : Int), s) := by
  unfold m_J9_abs_067f4
  rw [zq_neg]
  by_cases hc : a < 0
  · rw [if_pos ((zq_lt0 h).2 hc)]
    congr 3; omega
  · rw [if_neg (fun hd => hc ((zq_lt0 h).1 hd))]
    congr 3; omega
theorem commonDivisor_eq {a b : Nat} (ha : a ≤ 4611686018427387904) (hb : b ≤ 4611686018427387904) (s : zSt) : m_X8_commonDivisor (zq a) (zq b) s = some (zq ((Nat.gcd a b : Nat) : Int), s) :=
  cd_class 63 a b 0 zFuel s ha hb (by omega) (by omega) (by unfold zFuel; omega)
theorem common_eq {u l : Int} (hu : zin u) (hl : zin l) (s : zSt) : m_X9_common (zq u) (zq l) s = some (zq ((Int.gcd u l : Nat) : Int), s) := by
  have key : ∀ (q0 q2 : Int64), lp_X9_common_28 q0 q2 zFuel (zq (u.natAbs : Int)) (zq (l.natAbs : Int)) s = some (zq ((Int.gcd u l : Nat) : Int), s) := fun q0 q2 => by
    unfold zin at hu hl
    exact cd_model q0 q2 63 u.natAbs l.natAbs zFuel s (by omega) (by omega) (by omega) (by unfold zFuel; omega)
  unfold m_X9_common m_X9_common_12 m_X9_common_26
  simp only [zq_neg, zq_lt0 hu, zq_lt0 hl]
  have e1 : u < 0 → -u = (u.natAbs : Int) := by omega
  have e2 : ¬ u < 0 → u = (u.natAbs : Int) := by omega
  have e3 : l < 0 → -l = (l.natAbs : Int) := by omega
  have e4 : ¬ l < 0 → l = (l.natAbs : Int) := by omega
  by_cases c1 : u < 0 <;> by_cases c2 : l < 0 <;> simp only [c1, c2, if_true, if_false]
  · rw [e1 c1, e3 c2]; exact key _ _
  · rw [e1 c1]; conv => lhs; arg 5; rw [e4 c2]
    exact key _ _
  · rw [e3 c2]; conv => lhs; arg 4; rw [e2 c1]
    exact key _ _
  · conv => lhs; arg 4; rw [e2 c1]
    conv => lhs; arg 5; rw [e4 c2]
    exact key _ _
