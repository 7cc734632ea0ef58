/-! Int32 from Int -/
def zi (a : Int) : Int32 := Int32.ofInt a
def zib (a : Int) : Prop := -1073741824 ≤ a ∧ a ≤ 1073741824
theorem zi_int' {a : Int} (h : -2147483648 ≤ a) (h' : a < 2147483648) : (zi a).toInt = a := Int32.toInt_ofInt_of_le h h'
theorem zi_int {a : Int} (h : zib a) : (zi a).toInt = a := by
  unfold zib at h
  exact zi_int' (by omega) (by omega)
theorem zi_of (x : Int32) : x = zi x.toInt := (Int32.ofInt_toInt x).symm
theorem zi_add (a b : Int) : zi a + zi b = zi (a + b) := (Int32.ofInt_add a b).symm
theorem zi_sub (a b : Int) : zi a - zi b = zi (a - b) := (Int32.ofInt_sub a b).symm
theorem zi_mul (a b : Int) : zi a * zi b = zi (a * b) := (Int32.ofInt_mul a b).symm
theorem zi_neg (a : Int) : - zi a = zi (- a) := (Int32.ofInt_neg a).symm
theorem zi_lt {a b : Int} (ha : zib a) (hb : zib b) : zi a < zi b ↔ a < b := by
  rw [Int32.lt_iff_toInt_lt, zi_int ha, zi_int hb]
theorem zi_le {a b : Int} (ha : zib a) (hb : zib b) : zi a ≤ zi b ↔ a ≤ b := by
  rw [Int32.le_iff_toInt_le, zi_int ha, zi_int hb]
theorem zi_inj {a b : Int} (ha : zib a) (hb : zib b) : zi a = zi b ↔ a = b := by
  rw [← Int32.toInt_inj, zi_int ha, zi_int hb]
theorem zi_lt0 {a : Int} (ha : zib a) : zi a < 0 ↔ a < 0 := zi_lt (b := 0) ha (by unfold zib; omega)
theorem zn_zi {n : Nat} (h : n < 2147483648) : zn n = zi n := by
  rw [← Int32.toInt_inj, zn_int h, zi_int' (by omega) (by omega)]
theorem abs32_eq {a : Int} (h : zib a) (s : zSt) : m_J9_abs_0f7a4 (zi a) s = some (zi (a.natAbs : Int), s) := by
  unfold m_J9_abs_0f7a4
  rw [zi_neg]
  by_cases hc : a < 0
  · rw [if_pos ((zi_lt0 h).2 hc)]
    congr 3; omega
  · rw [if_neg (fun hd => hc ((zi_lt0 h).1 hd))]
    congr 3; omega
theorem max32_eq {a b : Int} (ha : zib a) (hb : zib b) (s : zSt) : m_J9_max_7cf53 (zi a) (zi b) s = some (zi (max a b), s) := by
  unfold m_J9_max_7cf53
  by_cases h : a < b
  · rw [if_pos ((zi_lt ha hb).2 h)]
    congr 3; omega
  · rw [if_neg (fun hc => h ((zi_lt ha hb).1 hc))]
    congr 3; omega
theorem min32_eq {a b : Int} (ha : zib a) (hb : zib b) (s : zSt) : m_J9_min_7cf53 (zi a) (zi b) s = some (zi (min a b), s) := by
  unfold m_J9_min_7cf53
  by_cases h : b < a
  · rw [if_pos ((zi_lt hb ha).2 h)]
    congr 3; omega
  · rw [if_neg (fun hc => h ((zi_lt hb ha).1 hc))]
    congr 3; omega
/-! the order of sides: what each row weighs -/
def osg (row j : Nat) : Int := if row.testBit j then 1 else -1
def ow1 (row : Nat) : Nat → Int
  | 0 => 0
  | j + 1 => ow1 row j + osg row j * j
def ow2 (row : Nat) : Nat → Int
  | 0 => 0
  | j + 1 => ow2 row j + osg row j * j * j
def ow3 (row : Nat) : Nat → Int
  | 0 => 0
  | j + 1 => ow3 row j + osg row j * j * j * j
def ob1 : Nat → Nat
  | 0 => 0
  | j + 1 => ob1 j + j
def ob2 : Nat → Nat
  | 0 => 0
  | j + 1 => ob2 j + j * j
def ob3 : Nat → Nat
  | 0 => 0
  | j + 1 => ob3 j + j * j * j
theorem osg_abs (row j : Nat) : (osg row j).natAbs = 1 := by
  unfold osg; split <;> rfl
theorem ow1_le (row j : Nat) : (ow1 row j).natAbs ≤ ob1 j := by
  induction j with
  | zero => exact Nat.le_refl _
  | succ j ih =>
    show (ow1 row j + osg row j * j).natAbs ≤ ob1 j + j
    have h := Int.natAbs_mul (osg row j) j
    rw [osg_abs, Int.natAbs_natCast] at h
    omega
theorem ow2_le (row j : Nat) : (ow2 row j).natAbs ≤ ob2 j := by
  induction j with
  | zero => exact Nat.le_refl _
  | succ j ih =>
    show (ow2 row j + osg row j * j * j).natAbs ≤ ob2 j + j * j
    have h : (osg row j * j * j).natAbs = j * j := by rw [Int.natAbs_mul, Int.natAbs_mul, osg_abs, Int.natAbs_natCast, Nat.one_mul]
    omega
theorem ow3_le (row j : Nat) : (ow3 row j).natAbs ≤ ob3 j := by
  induction j with
  | zero => exact Nat.le_refl _
  | succ j ih =>
    show (ow3 row j + osg row j * j * j * j).natAbs ≤ ob3 j + j * j * j
    have h : (osg row j * j * j * j).natAbs = j * j * j := by rw [Int.natAbs_mul, Int.natAbs_mul, Int.natAbs_mul, osg_abs, Int.natAbs_natCast, Nat.one_mul]
    omega
theorem ob_mono {j n : Nat} (h : j ≤ n) : ob1 j ≤ ob1 n ∧ ob2 j ≤ ob2 n ∧ ob3 j ≤ ob3 n := by
  induction n with
  | zero =>
    have : j = 0 := by omega
    subst this
    exact ⟨Nat.le_refl _, Nat.le_refl _, Nat.le_refl _⟩
  | succ n ih =>
    by_cases hj : j = n + 1
    · subst hj; exact ⟨Nat.le_refl _, Nat.le_refl _, Nat.le_refl _⟩
    · obtain ⟨a, b, c⟩ := ih (by omega)
      exact ⟨Nat.le_trans a (Nat.le_add_right _ _), Nat.le_trans b (Nat.le_add_right _ _), Nat.le_trans c (Nat.le_add_right _ _)⟩
theorem ow_le {row j : Nat} (h : j ≤ 12) : (ow1 row j).natAbs ≤ 66 ∧ (ow2 row j).natAbs ≤ 506 ∧ (ow3 row j).natAbs ≤ 4356 := by
  obtain ⟨a, b, c⟩ := ob_mono h
  exact ⟨Nat.le_trans (ow1_le row j) a, Nat.le_trans (ow2_le row j) b, Nat.le_trans (ow3_le row j) c⟩
def owt (row n : Nat) : Nat := ((ow1 row n).natAbs * 10000 + (ow2 row n).natAbs) * 10000 + (ow3 row n).natAbs
theorem ow_lp {row n : Nat} (hr : row < 2147483648) (hn : n ≤ 12) {k : Int32 → Int32 → Int32 → zSt → Option (Int64 × zSt)} : ∀ (d j f : Nat) (s : zSt), j + d = n → d < f → lp_X8_orderWeight_10 (zn row) (zn n) k f (zi (ow1 row j)) (zi (ow2 row j)) (zi (ow3 row j)) (zn j) s = k (zi (ow1 row n)) (zi (ow2 row n)) (zi (ow3 row n)) s := by
  intro d
  induction d with
  | zero =>
    intro j f s hj hf
    obtain ⟨f, rfl⟩ : ∃ g, f = g + 1 := ⟨f - 1, by omega⟩
    have h1 : j = n := by omega
    subst h1
    have : ¬ zn j < zn j := by rw [zn_lt (by omega) (by omega)]; omega
    simp only [lp_X8_orderWeight_10, bd_X8_orderWeight_10, this, if_false]
  | succ d ih =>
    intro j f s hj hf
    obtain ⟨f, rfl⟩ : ∃ g, f = g + 1 := ⟨f - 1, by omega⟩
    have h1 : zn j < zn n := by rw [zn_lt (by omega) (by omega)]; omega
    have hz := zn_zi (n := j) (by omega)
    simp only [lp_X8_orderWeight_10, bd_X8_orderWeight_10, m_X8_orderWeight_31, h1, if_true, zn_shr hr (show j < 32 by omega), zn_b1]
    have fin : ∀ (t0 : Int32) (t : Int), t0 = zi t → osg row j = t → lp_X8_orderWeight_10 (zn row) (zn n) k f (zi (ow1 row j) + t0 * zn j) (zi (ow2 row j) + t0 * zn j * zn j) (zi (ow3 row j) + t0 * zn j * zn j * zn j) (zn j + 1) s = k (zi (ow1 row n)) (zi (ow2 row n)) (zi (ow3 row n)) s := by
      intro t0 t h0 ht
      subst h0
      have := ih (j + 1) f s (by omega) (by omega)
      rw [zn_succ, hz, zi_mul, zi_mul, zi_mul, zi_add, zi_add, zi_add, ← ht]
      exact this
    by_cases hb : row.testBit j = true
    · rw [if_pos hb]
      exact fin 1 1 rfl (by unfold osg; rw [if_pos hb])
    · rw [if_neg hb]
      exact fin (-1) (-1) rfl (by unfold osg; rw [if_neg hb])
theorem orderWeight_eq {row n : Nat} (hr : row < 2147483648) (hn : n ≤ 12) (s : zSt) : m_X8_orderWeight (zn row) (zn n) s = some (zq (owt row n : Nat), s) := by
  obtain ⟨b1, b2, b3⟩ := ow_le (row := row) hn
  unfold m_X8_orderWeight
  have h := ow_lp hr hn (k := fun l2_1 l3_1 l4_1 s_1 => zcl (m_J9_abs_0f7a4 l2_1 s_1) (fun r3 s2 => zcl (m_J9_abs_0f7a4 l3_1 s2) (fun r5 s4 => zcl (m_J9_abs_0f7a4 l4_1 s4) (fun r7 s6 => some ((((r3.toInt64 * 10000) + r5.toInt64) * 10000) + r7.toInt64, s6))))) n 0 zFuel s (by omega) (by unfold zFuel; omega)
  refine Eq.trans h ?_
  rw [abs32_eq (by unfold zib; omega), zcl_some, abs32_eq (by unfold zib; omega), zcl_some, abs32_eq (by unfold zib; omega), zcl_some]
  rw [zq_i32, zq_i32, zq_i32, zi_int (by unfold zib; omega), zi_int (by unfold zib; omega), zi_int (by unfold zib; omega), show (10000 : Int64) = zq 10000 from rfl, zq_mul, zq_add, zq_mul, zq_add]
  unfold owt
  congr 3
