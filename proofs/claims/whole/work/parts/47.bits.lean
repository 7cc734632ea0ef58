/-! sets of bits -/
def adn (a b : Nat) : Nat := a ^^^ (a &&& b)
theorem adn_bit (a b i : Nat) : (adn a b).testBit i = (a.testBit i && !b.testBit i) := by
  unfold adn
  rw [Nat.testBit_xor, Nat.testBit_and]
  cases a.testBit i <;> cases b.testBit i <;> rfl
theorem le_of_bits {a b : Nat} (h : ∀ i, a.testBit i = true → b.testBit i = true) : a ≤ b := by
  have e : a &&& b = a := Nat.eq_of_testBit_eq (fun i => by
    rw [Nat.testBit_and]
    have := h i
    cases h1 : a.testBit i
    · rfl
    · rw [this h1]; rfl)
  rw [← e]
  exact Nat.and_le_right
theorem adn_le (a b : Nat) : adn a b ≤ a := le_of_bits (fun i h => by
  rw [adn_bit] at h
  cases h1 : a.testBit i
  · rw [h1] at h; exact h
  · rfl)
theorem zn_bv (a : Nat) : (zn a).toBitVec = BitVec.ofNat 32 a := rfl
theorem zn_gl {a i : Nat} (hi : i < 32) : (zn a).toBitVec.getLsbD i = a.testBit i := by
  rw [zn_bv, BitVec.getLsbD_ofNat]
  simp [hi]
theorem zn_ext {x : Int32} {a : Nat} (h : ∀ i, i < 32 → x.toBitVec.getLsbD i = a.testBit i) : x = zn a := by
  apply Int32.toBitVec_inj.1
  apply BitVec.eq_of_getLsbD_eq
  intro i hi
  rw [h i hi, zn_gl hi]
theorem zn_and (a b : Nat) : zn a &&& zn b = zn (a &&& b) := zn_ext (fun i hi => by
  rw [show (zn a &&& zn b).toBitVec = (zn a).toBitVec &&& (zn b).toBitVec from rfl, BitVec.getLsbD_and, zn_gl hi, zn_gl hi, Nat.testBit_and])
theorem zn_or (a b : Nat) : zn a ||| zn b = zn (a ||| b) := zn_ext (fun i hi => by
  rw [show (zn a ||| zn b).toBitVec = (zn a).toBitVec ||| (zn b).toBitVec from rfl, BitVec.getLsbD_or, zn_gl hi, zn_gl hi, Nat.testBit_or])
theorem zn_andn (a b : Nat) : zn a &&& (zn b ^^^ -1) = zn (adn a b) := zn_ext (fun i hi => by
  rw [show (zn a &&& (zn b ^^^ -1)).toBitVec = (zn a).toBitVec &&& ((zn b).toBitVec ^^^ BitVec.allOnes 32) from rfl, BitVec.getLsbD_and, BitVec.getLsbD_xor, zn_gl hi, zn_gl hi, BitVec.getLsbD_allOnes, adn_bit]
  simp [hi])
theorem zn_shl : ∀ k : Fin 31, (1 : Int32) <<< (zn k.val &&& 31) = zn (2 ^ k.val) := by decide +kernel
theorem zn_smod : ∀ k : Fin 32, ((zn k.val &&& 31).toBitVec.smod 32).toNat = k.val := by decide +kernel
theorem zn_shr {a k : Nat} (ha : a < 2147483648) (hk : k < 32) : (zn a >>> (zn k &&& 31)) &&& 1 = zn (a.testBit k).toNat := zn_ext (fun i hi => by
  have h1 : ((zn a >>> (zn k &&& 31)) &&& 1).toBitVec = (zn a).toBitVec.sshiftRight ((zn k &&& 31).toBitVec.smod 32).toNat &&& 1#32 := rfl
  rw [h1, zn_smod ⟨k, hk⟩, BitVec.getLsbD_and, BitVec.getLsbD_sshiftRight, BitVec.getLsbD_one, Nat.testBit_bool_toNat]
  have hm : (zn a).toBitVec.msb = false := by
    rw [BitVec.msb_eq_false_iff_two_mul_lt, zn_bv, BitVec.toNat_ofNat]
    omega
  by_cases h0 : i = 0
  · subst h0
    simp only [Nat.add_zero, hm]
    by_cases hk' : k < 32
    · rw [zn_gl hk']; simp [hk']
    · omega
  · simp [h0])
theorem zn_b1 (b : Bool) : (zn b.toNat = 1) ↔ b = true := by cases b <;> decide
theorem zn_b0 (b : Bool) : (zn b.toNat = 0) ↔ b = false := by cases b <;> decide
theorem pow_le {k n : Nat} (h : k ≤ n) : 2 ^ k ≤ 2 ^ n := Nat.pow_le_pow_right (by omega) h
theorem zn_full {k : Nat} (hk : k < 31) : (1 : Int32) <<< (zn k &&& 31) - 1 = zn (2 ^ k - 1) := by
  have h1 : 1 ≤ 2 ^ k := Nat.one_le_two_pow
  obtain ⟨m, hm⟩ : ∃ m, 2 ^ k = m + 1 := ⟨2 ^ k - 1, by omega⟩
  rw [zn_shl ⟨k, hk⟩]
  simp only
  rw [hm, zn_pred]
  congr 1
theorem and2 (a p : Nat) : a &&& 2 ^ p = (a.testBit p).toNat * 2 ^ p := by
  apply Nat.eq_of_testBit_eq
  intro i
  rw [Nat.testBit_and, Nat.testBit_two_pow]
  by_cases h : p = i
  · subst h
    cases h1 : a.testBit p
    · simp
    · simp [Nat.testBit_two_pow_self]
  · cases h1 : a.testBit p
    · simp [h]
    · simp [h, Nat.testBit_two_pow]
theorem znb_0 {a p : Nat} (hp : p < 31) : (zn a &&& zn (2 ^ p) = 0) ↔ a.testBit p = false := by
  rw [zn_and, and2]
  have h1 : 1 ≤ 2 ^ p := Nat.one_le_two_pow
  have h2 : 2 ^ p ≤ 2 ^ 30 := pow_le (by omega)
  cases a.testBit p
  · simp only [Bool.toNat_false, Nat.zero_mul]; decide
  · simp only [Bool.toNat_true, Nat.one_mul]
    rw [show (0 : Int32) = zn 0 from rfl, zn_inj (by omega) (by omega)]
    constructor
    · intro h; omega
    · intro h; cases h
/-! how many -/
def pcn : Nat → Nat → Nat
  | 0, _ => 0
  | k + 1, a => pcn k a + (a.testBit k).toNat
def pc (a : Nat) : Nat := pcn 16 a
theorem pcn_le (k a : Nat) : pcn k a ≤ k := by
  induction k with
  | zero => exact Nat.le_refl _
  | succ k ih =>
    show pcn k a + (a.testBit k).toNat ≤ k + 1
    have : (a.testBit k).toNat ≤ 1 := Bool.toNat_le _
    omega
theorem pc_le (a : Nat) : pc a ≤ 16 := pcn_le 16 a
theorem ones_lp {a : Nat} (ha : a < 2147483648) : ∀ (d i f : Nat) (s : zSt), i + d = 16 → d < f → lp_X9_ones_4 (zn a) f (zn (pcn i a)) (zn i) s = some (zn (pc a), s) := by
  intro d
  induction d with
  | zero =>
    intro i f s hi hf
    obtain ⟨f, rfl⟩ : ∃ g, f = g + 1 := ⟨f - 1, by omega⟩
    have h1 : i = 16 := by omega
    subst h1
    have : ¬ zn 16 < 16 := by decide
    simp only [lp_X9_ones_4, bd_X9_ones_4, this, if_false]
    rfl
  | succ d ih =>
    intro i f s hi hf
    obtain ⟨f, rfl⟩ : ∃ g, f = g + 1 := ⟨f - 1, by omega⟩
    have : zn i < 16 := (zn_lt (b := 16) (by omega) (by omega)).2 (by omega)
    simp only [lp_X9_ones_4, bd_X9_ones_4, this, if_true, zn_shr ha (show i < 32 by omega), zn_succ, zn_add]
    exact ih (i + 1) f s (by omega) (by omega)
theorem ones_eq {a : Nat} (ha : a < 2147483648) (s : zSt) : m_X9_ones (zn a) s = some (zn (pc a), s) := ones_lp ha 16 0 zFuel s (by omega) (by unfold zFuel; omega)
def bc (p : Int32) : Int32 := match m_J6_bitCount_0f7a4 p z00 with
  | some a => a.1
  | none => 0
theorem bc_eq (p : Int32) (s : zSt) : m_J6_bitCount_0f7a4 p s = some (bc p, s) := rfl
set_option maxRecDepth 100000 in
theorem bc_all : (List.range 4096).all (fun a => bc (zn a) == zn (pc a)) = true := by decide +kernel
theorem bitCount_eq {a : Nat} (ha : a < 4096) (s : zSt) : m_J6_bitCount_0f7a4 (zn a) s = some (zn (pc a), s) := by
  rw [bc_eq]
  have := List.all_eq_true.mp bc_all a (List.mem_range.mpr ha)
  rw [eq_of_beq this]
