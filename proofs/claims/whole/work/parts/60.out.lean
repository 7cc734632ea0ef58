/-! who is left out -/
def nlF (lo hi : Nat → Int) (x : Int) : Nat → Nat → Nat → Nat
  | 0, _, a => a
  | d + 1, i, a => nlF lo hi x d (i + 1) (if lo i ≤ x ∧ x ≤ hi i then a else a ||| 2 ^ i)
def nl (n : Nat) (lo hi : Nat → Int) (x : Int) : Nat := nlF lo hi x n 0 0
theorem nlF_bit (lo hi : Nat → Int) (x : Int) : ∀ (d i a : Nat), (∀ k, i ≤ k → a.testBit k = false) → ∀ k, (nlF lo hi x d i a).testBit k = if k < i then a.testBit k else if k < i + d then decide (¬ (lo k ≤ x ∧ x ≤ hi k)) else false := by
  intro d
  induction d with
  | zero =>
    intro i a ha k
    show a.testBit k = _
    by_cases h : k < i
    · rw [if_pos h]
    · rw [if_neg h, if_neg (by omega)]
      exact ha k (by omega)
  | succ d ih =>
    intro i a ha k
    have hz : ∀ k, i + 1 ≤ k → (if lo i ≤ x ∧ x ≤ hi i then a else a ||| 2 ^ i).testBit k = false := by
      intro k hk
      split
      · exact ha k (by omega)
      · rw [or2_bit, ha k (by omega)]
        simp; omega
    show (nlF lo hi x d (i + 1) _).testBit k = _
    rw [ih (i + 1) _ hz k]
    by_cases h1 : k < i
    · rw [if_pos (by omega), if_pos h1]
      split
      · rfl
      · rw [or2_bit]
        have : ¬ i = k := by omega
        simp [this]
    · by_cases h2 : k = i
      · subst h2
        rw [if_pos (show k < k + 1 by omega), if_neg (show ¬ k < k by omega), if_pos (show k < k + (d + 1) by omega)]
        split
        · rename_i hc
          rw [ha k (by omega)]
          simp [hc]
        · rename_i hc
          rw [or2_bit]
          simp [hc]
      · rw [if_neg (by omega), if_neg h1]
        by_cases h3 : k < i + (d + 1)
        · rw [if_pos (by omega), if_pos h3]
        · rw [if_neg (by omega), if_neg h3]
theorem nl_bit (n : Nat) (lo hi : Nat → Int) (x : Int) (k : Nat) : (nl n lo hi x).testBit k = (decide (k < n) && decide (¬ (lo k ≤ x ∧ x ≤ hi k))) := by
  unfold nl
  rw [nlF_bit lo hi x n 0 0 (fun k _ => Nat.zero_testBit k) k, if_neg (by omega), Nat.zero_add]
  by_cases h : k < n
  · rw [if_pos h]; simp [h]
  · rw [if_neg h]; simp [h]
theorem nl_lt (n : Nat) (lo hi : Nat → Int) (x : Int) : nl n lo hi x < 2 ^ n := by
  have h1 : nl n lo hi x ≤ 2 ^ n - 1 := le_of_bits (fun i h => by
    rw [nl_bit] at h
    by_cases hi' : i < n
    · exact full_bit hi'
    · simp [hi'] at h)
  have h2 : 1 ≤ 2 ^ n := Nat.one_le_two_pow
  omega
theorem nl_lp {H : Nat} (hH : isH H) {s : zSt} {n : Nat} {lo hi : Nat → Int} (hC : rHoC H s n lo hi) (ok : okHo n lo hi) {x : Int} (hx : hB x) : ∀ (d i f a : Nat), i + d = n → d < f → lp_X2_notLetting_4 H (zi x) f (zn a) (zn i) s = some (zn (nlF lo hi x d i a), s) := by
  obtain ⟨c0, c1⟩ := hC
  obtain ⟨k0, k1⟩ := ok
  obtain ⟨-, ⟨-, -, -, t4, t5, -⟩, ⟨-, -, -, n4, n5, -⟩⟩ := hH.c
  intro d
  induction d with
  | zero =>
    intro i f a hi' hf
    obtain ⟨f, rfl⟩ : ∃ g, f = g + 1 := ⟨f - 1, by omega⟩
    have : ¬ zn i < zn n := by rw [zn_lt (by omega) (by omega)]; omega
    simp only [lp_X2_notLetting_4, bd_X2_notLetting_4, c0, this, if_false, nlF]
  | succ d ih =>
    intro i f a hi' hf
    obtain ⟨f, rfl⟩ : ∃ g, f = g + 1 := ⟨f - 1, by omega⟩
    have h1 : zn i < zn n := by rw [zn_lt (by omega) (by omega)]; omega
    have h2 : ¬ zn i < 0 := zn_neg (by omega)
    have h3 : (zn i).toNatClampNeg = i := zn_cl (by omega)
    have h4 : ¬ 12 ≤ i := by omega
    have sl : (1 : Int32) <<< (zn i &&& 31) = zn (2 ^ i) := zn_shl ⟨i, by omega⟩
    obtain ⟨e1, e2⟩ := c1 i (by omega)
    obtain ⟨q1, q2, q3⟩ := k1 i (by omega)
    unfold hB at hx
    have l1 : zi (lo i) ≤ zi x ↔ lo i ≤ x := zi_le (by unfold zib; omega) (by unfold zib; omega)
    have l2 : zi x ≤ zi (hi i) ↔ x ≤ hi i := zi_le (by unfold zib; omega) (by unfold zib; omega)
    simp only [lp_X2_notLetting_4, bd_X2_notLetting_4, m_X2_notLetting_37, c0, h1, if_true, t4, t5, n4, n5, h2, h3, h4, or_self, if_false, e1, e2, within_eq, zcl_some, l1, l2, sl, zn_or, zn_succ, nlF]
    by_cases hc : lo i ≤ x ∧ x ≤ hi i
    · simp only [hc, and_self, if_true, show ¬ (1 : Int32) = 0 by decide, if_false]
      exact ih (i + 1) f _ (by omega) (by omega)
    · simp only [hc, if_false, if_true]
      exact ih (i + 1) f _ (by omega) (by omega)
theorem notLetting_eq {H : Nat} (hH : isH H) {s : zSt} {n : Nat} {lo hi : Nat → Int} (hC : rHoC H s n lo hi) (ok : okHo n lo hi) {x : Int} (hx : hB x) : m_X2_notLetting H (zi x) s = some (zn (nl n lo hi x), s) := nl_lp hH hC ok hx n 0 zFuel 0 (by omega) (by have := ok.1; unfold zFuel; omega)
