/-- bounds of what a set lets -/
theorem mfr_le {set : Nat} {lo : Nat → Int} : ∀ (d i : Nat) (a x : Int), a ≤ x → (∀ k, i ≤ k → k < i + d → set.testBit k = true → lo k ≤ x) → mfr set lo d i a ≤ x := by
  intro d
  induction d with
  | zero => intro i a x ha _; exact ha
  | succ d ih =>
    intro i a x ha h
    refine ih (i + 1) _ x ?_ (fun k h1 h2 h3 => h k (by omega) (by omega) h3)
    split
    · rename_i hb
      have := h i (by omega) (by omega) hb
      omega
    · exact ha
theorem le_mto {set : Nat} {hi : Nat → Int} : ∀ (d i : Nat) (b x : Int), x ≤ b → (∀ k, i ≤ k → k < i + d → set.testBit k = true → x ≤ hi k) → x ≤ mto set hi d i b := by
  intro d
  induction d with
  | zero => intro i b x hb _; exact hb
  | succ d ih =>
    intro i b x hb h
    refine ih (i + 1) _ x ?_ (fun k h1 h2 h3 => h k (by omega) (by omega) h3)
    split
    · rename_i hb'
      have := h i (by omega) (by omega) hb'
      omega
    · exact hb
theorem mfr_ge {set : Nat} {lo : Nat → Int} : ∀ (d i : Nat) (a : Int), a ≤ mfr set lo d i a ∧ (∀ k, i ≤ k → k < i + d → set.testBit k = true → lo k ≤ mfr set lo d i a) ∧ (mfr set lo d i a = a ∨ ∃ k, i ≤ k ∧ k < i + d ∧ set.testBit k = true ∧ mfr set lo d i a = lo k) := by
  intro d
  induction d with
  | zero => intro i a; exact ⟨Int.le_refl _, fun k h1 h2 => by omega, Or.inl rfl⟩
  | succ d ih =>
    intro i a
    obtain ⟨g1, g2, g3⟩ := ih (i + 1) (if set.testBit i = true then max a (lo i) else a)
    show a ≤ mfr set lo d (i + 1) (if set.testBit i = true then max a (lo i) else a) ∧ _
    refine ⟨?_, fun k h1 h2 h3 => ?_, ?_⟩
    · refine Int.le_trans ?_ g1
      split <;> omega
    · by_cases hk : k = i
      · subst hk
        refine Int.le_trans ?_ g1
        rw [if_pos h3]; omega
      · exact g2 k (by omega) (by omega) h3
    · rcases g3 with g3 | ⟨k, q1, q2, q3, q4⟩
      · by_cases hb : set.testBit i = true
        · rw [if_pos hb] at g3
          by_cases hm : a ≤ lo i
          · right
            refine ⟨i, by omega, by omega, hb, ?_⟩
            show mfr set lo d (i + 1) (if set.testBit i = true then max a (lo i) else a) = lo i
            rw [if_pos hb, g3]; omega
          · left
            show mfr set lo d (i + 1) (if set.testBit i = true then max a (lo i) else a) = a
            rw [if_pos hb, g3]; omega
        · rw [if_neg hb] at g3
          left
          show mfr set lo d (i + 1) (if set.testBit i = true then max a (lo i) else a) = a
          rw [if_neg hb, g3]
      · right
        exact ⟨k, by omega, by omega, q3, q4⟩
theorem mto_le {set : Nat} {hi : Nat → Int} : ∀ (d i : Nat) (b : Int), mto set hi d i b ≤ b ∧ ∀ k, i ≤ k → k < i + d → set.testBit k = true → mto set hi d i b ≤ hi k := by
  intro d
  induction d with
  | zero => intro i b; exact ⟨Int.le_refl _, fun k h1 h2 => by omega⟩
  | succ d ih =>
    intro i b
    obtain ⟨g1, g2⟩ := ih (i + 1) (if set.testBit i = true then min b (hi i) else b)
    show mto set hi d (i + 1) (if set.testBit i = true then min b (hi i) else b) ≤ b ∧ _
    refine ⟨?_, fun k h1 h2 h3 => ?_⟩
    · refine Int.le_trans g1 ?_
      split <;> omega
    · by_cases hk : k = i
      · subst hk
        refine Int.le_trans g1 ?_
        rw [if_pos h3]; omega
      · exact g2 k (by omega) (by omega) h3
