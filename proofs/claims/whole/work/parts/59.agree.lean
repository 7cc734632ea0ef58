theorem full_bit {n i : Nat} (h : i < n) : (2 ^ n - 1).testBit i = true := by
  rw [Nat.testBit_two_pow_sub_one]
  exact decide_eq_true h
theorem more_eq {H : Nat} (hH : isH H) {s : zSt} {n : Nat} {lo hi : Nat → Int} (hC : rHoC H s n lo hi) (ok : okHo n lo hi) (hn : 1 ≤ n) : m_X2_more H s = some (zi (mval (mfr (2 ^ n - 1) lo n 0 (-100000)) (mto (2 ^ n - 1) hi n 0 100000)), s) := by
  obtain ⟨-, ⟨-, -, -, t4, t5, -⟩, ⟨-, -, -, n4, n5, -⟩⟩ := hH.c
  obtain ⟨m, rfl⟩ : ∃ m, n = m + 1 := ⟨n - 1, by omega⟩
  obtain ⟨q1, q2, q3⟩ := ok.2 0 (by omega)
  obtain ⟨e1, e2⟩ := hC.2 0 (by omega)
  have hb := more_class hH hC ok (set := 2 ^ (m + 1) - 1) (fun i hi => full_bit hi) (k := fun l1_5 l2_5 s_5 => zcl (m_J9_max_7cf53 0 (((l1_5 - l2_5) + 1) >>> ((1 : Int32) &&& 31)) s_5) (fun r7 s6 => some (r7, s6))) m 1 zFuel (lo 0) (hi 0) (by omega) (by have := ok.1; unfold zFuel; omega) (by unfold hB; omega) (by unfold hB; omega)
  have f1 : mfr (2 ^ (m + 1) - 1) lo (m + 1) 0 (-100000) = mfr (2 ^ (m + 1) - 1) lo m 1 (lo 0) := by
    show mfr _ lo m 1 (if (2 ^ (m + 1) - 1).testBit 0 then max (-100000) (lo 0) else -100000) = _
    rw [if_pos (full_bit (by omega))]
    congr 1; omega
  have f2 : mto (2 ^ (m + 1) - 1) hi (m + 1) 0 100000 = mto (2 ^ (m + 1) - 1) hi m 1 (hi 0) := by
    show mto _ hi m 1 (if (2 ^ (m + 1) - 1).testBit 0 then min 100000 (hi 0) else 100000) = _
    rw [if_pos (full_bit (by omega))]
    congr 1; omega
  have bnd : ∀ (d i : Nat) (a b : Int), i + d = m + 1 → hB a → hB b → hB (mfr (2 ^ (m + 1) - 1) lo d i a) ∧ hB (mto (2 ^ (m + 1) - 1) hi d i b) := by
    intro d
    induction d with
    | zero => intro i a b _ ha hb; exact ⟨ha, hb⟩
    | succ d ih =>
      intro i a b hi' ha hb
      obtain ⟨r1, r2, r3⟩ := ok.2 i (by omega)
      unfold hB at ha hb
      refine ih (i + 1) _ _ (by omega) ?_ ?_
      · unfold hB; split <;> omega
      · unfold hB; split <;> omega
  obtain ⟨g1, g2⟩ := bnd m 1 (lo 0) (hi 0) (by omega) (by unfold hB; omega) (by unfold hB; omega)
  simp only [m_X2_more, t4, t5, n4, n5, tc_0, ln_0, tc_1, ln_1, tc_2, ln_2, tc_3, ln_3, tc_4, ln_4, tc_5, ln_5, tc_6, ln_6, tc_7, ln_7, tc_8, ln_8, tc_9, ln_9, tc_10, ln_10, tc_11, ln_11, tc_12, ln_12, tc_13, ln_13, false_or, show ¬ 12 ≤ 0 by decide, if_false, e1, e2]
  refine Eq.trans hb ?_
  rw [f1, f2]
  generalize mfr (2 ^ (m + 1) - 1) lo m 1 (lo 0) = a at *
  generalize mto (2 ^ (m + 1) - 1) hi m 1 (hi 0) = b at *
  unfold hB at g1 g2
  rw [zi_sub, show (1 : Int32) = zi 1 from rfl, zi_add, show zi 1 = (1 : Int32) from rfl, zi_half (by unfold zib; omega), show (0 : Int32) = zi 0 from rfl, max32_eq (by unfold zib; omega) (by unfold zib; omega), zcl_some]
  congr 3
  unfold mval
  split <;> omega
