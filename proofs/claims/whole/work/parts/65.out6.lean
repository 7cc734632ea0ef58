theorem co_bit {n x k : Nat} : (adn (2 ^ n - 1) x).testBit k = (decide (k < n) && !x.testBit k) := by
  rw [adn_bit, Nat.testBit_two_pow_sub_one]
theorem nl_fe {n : Nat} {lo hi : Nat → Int} (ok : okHo n lo hi) {j : Nat} (hj : j < n) : fe n lo hi (nl n lo hi (lo j)) = true := by
  obtain ⟨q1, q2, q3⟩ := ok.2 j hj
  have hin : ∀ k, (adn (2 ^ n - 1) (nl n lo hi (lo j))).testBit k = true → lo k ≤ lo j ∧ lo j ≤ hi k := by
    intro k hk
    rw [co_bit, nl_bit] at hk
    by_cases hc : lo k ≤ lo j ∧ lo j ≤ hi k
    · exact hc
    · by_cases hkn : k < n
      · simp [hkn, hc] at hk
      · simp [hkn] at hk
  unfold fe
  refine decide_eq_true (Int.le_trans (mfr_le n 0 _ (lo j) (by omega) (fun k _ _ hb => (hin k hb).1)) (le_mto n 0 _ (lo j) (by omega) (fun k _ _ hb => (hin k hb).2)))
theorem fe_nl {n : Nat} {lo hi : Nat → Int} (hn : 1 ≤ n) {x : Nat} (hx : x < 2 ^ n) (h : fe n lo hi x = true) (ok : okHo n lo hi) : ∃ j, j < n ∧ ky (nl n lo hi (lo j)) ≤ ky x := by
  have h' := of_decide_eq_true h
  obtain ⟨g1, g2, g3⟩ := mfr_ge (set := adn (2 ^ n - 1) x) (lo := lo) n 0 (-100000)
  obtain ⟨e1, e2⟩ := mto_le (set := adn (2 ^ n - 1) x) (hi := hi) n 0 100000
  rcases g3 with g3 | ⟨j, q1, q2, q3, q4⟩
  · -- nothing is kept
    have hall : ∀ k, k < n → x.testBit k = true := by
      intro k hk
      cases hb : x.testBit k
      · have := g2 k (by omega) (by omega) (by rw [co_bit, hb]; simp [hk])
        have := (ok.2 k hk).1
        omega
      · rfl
    refine ⟨0, by omega, ky_sub (fun i hi' => ?_)⟩
    rw [nl_bit] at hi'
    by_cases hin : i < n
    · exact hall i hin
    · simp [hin] at hi'
  · refine ⟨j, by omega, ky_sub (fun i hi' => ?_)⟩
    rw [nl_bit] at hi'
    cases hb : x.testBit i
    · exfalso
      by_cases hin : i < n
      · have hc : (adn (2 ^ n - 1) x).testBit i = true := by rw [co_bit, hb]; simp [hin]
        have a1 := g2 i (by omega) (by omega) hc
        have a2 := e2 i (by omega) (by omega) hc
        have : lo i ≤ lo j ∧ lo j ≤ hi i := by omega
        simp [hin, this] at hi'
      · simp [hin] at hi'
    · rfl
theorem out_eq {n : Nat} {lo hi : Nat → Int} (ok : okHo n lo hi) (hn : 1 ≤ n) : ooF n lo hi (2 ^ n) 0 none = some (obF n lo hi n 0 0 (n + 1)) ∧ obF n lo hi n 0 0 (n + 1) < 4096 := by
  have h12 : 2 ^ n ≤ 4096 := pow_le (n := 12) ok.1
  obtain ⟨⟨j, hj, e1⟩, e2⟩ := obF_spec ok.1 lo hi n 0 0 (n + 1) (by omega) (Or.inl ⟨rfl, rfl⟩) hn
  obtain ⟨f1, f2⟩ := ooF_spec lo hi ok.1 (2 ^ n) 0 none (by omega) (fun y hy => by cases hy) (fun z hz => by omega)
  have hl := nl_lt n lo hi (lo j)
  rw [← e1] at hl
  obtain ⟨y, hy, hk⟩ := f2 (obF n lo hi n 0 0 (n + 1)) hl (by rw [e1]; exact nl_fe ok hj)
  obtain ⟨y1, y2⟩ := f1 y hy
  obtain ⟨j', hj', hk'⟩ := fe_nl hn y1 y2 ok
  have := ky_inj (by omega) (by omega) hk (Nat.le_trans (e2 j' hj') hk')
  rw [hy, this]
  exact ⟨rfl, by omega⟩
