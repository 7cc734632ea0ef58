def ky (x : Nat) : Nat := pc x * 4096 + x
theorem ky_le {x b : Nat} (hx : x < 4096) (hb : b < 4096) (h : pc x < pc b ∨ (pc x = pc b ∧ x < b)) : ky x ≤ ky b := by
  unfold ky
  generalize pc x = P at *
  generalize pc b = Q at *
  omega
theorem ky_ge {x b : Nat} (hx : x < 4096) (hb : b < 4096) (h : ¬ (pc x < pc b ∨ (pc x = pc b ∧ x < b))) : ky b ≤ ky x := by
  unfold ky
  generalize pc x = P at *
  generalize pc b = Q at *
  omega
def obF (n : Nat) (lo hi : Nat → Int) : Nat → Nat → Nat → Nat → Nat
  | 0, _, b, _ => b
  | d + 1, i, b, w => if pc (nl n lo hi (lo i)) < w ∨ (pc (nl n lo hi (lo i)) = w ∧ nl n lo hi (lo i) < b) then obF n lo hi d (i + 1) (nl n lo hi (lo i)) (pc (nl n lo hi (lo i))) else obF n lo hi d (i + 1) b w
theorem out_lp {H : Nat} (hH : isH H) {s : zSt} {n : Nat} {lo hi : Nat → Int} (hC : rHoC H s n lo hi) (ok : okHo n lo hi) : ∀ (d i f b w : Nat), i + d = n → d < f → b < 4096 → w ≤ 17 → lp_X2_out_11 H f (zn b) (zn w) (zn i) s = some (zn (obF n lo hi d i b w), s) := by
  have hC' := hC
  have ok' := ok
  obtain ⟨c0, c1⟩ := hC
  obtain ⟨k0, k1⟩ := ok
  have h12 : 2 ^ n ≤ 4096 := pow_le (n := 12) k0
  obtain ⟨-, ⟨-, -, -, t4, t5, -⟩, ⟨-, -, -, n4, n5, -⟩⟩ := hH.c
  intro d
  induction d with
  | zero =>
    intro i f b w hi' hf hb hw
    obtain ⟨f, rfl⟩ : ∃ g, f = g + 1 := ⟨f - 1, by omega⟩
    have : ¬ zn i < zn n := by rw [zn_lt (by omega) (by omega)]; omega
    simp only [lp_X2_out_11, bd_X2_out_11, c0, this, if_false, obF]
  | succ d ih =>
    intro i f b w hi' hf hb hw
    obtain ⟨f, rfl⟩ : ∃ g, f = g + 1 := ⟨f - 1, by omega⟩
    have h1 : zn i < zn n := by rw [zn_lt (by omega) (by omega)]; omega
    have h2 : ¬ zn i < 0 := zn_neg (by omega)
    have h3 : (zn i).toNatClampNeg = i := zn_cl (by omega)
    have h4 : ¬ 12 ≤ i := by omega
    obtain ⟨e1, e2⟩ := c1 i (by omega)
    obtain ⟨q1, q2, q3⟩ := k1 i (by omega)
    have hl := nl_lt n lo hi (lo i)
    have hp := pc_le (nl n lo hi (lo i))
    simp only [lp_X2_out_11, bd_X2_out_11, m_X2_out_56, m_X2_out_62, c0, h1, if_true, t4, n4, h2, h3, h4, or_self, if_false, e1, notLetting_eq hH hC' ok' (show hB (lo i) by unfold hB; omega), zcl_some, bitCount_eq (show nl n lo hi (lo i) < 4096 by omega), zn_lt (show pc (nl n lo hi (lo i)) < 2147483648 by omega) (show w < 2147483648 by omega), zn_inj (show pc (nl n lo hi (lo i)) < 2147483648 by omega) (show w < 2147483648 by omega), zn_lt (show nl n lo hi (lo i) < 2147483648 by omega) (show b < 2147483648 by omega), zn_succ, obF]
    by_cases x1 : pc (nl n lo hi (lo i)) < w
    · rw [if_pos x1, if_pos (Or.inl x1)]
      exact ih (i + 1) f _ _ (by omega) (by omega) (by omega) (by omega)
    · rw [if_neg x1]
      by_cases x2 : pc (nl n lo hi (lo i)) = w
      · rw [if_pos x2]
        by_cases x3 : nl n lo hi (lo i) < b
        · rw [if_pos x3, if_pos (Or.inr ⟨x2, x3⟩)]
          exact ih (i + 1) f _ _ (by omega) (by omega) (by omega) (by omega)
        · rw [if_neg x3, if_neg (fun h => h.elim x1 (fun h => x3 h.2))]
          exact ih (i + 1) f _ _ (by omega) (by omega) hb hw
      · rw [if_neg x2, if_neg (fun h => h.elim x1 (fun h => x2 h.1))]
        exact ih (i + 1) f _ _ (by omega) (by omega) hb hw
/-- the class's choice: one of the sets, and of the least key -/
theorem obF_spec {n : Nat} (hn : n ≤ 12) (lo hi : Nat → Int) : ∀ (d i b w : Nat), i + d = n → ((i = 0 ∧ w = n + 1) ∨ (1 ≤ i ∧ w = pc b ∧ (∃ j, j < i ∧ b = nl n lo hi (lo j)) ∧ ∀ j, j < i → ky b ≤ ky (nl n lo hi (lo j)))) → 1 ≤ n → (∃ j, j < n ∧ obF n lo hi d i b w = nl n lo hi (lo j)) ∧ ∀ j, j < n → ky (obF n lo hi d i b w) ≤ ky (nl n lo hi (lo j)) := by
  have h12 : 2 ^ n ≤ 4096 := pow_le (n := 12) hn
  have hle : ∀ x, pc (nl n lo hi x) ≤ n := fun x => by
    have key : ∀ k, n ≤ k → pcn k (nl n lo hi x) = pcn n (nl n lo hi x) := by
      intro k
      induction k with
      | zero =>
        intro h
        have h0 : n = 0 := by omega
        subst h0
        rfl
      | succ k ih =>
        intro h
        by_cases hk : n = k + 1
        · subst hk; rfl
        · have hb : (nl n lo hi x).testBit k = false := by
            rw [nl_bit]
            have hkn : ¬ k < n := by omega
            simp [hkn]
          show pcn k _ + ((nl n lo hi x).testBit k).toNat = _
          rw [hb, ih (by omega)]; rfl
    have : pc (nl n lo hi x) = pcn n (nl n lo hi x) := key 16 (by omega)
    rw [this]
    exact pcn_le _ _
  intro d
  induction d with
  | zero =>
    intro i b w hi' hinv hn1
    rcases hinv with ⟨h, -⟩ | ⟨-, -, h1, h2⟩
    · omega
    · have : i = n := by omega
      subst this
      exact ⟨h1, h2⟩
  | succ d ih =>
    intro i b w hi' hinv hn1
    have hl := nl_lt n lo hi (lo i)
    have hp := hle (lo i)
    unfold obF
    by_cases hc : pc (nl n lo hi (lo i)) < w ∨ (pc (nl n lo hi (lo i)) = w ∧ nl n lo hi (lo i) < b)
    · rw [if_pos hc]
      refine ih (i + 1) _ _ (by omega) (Or.inr ⟨by omega, rfl, ⟨i, by omega, rfl⟩, fun j hj => ?_⟩) hn1
      by_cases hji : j = i
      · subst hji; exact Nat.le_refl _
      · rcases hinv with ⟨h, -⟩ | ⟨-, h0, ⟨j', hj', hb⟩, h2⟩
        · omega
        · have h3 := h2 j (by omega)
          have hbl := nl_lt n lo hi (lo j')
          rw [← hb] at hbl
          rw [h0] at hc
          exact Nat.le_trans (ky_le (by omega) (by omega) hc) h3
    · rw [if_neg hc]
      rcases hinv with ⟨h, hw⟩ | ⟨h, h0, h1, h2⟩
      · exfalso; apply hc; left; omega
      · obtain ⟨j', hj', hb⟩ := h1
        refine ih (i + 1) _ _ (by omega) (Or.inr ⟨by omega, h0, ⟨j', by omega, hb⟩, fun j hj => ?_⟩) hn1
        by_cases hji : j = i
        · subst hji
          have hbl := nl_lt n lo hi (lo j')
          rw [← hb] at hbl
          rw [h0] at hc
          exact ky_ge (by omega) (by omega) hc
        · exact h2 j (by omega)
