theorem ooF_spec {n : Nat} (lo hi : Nat → Int) (hn : n ≤ 12) : ∀ (d x : Nat) (b : Option Nat), x + d = 2 ^ n → (∀ y, b = some y → y < x ∧ fe n lo hi y = true) → (∀ z, z < x → fe n lo hi z = true → ∃ y, b = some y ∧ ky y ≤ ky z) → (∀ y, ooF n lo hi d x b = some y → y < 2 ^ n ∧ fe n lo hi y = true) ∧ ∀ z, z < 2 ^ n → fe n lo hi z = true → ∃ y, ooF n lo hi d x b = some y ∧ ky y ≤ ky z := by
  have h12 : 2 ^ n ≤ 4096 := pow_le (n := 12) hn
  intro d
  induction d with
  | zero =>
    intro x b hx h1 h2
    have : x = 2 ^ n := by omega
    subst this
    exact ⟨h1, h2⟩
  | succ d ih =>
    intro x b hx h1 h2
    show (∀ y, ooF n lo hi d (x + 1) (if fe n lo hi x = true then ooB b x else b) = some y → _) ∧ ∀ z, _ → _ → ∃ y, ooF n lo hi d (x + 1) (if fe n lo hi x = true then ooB b x else b) = some y ∧ _
    by_cases hf : fe n lo hi x = true
    · rw [if_pos hf]
      refine ih (x + 1) _ (by omega) ?_ ?_
      · intro y hy
        cases b with
        | none => cases hy; exact ⟨by omega, hf⟩
        | some w =>
          obtain ⟨g1, g2⟩ := h1 w rfl
          have hy' : (if pc x < pc w then some x else some w) = some y := hy
          split at hy'
          · cases hy'; exact ⟨by omega, hf⟩
          · cases hy'; exact ⟨by omega, g2⟩
      · intro z hz hfz
        cases b with
        | none =>
          by_cases hzx : z = x
          · subst hzx; exact ⟨z, rfl, Nat.le_refl _⟩
          · obtain ⟨y, hy, -⟩ := h2 z (by omega) hfz
            cases hy
        | some w =>
          obtain ⟨g1, g2⟩ := h1 w rfl
          by_cases hl : pc x < pc w
          · refine ⟨x, by show (if pc x < pc w then some x else some w) = some x; rw [if_pos hl], ?_⟩
            by_cases hzx : z = x
            · subst hzx; exact Nat.le_refl _
            · obtain ⟨y, hy, hk⟩ := h2 z (by omega) hfz
              cases hy
              exact Nat.le_trans (ky_le (by omega) (by omega) (Or.inl hl)) hk
          · refine ⟨w, by show (if pc x < pc w then some x else some w) = some w; rw [if_neg hl], ?_⟩
            by_cases hzx : z = x
            · subst hzx
              exact ky_ge (by omega) (by omega) (fun h => h.elim hl (fun h => by omega))
            · obtain ⟨y, hy, hk⟩ := h2 z (by omega) hfz
              cases hy
              exact hk
    · rw [if_neg hf]
      refine ih (x + 1) b (by omega) (fun y hy => ⟨by have := (h1 y hy).1; omega, (h1 y hy).2⟩) ?_
      intro z hz hfz
      by_cases hzx : z = x
      · subst hzx; exact absurd hfz hf
      · exact h2 z (by omega) hfz
theorem ky_inj {x y : Nat} (hx : x < 4096) (hy : y < 4096) (h1 : ky x ≤ ky y) (h2 : ky y ≤ ky x) : x = y := by
  unfold ky at h1 h2
  generalize pc x = P at *
  generalize pc y = Q at *
  omega
theorem ky_sub {x y : Nat} (h : ∀ i, x.testBit i = true → y.testBit i = true) : ky x ≤ ky y := by
  have h1 := le_of_bits h
  have h2 := pc_split y x
  have h3 : y &&& x = x := Nat.eq_of_testBit_eq (fun i => by
    rw [Nat.testBit_and]
    cases hx : x.testBit i
    · simp
    · rw [h i hx]; rfl)
  rw [h3] at h2
  unfold ky
  generalize pc x = P at *
  generalize pc y = Q at *
  generalize pc (adn y x) = R at *
  omega
