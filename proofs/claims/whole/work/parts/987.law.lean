/-! the law's loop -/
theorem law_lp {L : Nat} (hL : L ≤ 3072) (xv : Nat → Int32) : ∀ (d i f : Nat) (σ : zSt), L ≤ i + d → d < f → i ≤ 4000 → iAll σ → ∃ σe, lp_L_law_18 L xv f (zn i) σ = some (1, σe) := by
  intro d
  induction d with
  | zero =>
    intro i f σ hd hf hi hA
    obtain ⟨f, rfl⟩ : ∃ g, f = g + 1 := ⟨f - 1, by omega⟩
    have h1 : Int32.ofNat L - 6 < zn i := by
      rw [show Int32.ofNat L = zn L from rfl, zn_zi (by omega), zn_zi (by omega), show (6 : Int32) = zi 6 from rfl, zi_sub, zi_lt (by unfold zib; omega) (by unfold zib; omega)]
      omega
    exact ⟨σ, by simp only [lp_L_law_18, bd_L_law_18, h1, if_true]⟩
  | succ d ih =>
    intro i f σ hd hf hi hA
    obtain ⟨f, rfl⟩ : ∃ g, f = g + 1 := ⟨f - 1, by omega⟩
    by_cases hend : L < i + 6
    · have h1 : Int32.ofNat L - 6 < zn i := by
        rw [show Int32.ofNat L = zn L from rfl, zn_zi (by omega), zn_zi (by omega), show (6 : Int32) = zi 6 from rfl, zi_sub, zi_lt (by unfold zib; omega) (by unfold zib; omega)]
        omega
      exact ⟨σ, by simp only [lp_L_law_18, bd_L_law_18, h1, if_true]⟩
    have h1 : ¬ Int32.ofNat L - 6 < zn i := by
      rw [show Int32.ofNat L = zn L from rfl, zn_zi (by omega), zn_zi (by omega), show (6 : Int32) = zi 6 from rfl, zi_sub, zi_lt (by unfold zib; omega) (by unfold zib; omega)]
      omega
    have g : ∀ k, k < 6 → ¬ zn (i + k) < 0 ∧ (zn (i + k)).toNatClampNeg = i + k ∧ ¬ L ≤ i + k := fun k hk => ⟨zn_neg (by omega), zn_cl (by omega), by omega⟩
    have a1 : zn i + 1 = zn (i + 1) := zn_add i 1
    have a2 : zn i + 2 = zn (i + 2) := zn_add i 2
    have a3 : zn i + 3 = zn (i + 3) := zn_add i 3
    have a4 : zn i + 4 = zn (i + 4) := zn_add i 4
    have a5 : zn i + 5 = zn (i + 5) := zn_add i 5
    have a6 : zn i + 6 = zn (i + 6) := zn_add i 6
    obtain ⟨u0, v0, w0⟩ := g 0 (by omega)
    obtain ⟨u1, v1, w1⟩ := g 1 (by omega)
    obtain ⟨u2, v2, w2⟩ := g 2 (by omega)
    obtain ⟨u3, v3, w3⟩ := g 3 (by omega)
    obtain ⟨u4, v4, w4⟩ := g 4 (by omega)
    obtain ⟨u5, v5, w5⟩ := g 5 (by omega)
    rw [Nat.add_zero] at u0 v0 w0
    have nx : ∀ σ', iAll σ' → ∃ σe, m_L_law_822 L xv (fun l3 s => lp_L_law_18 L xv f l3 s) (zn i) σ' = some (1, σe) := fun σ' hA' => by
      unfold m_L_law_822
      rw [a6]
      exact ih (i + 6) f σ' (by omega) (by omega) (by omega) hA'
    rw [lp_L_law_18, bd_L_law_18, if_neg h1]
    simp only [a1, a2, a3, a4, a5, u0, v0, w0, u1, v1, w1, u2, v2, w2, u3, v3, w3, u4, v4, w4, u5, v5, w5, or_self, if_false]
    generalize xv i &&& 31 = x
    by_cases c0 : x = 0
    · rw [if_pos c0]
      obtain ⟨W, ⟨r, s1⟩, e1, ⟨r', s2⟩, e2, e3, e4, e5⟩ := a_feed hA (xv (i + 1)) (xv (i + 2)) (xv (i + 3)) (xv (i + 4)) (xv (i + 5))
      dsimp only at e2 e3 e4
      rw [e1, zcl_some, e2, zcl_some, if_pos e3]
      exact nx s2 e4
    rw [if_neg c0]
    by_cases c1 : x = 1
    · rw [if_pos c1]
      obtain ⟨W, ⟨r, s1⟩, e1, ⟨r', s2⟩, e2, e3, e4, e5⟩ := a_end hA (xv (i + 1))
      dsimp only at e2 e3 e4
      rw [e1, zcl_some, e2, zcl_some, if_pos e3]
      exact nx s2 e4
    rw [if_neg c1]
    by_cases c2 : x = 2
    · rw [if_pos c2]
      obtain ⟨W, ⟨r, s1⟩, e1, ⟨r', s2⟩, e2, e3, e4, e5⟩ := a_shed hA 
      dsimp only at e2 e3 e4
      rw [e1, zcl_some, e2, zcl_some, if_pos e3]
      exact nx s2 e4
    rw [if_neg c2]
    by_cases c3 : x = 3
    · rw [if_pos c3]
      obtain ⟨W, ⟨r, s1⟩, e1, ⟨r', s2⟩, e2, e3, e4, e5⟩ := a_houses hA 
      dsimp only at e2 e3 e4
      rw [e1, zcl_some, e2, zcl_some, if_pos e3]
      exact nx s2 e4
    rw [if_neg c3]
    by_cases c4 : x = 4
    · rw [if_pos c4]
      obtain ⟨W, ⟨r, s1⟩, e1, ⟨r', s2⟩, e2, e3, e4, e5⟩ := a_sum hA 
      dsimp only at e2 e3 e4
      rw [e1, zcl_some, e2, zcl_some, if_pos e3]
      exact nx s2 e4
    rw [if_neg c4]
    by_cases c5 : x = 5
    · rw [if_pos c5]
      obtain ⟨W, ⟨r, s1⟩, e1, ⟨r', s2⟩, e2, e3, e4, e5⟩ := a_fault hA (xv (i + 1))
      dsimp only at e2 e3 e4
      rw [e1, zcl_some, e2, zcl_some, if_pos e3]
      exact nx s2 e4
    rw [if_neg c5]
    by_cases c6 : x = 6
    · rw [if_pos c6]
      obtain ⟨W, ⟨r, s1⟩, e1, ⟨r', s2⟩, e2, e3, e4, e5⟩ := a_rest hA (xv (i + 1)) (xv (i + 2)) (xv (i + 3))
      dsimp only at e2 e3 e4
      rw [e1, zcl_some, e2, zcl_some, if_pos e3]
      exact nx s2 e4
    rw [if_neg c6]
    by_cases c7 : x = 7
    · rw [if_pos c7]
      obtain ⟨W, ⟨r, s1⟩, e1, ⟨r', s2⟩, e2, e3, e4, e5⟩ := a_turning hA (xv (i + 1)) (xv (i + 2)) (xv (i + 3)) (xv (i + 4))
      dsimp only at e2 e3 e4
      rw [e1, zcl_some, e2, zcl_some, if_pos e3]
      exact nx s2 e4
    rw [if_neg c7]
    by_cases c8 : x = 8
    · rw [if_pos c8]
      obtain ⟨W, ⟨r, s1⟩, e1, ⟨r', s2⟩, e2, e3, e4, e5⟩ := a_had hA (xv (i + 1)) (xv (i + 2)) (xv (i + 3)) (xv (i + 4)) (xv (i + 5))
      dsimp only at e2 e3 e4
      rw [e1, zcl_some, e2, zcl_some, if_pos e3]
      exact nx s2 e4
    rw [if_neg c8]
    by_cases c9 : x = 9
    · rw [if_pos c9]
      obtain ⟨W, ⟨r, s1⟩, e1, ⟨r', s2⟩, e2, e3, e4, e5⟩ := a_reading hA (xv (i + 1)) (xv (i + 2)) (xv (i + 3))
      dsimp only at e2 e3 e4
      rw [e1, zcl_some, e2, zcl_some, if_pos e3]
      exact nx s2 e4
    rw [if_neg c9]
    by_cases c10 : x = 10
    · rw [if_pos c10]
      obtain ⟨W, ⟨r, s1⟩, e1, ⟨r', s2⟩, e2, e3, e4, e5⟩ := a_untell hA (xv (i + 1))
      dsimp only at e2 e3 e4
      rw [e1, zcl_some, e2, zcl_some, if_pos e3]
      exact nx s2 e4
    rw [if_neg c10]
    by_cases c11 : x = 11
    · rw [if_pos c11]
      obtain ⟨W, ⟨r, s1⟩, e1, ⟨r', s2⟩, e2, e3, e4, e5⟩ := a_later hA (xv (i + 1))
      dsimp only at e2 e3 e4
      rw [e1, zcl_some, e2, zcl_some, if_pos e3]
      exact nx s2 e4
    rw [if_neg c11]
    by_cases c12 : x = 12
    · rw [if_pos c12]
      obtain ⟨W, ⟨r, s1⟩, e1, ⟨r', s2⟩, e2, e3, e4, e5⟩ := a_fit hA (xv (i + 1)) (xv (i + 2)) (xv (i + 3)) (xv (i + 4))
      dsimp only at e2 e3 e4
      rw [e1, zcl_some, e2, zcl_some, if_pos e3]
      exact nx s2 e4
    rw [if_neg c12]
    by_cases c13 : x = 13
    · rw [if_pos c13]
      obtain ⟨W, ⟨r, s1⟩, e1, ⟨r', s2⟩, e2, e3, e4, e5⟩ := a_world hA (xv (i + 1))
      dsimp only at e2 e3 e4
      rw [e1, zcl_some, e2, zcl_some, if_pos e3]
      exact nx s2 e4
    rw [if_neg c13]
    by_cases c14 : x = 14
    · rw [if_pos c14]
      obtain ⟨W, ⟨r, s1⟩, e1, ⟨r', s2⟩, e2, e3, e4, e5⟩ := a_order hA (xv (i + 1))
      dsimp only at e2 e3 e4
      rw [e1, zcl_some, e2, zcl_some, if_pos e3]
      exact nx s2 e4
    rw [if_neg c14]
    by_cases c15 : x = 15
    · rw [if_pos c15]
      obtain ⟨W, ⟨r, s1⟩, e1, ⟨r', s2⟩, e2, e3, e4, e5⟩ := a_agree hA (xv (i + 1))
      dsimp only at e2 e3 e4
      rw [e1, zcl_some, e2, zcl_some, if_pos e3]
      exact nx s2 e4
    rw [if_neg c15]
    by_cases c16 : x = 16
    · rw [if_pos c16]
      obtain ⟨W, ⟨r, s1⟩, e1, ⟨r', s2⟩, e2, e3, e4, e5⟩ := a_line hA (xv (i + 1)) (xv (i + 2))
      dsimp only at e2 e3 e4
      rw [e1, zcl_some, e2, zcl_some, if_pos e3]
      exact nx s2 e4
    rw [if_neg c16]
    by_cases c17 : x = 17
    · rw [if_pos c17]
      obtain ⟨W, ⟨r, s1⟩, e1, ⟨r', s2⟩, e2, e3, e4, e5⟩ := a_right hA 
      dsimp only at e2 e3 e4
      rw [e1, zcl_some, e2, zcl_some, if_pos e3]
      exact nx s2 e4
    rw [if_neg c17]
    by_cases c18 : x = 18
    · rw [if_pos c18]
      have key : ∀ p2 : Int32, (p2 = 0 ∨ p2 = 1) → p2 = (if xv (i + 2) = 0 then 0 else 1) → ∃ σe, m_L_law_730 L xv (fun l3 s => lp_L_law_18 L xv f l3 s) (zn i) 0 (xv (i + 1)) p2 σ = some (1, σe) := fun p2 hp hq => by
        obtain ⟨W, ⟨r, s1⟩, e1, ⟨r', s2⟩, e2, e3, e4, e5⟩ := a_result hA (xv (i + 1)) p2 hp
        dsimp only at e2 e3 e4
        obtain ⟨σe, he⟩ := nx s2 e4
        refine ⟨σe, ?_⟩
        simp only [m_L_law_730, m_L_law_752, e1, zcl_some, a1, a2, u1, v1, w1, u2, v2, w2, or_self, if_false]
        by_cases h0 : xv (i + 2) = 0
        · rw [if_pos h0] at hq ⊢
          subst hq
          rw [e2, zcl_some, if_pos e3]; exact he
        · rw [if_neg h0] at hq ⊢
          subst hq
          rw [e2, zcl_some, if_pos e3]; exact he
      by_cases h0 : xv (i + 2) = 0
      · rw [if_pos h0]
        exact key 0 (Or.inl rfl) (by rw [if_pos h0])
      · rw [if_neg h0]
        exact key 1 (Or.inr rfl) (by rw [if_neg h0])
    rw [if_neg c18]
    by_cases c19 : x = 19
    · rw [if_pos c19]
      obtain ⟨W, ⟨r, s1⟩, e1, ⟨r', s2⟩, e2, e3, e4, e5⟩ := a_maybe hA 
      dsimp only at e2 e3 e4
      rw [e1, zcl_some, e2, zcl_some, if_pos e3]
      exact nx s2 e4
    rw [if_neg c19]
    by_cases c20 : x = 20
    · rw [if_pos c20]
      obtain ⟨W, ⟨r, s1⟩, e1, ⟨r', s2⟩, e2, e3, e4, e5⟩ := a_next hA 
      dsimp only at e2 e3 e4
      rw [e1, zcl_some, e2, zcl_some, if_pos e3]
      exact nx s2 e4
    rw [if_neg c20]
    by_cases c21 : x = 21
    · rw [if_pos c21]
      obtain ⟨W, ⟨r, s1⟩, e1, ⟨r', s2⟩, e2, e3, e4, e5⟩ := a_fewest hA 
      dsimp only at e2 e3 e4
      rw [e1, zcl_some, e2, zcl_some, if_pos e3]
      exact nx s2 e4
    rw [if_neg c21]
    by_cases c22 : x = 22
    · rw [if_pos c22]
      obtain ⟨W, ⟨r, s1⟩, e1, ⟨r', s2⟩, e2, e3, e4, e5⟩ := a_about hA (xv (i + 1))
      dsimp only at e2 e3 e4
      rw [e1, zcl_some, e2, zcl_some, if_pos e3]
      exact nx s2 e4
    rw [if_neg c22]
    exact nx σ hA
