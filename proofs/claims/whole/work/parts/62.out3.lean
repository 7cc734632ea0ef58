def fe (n : Nat) (lo hi : Nat → Int) (x : Nat) : Bool := decide (mfr (adn (2 ^ n - 1) x) lo n 0 (-100000) ≤ mto (adn (2 ^ n - 1) x) hi n 0 100000)
def ooB (b : Option Nat) (x : Nat) : Option Nat := match b with
  | none => some x
  | some y => if pc x < pc y then some x else some y
def ooF (n : Nat) (lo hi : Nat → Int) : Nat → Nat → Option Nat → Option Nat
  | 0, _, b => b
  | d + 1, x, b => ooF n lo hi d (x + 1) (if fe n lo hi x = true then ooB b x else b)
theorem oo_lp {t : zSt} {n : Nat} {lo hi : Nat → Int} (hM : rHoM t n lo hi) (ok : okHo n lo hi) : ∀ (d x f : Nat) (b : Option Nat), x + d = 2 ^ n → d < f → (∀ z, b = some z → z < 4096) → lp_X9_outOf_13 64 f (zn (2 ^ n - 1)) (enc b) (zn x) t = some (enc (ooF n lo hi d x b), t) := by
  have h12 : 2 ^ n ≤ 4096 := pow_le (n := 12) ok.1
  have h1 : 1 ≤ 2 ^ n := Nat.one_le_two_pow
  intro d
  induction d with
  | zero =>
    intro x f b hx hf hb
    obtain ⟨f, rfl⟩ : ∃ g, f = g + 1 := ⟨f - 1, by omega⟩
    have : zn (2 ^ n - 1) < zn x := by rw [zn_lt (by omega) (by omega)]; omega
    simp only [lp_X9_outOf_13, bd_X9_outOf_13, this, if_true, ooF]
  | succ d ih =>
    intro x f b hx hf hb
    obtain ⟨f, rfl⟩ : ∃ g, f = g + 1 := ⟨f - 1, by omega⟩
    have h2 : ¬ zn (2 ^ n - 1) < zn x := by rw [zn_lt (by omega) (by omega)]; omega
    obtain ⟨m1, m2, m3⟩ := moreOf_eq hM ok (set := adn (2 ^ n - 1) x) (Nat.lt_of_le_of_lt (adn_le _ _) (by omega))
    have z : (zi (mval (mfr (adn (2 ^ n - 1) x) lo n 0 (-100000)) (mto (adn (2 ^ n - 1) x) hi n 0 100000)) = 0) ↔ fe n lo hi x = true := by
      unfold fe
      generalize mfr (adn (2 ^ n - 1) x) lo n 0 (-100000) = a at *
      generalize mto (adn (2 ^ n - 1) x) hi n 0 100000 = c at *
      unfold hB at m2 m3
      rw [decide_eq_true_iff, show (0 : Int32) = zi 0 from rfl]
      unfold mval
      by_cases hc : c < a
      · rw [if_pos hc, zi_inj (by unfold zib; omega) (by unfold zib; omega)]
        omega
      · rw [if_neg hc]
        exact ⟨fun _ => by omega, fun _ => rfl⟩
    simp only [lp_X9_outOf_13, bd_X9_outOf_13, m_X9_outOf_45, m_X9_outOf_47, h2, if_false, zn_andn, m1, zcl_some, z, zn_succ, ooF]
    by_cases hfe : fe n lo hi x = true
    · rw [if_pos hfe, if_pos hfe]
      cases b with
      | none =>
        rw [if_pos (show enc none < 0 by decide)]
        exact ih (x + 1) f (some x) (by omega) (by omega) (fun z hz => by cases hz; omega)
      | some y =>
        have hy := hb y rfl
        have hn : ¬ enc (some y) < 0 := zn_neg (by omega)
        have p1 := pc_le x
        have p2 := pc_le y
        rw [if_neg hn, enc_some, ones_eq (by omega), zcl_some, ones_eq (by omega), zcl_some]
        show _ = some (enc (ooF n lo hi d (x + 1) (if pc x < pc y then some x else some y)), t)
        by_cases hl : pc x < pc y
        · rw [if_pos ((zn_lt (by omega) (by omega)).2 hl), if_pos hl]
          exact ih (x + 1) f (some x) (by omega) (by omega) (fun z hz => by cases hz; omega)
        · rw [if_neg (fun h => hl ((zn_lt (by omega) (by omega)).1 h)), if_neg hl]
          exact ih (x + 1) f (some y) (by omega) (by omega) hb
    · rw [if_neg hfe, if_neg hfe]
      exact ih (x + 1) f b (by omega) (by omega) hb
