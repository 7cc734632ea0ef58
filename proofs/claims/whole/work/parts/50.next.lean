/-! the next trial -/
theorem pcn_split (k a b : Nat) : pcn k a = pcn k (a &&& b) + pcn k (adn a b) := by
  induction k with
  | zero => rfl
  | succ k ih =>
    show pcn k a + (a.testBit k).toNat = (pcn k (a &&& b) + ((a &&& b).testBit k).toNat) + (pcn k (adn a b) + ((adn a b).testBit k).toNat)
    rw [Nat.testBit_and, adn_bit, ih]
    cases a.testBit k <;> cases b.testBit k <;> simp <;> omega
theorem pc_split (a b : Nat) : pc a = pc (a &&& b) + pc (adn a b) := pcn_split 16 a b
def nxg (all : Nat) (sh : Nat → Nat) (i : Nat) : Nat := max (pc (all &&& sh i)) (pc (adn all (sh i)))
def nxF (all kn : Nat) (sh : Nat → Nat) : Nat → Nat → Int32 → Nat → Int32
  | 0, _, b, _ => b
  | d + 1, i, b, l => if kn.testBit i = false ∧ nxg all sh i < l then nxF all kn sh d (i + 1) (zn i) (nxg all sh i) else nxF all kn sh d (i + 1) b l
theorem max_eq (a b : Nat) (ha : a < 2147483648) (hb : b < 2147483648) (s : zSt) : m_J9_max_7cf53 (zn a) (zn b) s = some (zn (max a b), s) := by
  unfold m_J9_max_7cf53
  rw [Nat.max_def]
  by_cases h : a < b
  · rw [if_pos ((zn_lt ha hb).2 h), if_pos (by omega)]
  · rw [if_neg (fun hc => h ((zn_lt ha hb).1 hc))]
    by_cases h2 : a ≤ b
    · rw [if_pos h2]; congr 3; omega
    · rw [if_neg h2]
theorem best_lp {S : Nat} (hS : isS S) {s : zSt} {nc nt kn po : Nat} {sh : Nat → Nat} (hC : rCauC S s nc nt kn po sh) (ok : okCau nc nt kn po sh) {all : Nat} (ha : all < 256) : ∀ (d i f l : Nat) (b : Int32), i + d = nt → d < f → l ≤ 16 → lp_X0_bestTrial_15 (S + 1) f (zn all) b (zn l) (zn i) s = some (nxF all kn sh d i b l, s) := by
  obtain ⟨c0, c1, c2, c3, c4⟩ := hC
  obtain ⟨k0, k1, k2, k3, k4⟩ := ok
  obtain ⟨t0, t1, t2, t3, t4, t5⟩ := hS.c2
  intro d
  induction d with
  | zero =>
    intro i f l b hi hf hl
    obtain ⟨f, rfl⟩ : ∃ g, f = g + 1 := ⟨f - 1, by omega⟩
    have : ¬ zn i < zn nt := by rw [zn_lt (by omega) (by omega)]; omega
    simp only [lp_X0_bestTrial_15, bd_X0_bestTrial_15, c1, this, if_false, nxF]
  | succ d ih =>
    intro i f l b hi hf hl
    obtain ⟨f, rfl⟩ : ∃ g, f = g + 1 := ⟨f - 1, by omega⟩
    have h1 : zn i < zn nt := by rw [zn_lt (by omega) (by omega)]; omega
    have h2 : ¬ zn i < 0 := zn_neg (by omega)
    have h3 : (zn i).toNatClampNeg = i := zn_cl (by omega)
    have h4 : ¬ 8 ≤ i := by omega
    have a1 : all &&& sh i < 4096 := Nat.lt_of_le_of_lt Nat.and_le_left (by omega)
    have a2 : adn all (sh i) < 4096 := Nat.lt_of_le_of_lt (adn_le _ _) (by omega)
    have p1 := pc_le (all &&& sh i)
    have p2 := pc_le (adn all (sh i))
    have p3 : nxg all sh i ≤ 16 := by unfold nxg; omega
    simp only [lp_X0_bestTrial_15, bd_X0_bestTrial_15, m_X0_bestTrial_79, c1, h1, if_true, c2, zn_shr (show kn < 2147483648 by omega) (show i < 32 by omega), zn_b0, t2, t3, h2, h3, h4, or_self, if_false, c4 i (by omega), zn_andn, zn_and, zn_succ, bitCount_eq a1, bitCount_eq a2, zcl_some, max_eq _ _ (show pc (all &&& sh i) < 2147483648 by omega) (show pc (adn all (sh i)) < 2147483648 by omega), nxF]
    rw [show max (pc (all &&& sh i)) (pc (adn all (sh i))) = nxg all sh i from rfl]
    simp only [zn_lt (show nxg all sh i < 2147483648 by omega) (show l < 2147483648 by omega)]
    by_cases hk : kn.testBit i = false
    · by_cases hg : nxg all sh i < l
      · simp only [hk, hg, if_true, and_self]
        exact ih (i + 1) f _ _ (by omega) (by omega) p3
      · simp only [hk, hg, if_true, if_false, and_false]
        exact ih (i + 1) f _ _ (by omega) (by omega) hl
    · simp only [hk, if_false, false_and]
      exact ih (i + 1) f _ _ (by omega) (by omega) hl
theorem next_lp {t : zSt} {nc nt kn po : Nat} {sh : Nat → Nat} (hC : rCauM t nc nt kn po sh) (ok : okCau nc nt kn po sh) {all : Nat} (ha : all < 256) : ∀ (d i f l l' : Nat) (b : Int32), i + d = nt → d < f → ((b = -1 ∧ l = pc all) ∨ (¬ b < 0 ∧ l' = l ∧ l < pc all)) → l' ≤ 16 → lp_X9_next_12 64 f (zn all) b (zn l') (zn i) t = some (nxF all kn sh d i b l, t) := by
  obtain ⟨c0, c1, c2, c3⟩ := hC
  obtain ⟨k0, k1, k2, k3, k4⟩ := ok
  intro d
  induction d with
  | zero =>
    intro i f l l' b hi hf hr hl
    obtain ⟨f, rfl⟩ : ∃ g, f = g + 1 := ⟨f - 1, by omega⟩
    have : ¬ zn i < zn nt := by rw [zn_lt (by omega) (by omega)]; omega
    simp only [lp_X9_next_12, bd_X9_next_12, c1, this, if_false, nxF]
  | succ d ih =>
    intro i f l l' b hi hf hr hl
    obtain ⟨f, rfl⟩ : ∃ g, f = g + 1 := ⟨f - 1, by omega⟩
    have h1 : zn i < zn nt := by rw [zn_lt (by omega) (by omega)]; omega
    have h2 : ¬ zn i < 0 := zn_neg (by omega)
    have h3 : (zn i).toNatClampNeg = i := zn_cl (by omega)
    have h4 : ¬ 8 ≤ i := by omega
    obtain ⟨c4, -⟩ := c3 i (by omega)
    have a1 : all &&& sh i < 2147483648 := Nat.lt_of_le_of_lt Nat.and_le_left (by omega)
    have a2 : adn all (sh i) < 2147483648 := Nat.lt_of_le_of_lt (adn_le _ _) (by omega)
    have p1 := pc_le (all &&& sh i)
    have p2 := pc_le (adn all (sh i))
    have hsp := pc_split all (sh i)
    have p3 : nxg all sh i ≤ 16 := by unfold nxg; omega
    have eg : nxg all sh i = max (pc (all &&& sh i)) (pc (adn all (sh i))) := rfl
    generalize hA : pc (all &&& sh i) = A at *
    generalize hB : pc (adn all (sh i)) = B at *
    generalize hG : nxg all sh i = G at *
    have z0 : ∀ n : Nat, n ≤ 16 → (zn n = 0 ↔ n = 0) := fun n hn => zn_inj (b := 0) (by omega) (by omega)
    have step : m_X9_next_65 64 (fun l1 l2 l3 l4 s => lp_X9_next_12 64 f l1 l2 l3 l4 s) (zn all) b (zn l') (zn i) (zn A) (zn B) (zn G) t = some (nxF all kn sh (d + 1) i b l, t) := by
      simp only [m_X9_next_65, m_X9_next_106, m_X9_next_100, zT_64_69, zN_105, h2, h3, h4, or_self, if_false, c4, zn_b0, z0 A p1, z0 B p2, zn_succ, nxF, hG, zn_lt (show G < 2147483648 by omega) (show l' < 2147483648 by omega)]
      by_cases hk : kn.testBit i = false
      · simp only [hk, if_true, true_and]
        by_cases hA0 : A = 0
        · have : ¬ G < l := by omega
          simp only [hA0, if_true, this, if_false]
          exact ih (i + 1) f _ _ _ (by omega) (by omega) hr hl
        by_cases hB0 : B = 0
        · have : ¬ G < l := by omega
          simp only [hA0, hB0, if_true, this, if_false]
          exact ih (i + 1) f _ _ _ (by omega) (by omega) hr hl
        simp only [hA0, hB0, if_false]
        by_cases hb : b < 0
        · have hr' : b = -1 ∧ l = pc all := hr.resolve_right (fun h => h.1 hb)
          have : G < l := by omega
          simp only [hb, if_true, this]
          exact ih (i + 1) f _ _ _ (by omega) (by omega) (Or.inr ⟨h2, rfl, by omega⟩) (by omega)
        · have hr' := hr.resolve_left (fun h => hb (by rw [h.1]; decide))
          obtain ⟨-, r1, r2⟩ := hr'
          subst r1
          by_cases hg : G < l'
          · simp only [hb, if_false, hg, if_true]
            exact ih (i + 1) f _ _ _ (by omega) (by omega) (Or.inr ⟨h2, rfl, by omega⟩) (by omega)
          · simp only [hb, if_false, hg]
            exact ih (i + 1) f _ _ _ (by omega) (by omega) hr hl
      · simp only [hk, if_false, false_and]
        exact ih (i + 1) f _ _ _ (by omega) (by omega) hr hl
    simp only [lp_X9_next_12, bd_X9_next_12, c1, h1, if_true, zT_64_14, zN_69, h2, h3, h4, or_self, if_false, c2 i (by omega), zn_andn, zn_and, ones_eq a1, ones_eq a2, zcl_some, hA, hB]
    by_cases hlt : B < A
    · have e : G = A := by omega
      rw [if_pos ((zn_lt (by omega) (by omega)).2 hlt)]
      rw [e] at step
      exact step
    · have e : G = B := by omega
      rw [if_neg (fun h => hlt ((zn_lt (by omega) (by omega)).1 h))]
      rw [e] at step
      exact step
theorem call_next {σ : zSt} {S : Nat} (hS : isS S) (h1 : zR σ 0 2 = S) {nc nt kn po : Nat} {sh : Nat → Nat} (hC : rCauC S σ nc nt kn po sh) (hM : rCauM σ nc nt kn po sh) (ok : okCau nc nt kn po sh) : zCa (fun _ => True) (fun _ _ => False) (m_X8_next 0) (m_X9_next 64) σ := by
  have hlt := may_lt nc nt kn po sh
  have h8 := pow8 ok.1
  have hp := pc_le (may nc nt kn po sh)
  refine zCa.mk (r := nxF (may nc nt kn po sh) kn sh nt 0 (-1) (pc (may nc nt kn po sh))) (σ1 := σ) (σ2 := σ) ?_ ?_ trivial zOf.rf
  · simp only [m_X8_next, h1, hS.c2.1, hS.c2.2.1, if_true, m_X0_bestTrial, possible_eq hS hC ok, zcl_some, bitCount_eq (show may nc nt kn po sh < 4096 by omega)]
    rw [show (0 : Int32) = zn 0 from rfl, best_lp hS hC ok (by omega) nt 0 zFuel _ _ (by omega) (by have := ok.2.1; unfold zFuel; omega) hp, zcl_some]
  · simp only [m_X9_next, mayBe_eq hM ok, zcl_some]
    exact next_lp hM ok (by omega) nt 0 zFuel _ 0 _ (by omega) (by have := ok.2.1; unfold zFuel; omega) (Or.inl ⟨rfl, rfl⟩) (by omega)
