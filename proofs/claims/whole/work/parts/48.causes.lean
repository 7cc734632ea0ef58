/-! causes and trials -/
def mayF (kn po : Nat) (sh : Nat → Nat) : Nat → Nat → Nat → Nat
  | 0, _, a => a
  | d + 1, i, a => mayF kn po sh d (i + 1) (if kn.testBit i then (if po.testBit i then a &&& sh i else adn a (sh i)) else a)
theorem mayF_le (kn po : Nat) (sh : Nat → Nat) : ∀ d i a, mayF kn po sh d i a ≤ a := by
  intro d
  induction d with
  | zero => intro i a; exact Nat.le_refl _
  | succ d ih =>
    intro i a
    refine Nat.le_trans (ih _ _) ?_
    split
    · split
      · exact Nat.and_le_left
      · exact adn_le _ _
    · exact Nat.le_refl _
def may (nc nt kn po : Nat) (sh : Nat → Nat) : Nat := mayF kn po sh nt 0 (2 ^ nc - 1)
theorem may_lt (nc nt kn po : Nat) (sh : Nat → Nat) : may nc nt kn po sh < 2 ^ nc := by
  have := mayF_le kn po sh nt 0 (2 ^ nc - 1)
  have h1 : 1 ≤ 2 ^ nc := Nat.one_le_two_pow
  unfold may
  omega
/-- the class's causes at S + 1 and the model's, told by the numbers nc, nt, the sets kn, po and what each trial shows -/
def rCauC (S : Nat) (s : zSt) (nc nt kn po : Nat) (sh : Nat → Nat) : Prop := zI s (S + 1) 0 = zn nc ∧ zI s (S + 1) 1 = zn nt ∧ zI s (S + 1) 6 = zn kn ∧ zI s (S + 1) 7 = zn po ∧ ∀ k : Nat, k < nt → zI s (S + 4) k = zn (sh k)
def rCauM (t : zSt) (nc nt kn po : Nat) (sh : Nat → Nat) : Prop := zI t 64 21 = zn nc ∧ zI t 64 22 = zn nt ∧ (∀ k : Nat, k < nt → zI t 69 k = zn (sh k)) ∧ ∀ k : Nat, k < nt → zI t 105 k = zn (kn.testBit k).toNat ∧ (kn.testBit k = true → zI t 106 k = zn (po.testBit k).toNat)
def okCau (nc nt kn po : Nat) (sh : Nat → Nat) : Prop := nc ≤ 8 ∧ nt ≤ 8 ∧ kn < 256 ∧ po < 256 ∧ ∀ k : Nat, k < nt → sh k < 2 ^ nc
theorem isS.c2 {S : Nat} (h : isS S) : zC S = 5 ∧ zT S 1 = S + 1 ∧ zT (S + 1) 4 = S + 4 ∧ zN (S + 4) = 8 ∧ zT (S + 1) 5 = S + 5 ∧ zN (S + 5) = 256 := by
  rcases h with rfl | rfl <;> exact ⟨rfl, rfl, rfl, rfl, rfl, rfl⟩
theorem pow8 {nc : Nat} (h : nc ≤ 8) : 2 ^ nc ≤ 256 := pow_le (n := 8) h
theorem pos_lp {S : Nat} (hS : isS S) {s : zSt} {nc nt kn po : Nat} {sh : Nat → Nat} (hC : rCauC S s nc nt kn po sh) (ok : okCau nc nt kn po sh) : ∀ (d i f a : Nat), i + d = nt → d < f → lp_X0_possible_11 (S + 1) f (zn a) (zn i) s = some (zn (mayF kn po sh d i a), s) := by
  obtain ⟨c0, c1, c2, c3, c4⟩ := hC
  obtain ⟨k0, k1, k2, k3, k4⟩ := ok
  obtain ⟨t0, t1, t2, t3, t4, t5⟩ := hS.c2
  intro d
  induction d with
  | zero =>
    intro i f a hi hf
    obtain ⟨f, rfl⟩ : ∃ g, f = g + 1 := ⟨f - 1, by omega⟩
    have : ¬ zn i < zn nt := by rw [zn_lt (by omega) (by omega)]; omega
    simp only [lp_X0_possible_11, bd_X0_possible_11, c1, this, if_false, mayF]
  | succ d ih =>
    intro i f a hi hf
    obtain ⟨f, rfl⟩ : ∃ g, f = g + 1 := ⟨f - 1, by omega⟩
    have h1 : zn i < zn nt := by rw [zn_lt (by omega) (by omega)]; omega
    have h2 : ¬ zn i < 0 := zn_neg (by omega)
    have h3 : (zn i).toNatClampNeg = i := zn_cl (by omega)
    have h4 : ¬ 8 ≤ i := by omega
    simp only [lp_X0_possible_11, bd_X0_possible_11, m_X0_possible_61, m_X0_possible_63, c1, h1, if_true, c2, c3, zn_shr (show kn < 2147483648 by omega) (show i < 32 by omega), zn_shr (show po < 2147483648 by omega) (show i < 32 by omega), zn_b1, t2, t3, h2, h3, h4, or_self, if_false, c4 i (by omega), zn_andn, zn_and, zn_succ, mayF]
    cases kn.testBit i
    · simp only [Bool.false_eq_true, if_false]
      exact ih (i + 1) f _ (by omega) (by omega)
    · cases po.testBit i
      · simp only [if_true, Bool.false_eq_true, if_false]
        exact ih (i + 1) f _ (by omega) (by omega)
      · simp only [if_true]
        exact ih (i + 1) f _ (by omega) (by omega)
theorem possible_eq {S : Nat} (hS : isS S) {s : zSt} {nc nt kn po : Nat} {sh : Nat → Nat} (hC : rCauC S s nc nt kn po sh) (ok : okCau nc nt kn po sh) : m_X0_possible (S + 1) s = some (zn (may nc nt kn po sh), s) := by
  unfold m_X0_possible
  rw [hC.1, zn_full (by have := ok.1; omega)]
  exact pos_lp hS hC ok nt 0 zFuel _ (by omega) (by have := ok.2.1; unfold zFuel; omega)
theorem mayBe_lp {t : zSt} {nc nt kn po : Nat} {sh : Nat → Nat} (hC : rCauM t nc nt kn po sh) (ok : okCau nc nt kn po sh) : ∀ (d i f a : Nat), i + d = nt → d < f → lp_X9_mayBe_11 64 f (zn a) (zn i) t = some (zn (mayF kn po sh d i a), t) := by
  obtain ⟨c0, c1, c2, c3⟩ := hC
  obtain ⟨k0, k1, k2, k3, k4⟩ := ok
  intro d
  induction d with
  | zero =>
    intro i f a hi hf
    obtain ⟨f, rfl⟩ : ∃ g, f = g + 1 := ⟨f - 1, by omega⟩
    have : ¬ zn i < zn nt := by rw [zn_lt (by omega) (by omega)]; omega
    simp only [lp_X9_mayBe_11, bd_X9_mayBe_11, c1, this, if_false, mayF]
  | succ d ih =>
    intro i f a hi hf
    obtain ⟨f, rfl⟩ : ∃ g, f = g + 1 := ⟨f - 1, by omega⟩
    have h1 : zn i < zn nt := by rw [zn_lt (by omega) (by omega)]; omega
    have h2 : ¬ zn i < 0 := zn_neg (by omega)
    have h3 : (zn i).toNatClampNeg = i := zn_cl (by omega)
    have h4 : ¬ 8 ≤ i := by omega
    obtain ⟨c4, c5⟩ := c3 i (by omega)
    simp only [lp_X9_mayBe_11, bd_X9_mayBe_11, m_X9_mayBe_55, m_X9_mayBe_57, c1, h1, if_true, zT_64_69, zT_64_70, zT_64_14, zN_105, zN_106, zN_69, h2, h3, h4, or_self, if_false, c4, zn_b0, c2 i (by omega), zn_andn, zn_and, zn_succ, mayF]
    cases hk : kn.testBit i
    · simp only [Bool.false_eq_true, if_false, if_true]
      exact ih (i + 1) f _ (by omega) (by omega)
    · rw [hk] at c5
      rw [c5 rfl]
      cases hp : po.testBit i
      · simp only [zn_b0, if_true, Bool.false_eq_true, Bool.true_eq_false, if_false]
        exact ih (i + 1) f _ (by omega) (by omega)
      · simp only [zn_b0, if_true, Bool.true_eq_false, if_false]
        exact ih (i + 1) f _ (by omega) (by omega)
theorem mayBe_eq {t : zSt} {nc nt kn po : Nat} {sh : Nat → Nat} (hC : rCauM t nc nt kn po sh) (ok : okCau nc nt kn po sh) : m_X9_mayBe 64 t = some (zn (may nc nt kn po sh), t) := by
  unfold m_X9_mayBe
  rw [hC.1, zn_full (by have := ok.1; omega)]
  exact mayBe_lp hC ok nt 0 zFuel _ (by omega) (by have := ok.2.1; unfold zFuel; omega)
theorem call_maybe {σ : zSt} {S : Nat} (hS : isS S) (h1 : zR σ 0 2 = S) {nc nt kn po : Nat} {sh : Nat → Nat} (hC : rCauC S σ nc nt kn po sh) (hM : rCauM σ nc nt kn po sh) (ok : okCau nc nt kn po sh) : zCa (fun _ => True) (fun _ _ => False) (m_X8_maybe 0) (m_X9_maybe 64) σ := by
  refine zCa.mk (r := zn (may nc nt kn po sh)) (σ1 := σ) (σ2 := σ) ?_ ?_ trivial zOf.rf
  · simp only [m_X8_maybe, h1, hS.c2.1, hS.c2.2.1, if_true, possible_eq hS hC ok, zcl_some]
  · simp only [m_X9_maybe, mayBe_eq hM ok, zcl_some]
