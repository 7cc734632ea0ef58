theorem ps_in {t : zSt} {n : Nat} (hn : n ≤ 12) {E : Nat → Nat → Bool} (c0 : zI t 64 49 = zn n) (hE : sh2 t 87 88 n E) {kk : Int32 → Int32 → Int32 → Int32 → Int32 → zSt → Option (Int32 × zSt)} {l1 l2 l4 : Int32} {a : Nat} (ha : a < n) : ∀ (d b f S : Nat), b + d = n → d < f → S < 2 ^ n → lp_X9_partsOf_47 64 kk f l1 l2 (zn S) l4 (zn a) (zn b) t = kk l1 l2 (zn (inF E a d b S)) l4 (zn a) t := by
  have h12 : 2 ^ n ≤ 4096 := pow_le (n := 12) hn
  intro d
  induction d with
  | zero =>
    intro b f S hb hf hS
    obtain ⟨f, rfl⟩ : ∃ g, f = g + 1 := ⟨f - 1, by omega⟩
    have : ¬ zn b < zn n := by rw [zn_lt (by omega) (by omega)]; omega
    simp only [lp_X9_partsOf_47, bd_X9_partsOf_47, c0, this, if_false, inF]
  | succ d ih =>
    intro b f S hb hf hS
    obtain ⟨f, rfl⟩ : ∃ g, f = g + 1 := ⟨f - 1, by omega⟩
    have h1 : zn b < zn n := by rw [zn_lt (by omega) (by omega)]; omega
    have h2 : ¬ zn b < 0 := zn_neg (by omega)
    have h3 : (zn b).toNatClampNeg = b := zn_cl (by omega)
    have h4 : ¬ 12 ≤ b := by omega
    have h5 : ¬ zn a < 0 := zn_neg (by omega)
    have h6 : (zn a).toNatClampNeg = a := zn_cl (by omega)
    have h7 : ¬ 12 ≤ a := by omega
    have sl : (1 : Int32) <<< (zn b &&& 31) = zn (2 ^ b) := zn_shl ⟨b, by omega⟩
    have hEE := hE a b ha (by omega)
    simp only [lp_X9_partsOf_47, bd_X9_partsOf_47, m_X9_partsOf_102, m_X9_partsOf_109, c0, h1, if_true, zn_shr (show S < 2147483648 by omega) (show a < 32 by omega), zn_b1, zT_64_42, zT_64_43, zN_87, zN_88, h2, h3, h4, h5, h6, h7, or_self, if_false, sl, zn_or, zn_succ, inF]
    by_cases hb' : S.testBit a = true
    · rw [if_pos hb']
      by_cases x1 : zL t 87 a = zL t 87 b
      · rw [if_pos x1, if_pos ⟨hb', hEE.1 (Or.inl x1)⟩]
        exact ih (b + 1) f _ (by omega) (by omega) (or_lt hS (by omega))
      · rw [if_neg x1]
        by_cases x2 : zL t 88 a = zL t 88 b
        · rw [if_pos x2, if_pos ⟨hb', hEE.1 (Or.inr x2)⟩]
          exact ih (b + 1) f _ (by omega) (by omega) (or_lt hS (by omega))
        · rw [if_neg x2, if_neg (fun h => (hEE.2 h.2).elim x1 x2)]
          exact ih (b + 1) f _ (by omega) (by omega) hS
    · rw [if_neg hb', if_neg (fun h => hb' h.1)]
      exact ih (b + 1) f _ (by omega) (by omega) hS
theorem ps_ou {t : zSt} {n : Nat} (hn : n ≤ 12) {E : Nat → Nat → Bool} (c0 : zI t 64 49 = zn n) (hE : sh2 t 87 88 n E) {kk : Int32 → Int32 → Int32 → Int32 → zSt → Option (Int32 × zSt)} {l1 l2 l4 : Int32} : ∀ (d a f S : Nat), a + d = n → d < f → S < 2 ^ n → lp_X9_partsOf_35 64 kk f l1 l2 (zn S) l4 (zn a) t = kk l1 l2 (zn (ouF n E d a S)) l4 t := by
  intro d
  induction d with
  | zero =>
    intro a f S ha hf hS
    obtain ⟨f, rfl⟩ : ∃ g, f = g + 1 := ⟨f - 1, by omega⟩
    have : ¬ zn a < zn n := by rw [zn_lt (by omega) (by omega)]; omega
    simp only [lp_X9_partsOf_35, bd_X9_partsOf_35, c0, this, if_false, ouF]
  | succ d ih =>
    intro a f S ha hf hS
    obtain ⟨f, rfl⟩ : ∃ g, f = g + 1 := ⟨f - 1, by omega⟩
    have h1 : zn a < zn n := by rw [zn_lt (by omega) (by omega)]; omega
    have hb := ps_in hn c0 hE (kk := fun l1_1 l2_1 l3_1 l4_1 l5_1 s_1 => lp_X9_partsOf_35 64 kk f l1_1 l2_1 l3_1 l4_1 (l5_1 + 1) s_1) (l1 := l1) (l2 := l2) (l4 := l4) (show a < n by omega) n 0 zFuel S (by omega) (by unfold zFuel; omega) hS
    rw [lp_X9_partsOf_35, bd_X9_partsOf_35, c0, if_pos h1]
    refine Eq.trans hb ?_
    rw [zn_succ]
    exact ih (a + 1) f _ (by omega) (by omega) (inF_lt n 0 S (by omega) hS)
theorem ps_rd {t : zSt} {n : Nat} (hn : n ≤ 12) {E : Nat → Nat → Bool} (c0 : zI t 64 49 = zn n) (hE : sh2 t 87 88 n E) {kk : Int32 → Int32 → Int32 → zSt → Option (Int32 × zSt)} {l1 l2 : Int32} : ∀ (d r f S : Nat), r + d = n → d < f → S < 2 ^ n → lp_X9_partsOf_23 64 kk f l1 l2 (zn S) (zn r) t = kk l1 l2 (zn (rdF n E d S)) t := by
  intro d
  induction d with
  | zero =>
    intro r f S hr hf hS
    obtain ⟨f, rfl⟩ : ∃ g, f = g + 1 := ⟨f - 1, by omega⟩
    have : ¬ zn r < zn n := by rw [zn_lt (by omega) (by omega)]; omega
    simp only [lp_X9_partsOf_23, bd_X9_partsOf_23, c0, this, if_false, rdF]
  | succ d ih =>
    intro r f S hr hf hS
    obtain ⟨f, rfl⟩ : ∃ g, f = g + 1 := ⟨f - 1, by omega⟩
    have h1 : zn r < zn n := by rw [zn_lt (by omega) (by omega)]; omega
    have hb := ps_ou hn c0 hE (kk := fun l1_2 l2_2 l3_2 l4_2 s_2 => lp_X9_partsOf_23 64 kk f l1_2 l2_2 l3_2 (l4_2 + 1) s_2) (l1 := l1) (l2 := l2) (l4 := zn r) n 0 zFuel S (by omega) (by unfold zFuel; omega) hS
    rw [lp_X9_partsOf_23, bd_X9_partsOf_23, c0, if_pos h1]
    refine Eq.trans hb ?_
    rw [zn_succ]
    exact ih (r + 1) f _ (by omega) (by omega) (ouF_lt n 0 S hS)
def lwb (a : Nat) : Nat := (List.range 12).findIdx (fun i => a.testBit i)
theorem lwb_all : (List.range 4096).all (fun a => a == 0 || (zn a &&& -(zn a) == zn (2 ^ lwb a) && a.testBit (lwb a))) = true := by decide +kernel
theorem lwb_eq {a : Nat} (ha : a < 4096) (h0 : a ≠ 0) : zn a &&& -(zn a) = zn (2 ^ lwb a) ∧ a.testBit (lwb a) = true := by
  have h := List.all_eq_true.1 lwb_all a (List.mem_range.2 ha)
  rw [Bool.or_eq_true, Bool.and_eq_true] at h
  rcases h with h | h
  · exact absurd (eq_of_beq h) h0
  · exact ⟨eq_of_beq h.1, h.2⟩
def lfl (n : Nat) (p : Nat → Nat) (L : Nat) : Nat → Nat := fun i => if L.testBit i then p i else n
theorem cus_none {n : Nat} {p : Nat → Nat} : ∀ m, (∀ l, l < m → usd n p l = false) → cus n p m = 0 := by
  intro m
  induction m with
  | zero => intro _; rfl
  | succ m ih =>
    intro h
    show cus n p m + _ = 0
    rw [ih (fun l hl => h l (by omega)), h m (by omega)]
    rfl
theorem ps_lf {t : zSt} {n : Nat} (hn : n ≤ 12) {E : Nat → Nat → Bool} (hsy : ∀ x y, E x y = E y x) {p : Nat → Nat} (hp : apP n E p) (c0 : zI t 64 49 = zn n) (hE : sh2 t 87 88 n E) : ∀ (f L c : Nat), L < f → L < 2 ^ n → (∀ i j, i < n → j < n → p i = p j → L.testBit i = L.testBit j) → lp_X9_partsOf_11 64 f (zn L) (zn c) t = some (zn (c + cus n (lfl n p L) n), t) := by
  have h12 : 2 ^ n ≤ 4096 := pow_le (n := 12) hn
  intro f
  induction f with
  | zero => intro L c h; omega
  | succ f ih =>
    intro L c hf hL hcl
    by_cases h0 : L = 0
    · subst h0
      have : cus n (lfl n p 0) n = 0 := cus_none n (fun l hl => by
        cases h : usd n (lfl n p 0) l
        · rfl
        · obtain ⟨i, hi, e⟩ := usd_iff.1 h
          unfold lfl at e
          rw [Nat.zero_testBit] at e
          simp at e
          omega)
      rw [this]
      simp only [lp_X9_partsOf_11, bd_X9_partsOf_11, show zn 0 = (0 : Int32) from rfl, if_true, Nat.add_zero]
    · have hz : ¬ zn L = 0 := fun h => h0 ((zn_inj (b := 0) (by omega) (by omega)).1 h)
      obtain ⟨w1, w2⟩ := lwb_eq (by omega : L < 4096) h0
      have hw : lwb L < n := by
        rcases Nat.lt_or_ge (lwb L) n with h | h
        · exact h
        · have := Nat.testBit_lt_two_pow (x := L) (i := lwb L) (Nat.lt_of_lt_of_le hL (pow_le h))
          rw [this] at w2; exact absurd w2 (by decide)
      have hrd := fun k => rd_class hn hsy hp hw k
      have hb := ps_rd hn c0 hE (kk := fun l1_3 l2_3 l3_3 s_3 => lp_X9_partsOf_11 64 f (l1_3 &&& (l3_3 ^^^ (-1))) (l2_3 + 1) s_3) (l1 := zn L) (l2 := zn c) n 0 zFuel (2 ^ lwb L) (by omega) (by unfold zFuel; omega) (Nat.pow_lt_pow_right (by omega) hw)
      have hne : L &&& rdF n E n (2 ^ lwb L) ≠ 0 := by
        intro hc
        have := Nat.testBit_and L (rdF n E n (2 ^ lwb L)) (lwb L)
        rw [hc, Nat.zero_testBit, w2, hrd] at this
        simp [hw] at this
      have hlt := adn_lt hne
      have hin := ih (adn L (rdF n E n (2 ^ lwb L))) (c + 1) (by omega) (by omega) (fun i j hi hj hij => by
        rw [adn_bit, adn_bit, hrd, hrd, hcl i j hi hj hij, hij]
        simp [hi, hj])
      have hcd : cus n (lfl n p L) n = cus n (lfl n p (adn L (rdF n E n (2 ^ lwb L)))) n + 1 := by
        refine cus_drop (v := p (lwb L)) n (fun l hl hlv => ?_) (hp.1 _ hw) (usd_iff.2 ⟨lwb L, hw, by unfold lfl; rw [if_pos w2]⟩) ?_
        · rw [Bool.eq_iff_iff, usd_iff, usd_iff]
          constructor
          · rintro ⟨k, hk, e⟩
            refine ⟨k, hk, ?_⟩
            unfold lfl at e ⊢
            by_cases hLk : L.testBit k = true
            · rw [if_pos hLk] at e
              have hne' : ¬ p k = p (lwb L) := by omega
              rw [adn_bit, hrd, hLk]
              simp [hne']
              exact e
            · rw [if_neg hLk] at e; omega
          · rintro ⟨k, hk, e⟩
            refine ⟨k, hk, ?_⟩
            unfold lfl at e ⊢
            by_cases hLk : (adn L (rdF n E n (2 ^ lwb L))).testBit k = true
            · rw [if_pos hLk] at e
              rw [adn_bit] at hLk
              have : L.testBit k = true := by
                cases hh : L.testBit k
                · rw [hh] at hLk; simp at hLk
                · rfl
              rw [if_pos this]; exact e
            · rw [if_neg hLk] at e; omega
        · cases h : usd n (lfl n p (adn L (rdF n E n (2 ^ lwb L)))) (p (lwb L))
          · rfl
          · obtain ⟨k, hk, e⟩ := usd_iff.1 h
            have hpn := hp.1 _ hw
            unfold lfl at e
            by_cases hLk : (adn L (rdF n E n (2 ^ lwb L))).testBit k = true
            · rw [if_pos hLk] at e
              rw [adn_bit, hrd] at hLk
              simp [hk, e] at hLk
            · rw [if_neg hLk] at e; omega
      rw [lp_X9_partsOf_11, bd_X9_partsOf_11, if_neg hz, w1]
      refine Eq.trans hb ?_
      rw [zn_andn, zn_succ, hin, hcd]
      congr 3
      omega
theorem partsOf_eq {t : zSt} {n : Nat} (hn : n ≤ 12) {E : Nat → Nat → Bool} (hsy : ∀ x y, E x y = E y x) {p : Nat → Nat} (hp : apP n E p) (c0 : zI t 64 49 = zn n) (hE : sh2 t 87 88 n E) : m_X9_partsOf 64 t = some (zn (cus n p n), t) := by
  have h12 : 2 ^ n ≤ 4096 := pow_le (n := 12) hn
  have h1 : 1 ≤ 2 ^ n := Nat.one_le_two_pow
  have h := ps_lf hn hsy hp c0 hE zFuel (2 ^ n - 1) 0 (by unfold zFuel; omega) (by omega) (fun i j hi hj _ => by rw [full_bit hi, full_bit hj])
  unfold m_X9_partsOf
  rw [c0, zn_full (by omega), show (0 : Int32) = zn 0 from rfl, h, Nat.zero_add]
  congr 3
  refine cus_congr n (fun l hl => ?_)
  rw [Bool.eq_iff_iff, usd_iff, usd_iff]
  constructor
  · rintro ⟨k, hk, e⟩
    refine ⟨k, hk, ?_⟩
    unfold lfl at e
    rw [if_pos (full_bit hk)] at e
    exact e
  · rintro ⟨k, hk, e⟩
    refine ⟨k, hk, ?_⟩
    unfold lfl
    rw [if_pos (full_bit hk)]
    exact e
