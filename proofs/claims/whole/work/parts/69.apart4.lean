/-- the model's growing set -/
def inF (E : Nat → Nat → Bool) (a : Nat) : Nat → Nat → Nat → Nat
  | 0, _, S => S
  | d + 1, b, S => inF E a d (b + 1) (if S.testBit a = true ∧ E a b = true then S ||| 2 ^ b else S)
def ouF (n : Nat) (E : Nat → Nat → Bool) : Nat → Nat → Nat → Nat
  | 0, _, S => S
  | d + 1, a, S => ouF n E d (a + 1) (inF E a n 0 S)
def rdF (n : Nat) (E : Nat → Nat → Bool) : Nat → Nat → Nat
  | 0, S => S
  | d + 1, S => rdF n E d (ouF n E n 0 S)
theorem inF_lt {n : Nat} {E : Nat → Nat → Bool} {a : Nat} : ∀ (d b S : Nat), b + d ≤ n → S < 2 ^ n → inF E a d b S < 2 ^ n := by
  intro d
  induction d with
  | zero => intro b S _ h; exact h
  | succ d ih =>
    intro b S hb h
    refine ih (b + 1) _ (by omega) ?_
    split
    · exact or_lt h (by omega)
    · exact h
theorem ouF_lt {n : Nat} {E : Nat → Nat → Bool} : ∀ (d a S : Nat), S < 2 ^ n → ouF n E d a S < 2 ^ n := by
  intro d
  induction d with
  | zero => intro a S h; exact h
  | succ d ih => intro a S h; exact ih (a + 1) _ (inF_lt n 0 S (by omega) h)
theorem rdF_lt {n : Nat} {E : Nat → Nat → Bool} : ∀ (d S : Nat), S < 2 ^ n → rdF n E d S < 2 ^ n := by
  intro d
  induction d with
  | zero => intro S h; exact h
  | succ d ih => intro S h; exact ih _ (ouF_lt n 0 S h)
theorem inF_mono {E : Nat → Nat → Bool} {a k : Nat} : ∀ (d b S : Nat), S.testBit k = true → (inF E a d b S).testBit k = true := by
  intro d
  induction d with
  | zero => intro b S h; exact h
  | succ d ih =>
    intro b S h
    refine ih (b + 1) _ ?_
    split
    · rw [or2_bit, h]; rfl
    · exact h
theorem ouF_mono {n : Nat} {E : Nat → Nat → Bool} {k : Nat} : ∀ (d a S : Nat), S.testBit k = true → (ouF n E d a S).testBit k = true := by
  intro d
  induction d with
  | zero => intro a S h; exact h
  | succ d ih => intro a S h; exact ih (a + 1) _ (inF_mono n 0 S h)
theorem rdF_mono {n : Nat} {E : Nat → Nat → Bool} {k : Nat} : ∀ (d S : Nat), S.testBit k = true → (rdF n E d S).testBit k = true := by
  intro d
  induction d with
  | zero => intro S h; exact h
  | succ d ih => intro S h; exact ih _ (ouF_mono n 0 S h)
theorem inF_sub {n : Nat} {E : Nat → Nat → Bool} {C : Nat → Prop} (hC : ∀ x y, x < n → y < n → C x → E x y = true → C y) {a : Nat} (ha : a < n) : ∀ (d b S : Nat), b + d ≤ n → (∀ k, S.testBit k = true → C k) → ∀ k, (inF E a d b S).testBit k = true → C k := by
  intro d
  induction d with
  | zero => intro b S _ h; exact h
  | succ d ih =>
    intro b S hb h
    refine ih (b + 1) _ (by omega) ?_
    intro k hk
    split at hk
    · rename_i hc
      rw [or2_bit] at hk
      by_cases hbk : b = k
      · subst hbk
        exact hC a b ha (by omega) (h a hc.1) hc.2
      · simp [hbk] at hk
        exact h k hk
    · exact h k hk
theorem ouF_sub {n : Nat} {E : Nat → Nat → Bool} {C : Nat → Prop} (hC : ∀ x y, x < n → y < n → C x → E x y = true → C y) : ∀ (d a S : Nat), a + d ≤ n → (∀ k, S.testBit k = true → C k) → ∀ k, (ouF n E d a S).testBit k = true → C k := by
  intro d
  induction d with
  | zero => intro a S _ h; exact h
  | succ d ih => intro a S ha h; exact ih (a + 1) _ (by omega) (inF_sub hC (by omega) n 0 S (by omega) h)
theorem rdF_sub {n : Nat} {E : Nat → Nat → Bool} {C : Nat → Prop} (hC : ∀ x y, x < n → y < n → C x → E x y = true → C y) : ∀ (d S : Nat), (∀ k, S.testBit k = true → C k) → ∀ k, (rdF n E d S).testBit k = true → C k := by
  intro d
  induction d with
  | zero => intro S h; exact h
  | succ d ih => intro S h; exact ih _ (ouF_sub hC n 0 S (by omega) h)
theorem inF_hit {E : Nat → Nat → Bool} {a k : Nat} (hE : E a k = true) : ∀ (d b S : Nat), S.testBit a = true → b ≤ k → k < b + d → (inF E a d b S).testBit k = true := by
  intro d
  induction d with
  | zero => intro b S _ h1 h2; omega
  | succ d ih =>
    intro b S hS h1 h2
    by_cases hbk : b = k
    · subst hbk
      refine inF_mono d (b + 1) _ ?_
      rw [if_pos ⟨hS, hE⟩, or2_bit]
      simp
    · refine ih (b + 1) _ ?_ (by omega) (by omega)
      split
      · rw [or2_bit, hS]; rfl
      · exact hS
theorem ouF_hit {n : Nat} {E : Nat → Nat → Bool} {x k : Nat} (hE : E x k = true) (hk : k < n) : ∀ (d a S : Nat), S.testBit x = true → a ≤ x → x < a + d → (ouF n E d a S).testBit k = true := by
  intro d
  induction d with
  | zero => intro a S _ h1 h2; omega
  | succ d ih =>
    intro a S hS h1 h2
    by_cases hax : a = x
    · subst hax
      exact ouF_mono d (a + 1) _ (inF_hit hE n 0 S hS (by omega) (by omega))
    · exact ih (a + 1) _ (inF_mono n 0 S hS) (by omega) (by omega)
theorem pcn_lt {n x : Nat} (hx : x < 2 ^ n) : ∀ k, pcn k x ≤ n := by
  intro k
  induction k with
  | zero => exact Nat.zero_le _
  | succ k ih =>
    by_cases hk : n ≤ k
    · have hb : x.testBit k = false := Nat.testBit_lt_two_pow (Nat.lt_of_lt_of_le hx (pow_le hk))
      show pcn k x + (x.testBit k).toNat ≤ n
      rw [hb]; exact ih
    · exact Nat.le_trans (pcn_le _ _) (by omega)
theorem rdF_fix {n : Nat} {E : Nat → Nat → Bool} {S : Nat} (h : ouF n E n 0 S = S) : ∀ d, rdF n E d S = S := by
  intro d
  induction d with
  | zero => rfl
  | succ d ih => show rdF n E d (ouF n E n 0 S) = S; rw [h]; exact ih
theorem rdF_end {n : Nat} (hn : n ≤ 12) {E : Nat → Nat → Bool} : ∀ (d S : Nat), S < 2 ^ n → n < pc S + d → ouF n E n 0 (rdF n E d S) = rdF n E d S := by
  have h12 : 2 ^ n ≤ 4096 := pow_le (n := 12) hn
  intro d
  induction d with
  | zero =>
    intro S hS h
    have : pc S ≤ n := pcn_lt hS 16
    omega
  | succ d ih =>
    intro S hS h
    by_cases hf : ouF n E n 0 S = S
    · rw [rdF_fix hf]; exact hf
    · show ouF n E n 0 (rdF n E d (ouF n E n 0 S)) = rdF n E d (ouF n E n 0 S)
      refine ih _ (ouF_lt n 0 S hS) ?_
      have hl := ouF_lt (E := E) n 0 S hS
      have h2 := pc_split (ouF n E n 0 S) S
      have h3 : ouF n E n 0 S &&& S = S := Nat.eq_of_testBit_eq (fun i => by
        rw [Nat.testBit_and]
        cases hx : S.testBit i
        · simp
        · rw [ouF_mono n 0 S hx]; rfl)
      rw [h3] at h2
      have h4 : adn (ouF n E n 0 S) S ≠ 0 := by
        intro hz
        apply hf
        refine Nat.eq_of_testBit_eq (fun i => ?_)
        have h5 := adn_bit (ouF n E n 0 S) S i
        rw [hz, Nat.zero_testBit] at h5
        cases hx : S.testBit i
        · rw [hx] at h5; simpa using h5.symm
        · exact ouF_mono n 0 S hx
      have h5 := pc_pos h4 (Nat.lt_of_le_of_lt (adn_le _ _) (by omega))
      omega
/-- the set grown of one house is its label's class -/
theorem rd_class {n : Nat} (hn : n ≤ 12) {E : Nat → Nat → Bool} {p : Nat → Nat} (hsy : ∀ x y, E x y = E y x) (hp : apP n E p) {i : Nat} (hi : i < n) (k : Nat) : (rdF n E n (2 ^ i)).testBit k = (decide (k < n) && decide (p k = p i)) := by
  obtain ⟨p1, p2, p3⟩ := hp
  have b2 : ∀ k, (2 ^ i).testBit k = true ↔ i = k := fun k => by rw [Nat.testBit_two_pow]; exact decide_eq_true_iff
  have hlt : 2 ^ i < 2 ^ n := Nat.pow_lt_pow_right (by omega) hi
  have hpos : 0 < pc (2 ^ i) := pc_pos (by have := Nat.one_le_two_pow (n := i); omega) (by have : 2 ^ n ≤ 4096 := pow_le (n := 12) hn; omega)
  have hfix := rdF_end hn (E := E) n (2 ^ i) hlt (by omega)
  have hsub := rdF_sub (n := n) (E := E) (C := fun k => k < n ∧ p k = p i) (fun x y hx hy hc he => ⟨hy, by rw [← hc.2]; exact (p2 x y hx hy he).symm⟩) n (2 ^ i) (fun k hk => by rw [b2] at hk; subst hk; exact ⟨hi, rfl⟩)
  have hself : (rdF n E n (2 ^ i)).testBit i = true := rdF_mono n _ ((b2 i).2 rfl)
  have hcl : ∀ x y, x < n → y < n → E x y = true → (rdF n E n (2 ^ i)).testBit x = true → (rdF n E n (2 ^ i)).testBit y = true := by
    intro x y hx hy he h
    rw [← hfix]
    exact ouF_hit he hy n 0 _ h (by omega) (by omega)
  rw [Bool.eq_iff_iff]
  constructor
  · intro h
    have := hsub k h
    simp [this]
  · intro h
    have hk : k < n ∧ p k = p i := by simpa using h
    have hq := p3 k i hk.1 hi hk.2 (fun x => ((rdF n E n (2 ^ i)).testBit x).toNat) (fun x y hx hy he => by
      have e1 := hcl x y hx hy he
      have e2 := hcl y x hy hx (by rw [hsy]; exact he)
      show ((rdF n E n (2 ^ i)).testBit x).toNat = ((rdF n E n (2 ^ i)).testBit y).toNat
      have : (rdF n E n (2 ^ i)).testBit x = (rdF n E n (2 ^ i)).testBit y := Bool.eq_iff_iff.2 ⟨e1, e2⟩
      rw [this])
    have hq' : ((rdF n E n (2 ^ i)).testBit k).toNat = ((rdF n E n (2 ^ i)).testBit i).toNat := hq
    rw [hself] at hq'
    cases hb : (rdF n E n (2 ^ i)).testBit k
    · rw [hb] at hq'; exact absurd hq' (by decide)
    · rfl
