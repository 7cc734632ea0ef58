/-! the determinants' sizes: Cauchy and Binet, three columns -/
def cr3 (x y : Nat → Int) (i : Nat) : Int := if i = 0 then x 1 * y 2 - x 2 * y 1 else if i = 1 then x 2 * y 0 - x 0 * y 2 else x 0 * y 1 - x 1 * y 0
def v3 (x y z : Nat → Int) : Int := x 0 * cr3 y z 0 + x 1 * cr3 y z 1 + x 2 * cr3 y z 2
def sgS (ct : Nat → Bool) (f : Nat → Int) : Nat → Int
  | 0 => 0
  | r + 1 => sgS ct f r + if ct r = true then f r else 0
def mt (ct : Nat → Bool) (a c : Nat → Nat → Int) (n i j : Nat) : Int := sgS ct (fun r => a r i * c r j) n
def l1 (ct : Nat → Bool) (a c : Nat → Nat → Int) (n : Nat) (x z y w : Nat → Int) : Int := sgS ct (fun r => v3 (a r) z x * v3 (c r) w y) n
def l2 (ct : Nat → Bool) (a c : Nat → Nat → Int) (n : Nat) (x y : Nat → Int) : Int := sgS ct (fun r => l1 ct a c r x (a r) y (c r)) n
def l3 (ct : Nat → Bool) (a c : Nat → Nat → Int) (n : Nat) : Int := sgS ct (fun r => l2 ct a c r (a r) (c r)) n
def e1 (M : Nat → Nat → Int) (p q : Nat → Int) : Int := (M 0 0 * p 0 * q 0 + M 0 1 * p 0 * q 1 + M 0 2 * p 0 * q 2) + (M 1 0 * p 1 * q 0 + M 1 1 * p 1 * q 1 + M 1 2 * p 1 * q 2) + (M 2 0 * p 2 * q 0 + M 2 1 * p 2 * q 1 + M 2 2 * p 2 * q 2)
def e2 (M : Nat → Nat → Int) (x y : Nat → Int) : Int := (x 0 * y 0 * d2 M 1 2 1 2 - x 0 * y 1 * d2 M 1 2 0 2 + x 0 * y 2 * d2 M 1 2 0 1) - (x 1 * y 0 * d2 M 0 2 1 2 - x 1 * y 1 * d2 M 0 2 0 2 + x 1 * y 2 * d2 M 0 2 0 1) + (x 2 * y 0 * d2 M 0 1 1 2 - x 2 * y 1 * d2 M 0 1 0 2 + x 2 * y 2 * d2 M 0 1 0 1)
theorem mt_yes {ct : Nat → Bool} {a c : Nat → Nat → Int} {n : Nat} (h : ct n = true) (i j : Nat) : mt ct a c (n + 1) i j = mt ct a c n i j + a n i * c n j := by
  show sgS ct _ n + (if ct n = true then _ else 0) = _
  rw [if_pos h]; rfl
theorem mt_no {ct : Nat → Bool} {a c : Nat → Nat → Int} {n : Nat} (h : ¬ ct n = true) : mt ct a c (n + 1) = mt ct a c n := by
  funext i j
  show sgS ct _ n + (if ct n = true then _ else 0) = _
  rw [if_neg h, Int.add_zero]; rfl
theorem l1_eq {ct : Nat → Bool} {a c : Nat → Nat → Int} (x z y w : Nat → Int) : ∀ n, l1 ct a c n x z y w = e1 (mt ct a c n) (cr3 z x) (cr3 w y) := by
  intro n
  induction n with
  | zero => simp [l1, sgS, e1, mt]
  | succ n ih =>
    show l1 ct a c n x z y w + (if ct n = true then v3 (a n) z x * v3 (c n) w y else 0) = _
    rw [ih]
    by_cases h : ct n = true
    · rw [if_pos h]
      simp only [e1, mt_yes h, v3]
      generalize cr3 z x = p
      generalize cr3 w y = q
      grind
    · rw [if_neg h, mt_no h, Int.add_zero]
theorem e2_add (M M' : Nat → Nat → Int) (x y a c : Nat → Int) (h : ∀ i j, M' i j = M i j + a i * c j) : e2 M' x y = e2 M x y + e1 M (cr3 a x) (cr3 c y) := by
  simp only [e2, e1, d2, h, cr3]
  simp only [show ¬ (1 : Nat) = 0 by decide, show ¬ (2 : Nat) = 0 by decide, show ¬ (2 : Nat) = 1 by decide, if_true, if_false]
  grind
theorem l2_eq {ct : Nat → Bool} {a c : Nat → Nat → Int} (x y : Nat → Int) : ∀ n, l2 ct a c n x y = e2 (mt ct a c n) x y := by
  intro n
  induction n with
  | zero => simp [l2, sgS, e2, mt, d2]
  | succ n ih =>
    show l2 ct a c n x y + (if ct n = true then l1 ct a c n x (a n) y (c n) else 0) = _
    rw [ih]
    by_cases h : ct n = true
    · rw [if_pos h, l1_eq, e2_add (mt ct a c n) (mt ct a c (n + 1)) x y (a n) (c n) (fun i j => mt_yes h i j)]
    · rw [if_neg h, mt_no h, Int.add_zero]
theorem d3_add (M M' : Nat → Nat → Int) (a c : Nat → Int) (h : ∀ i j, M' i j = M i j + a i * c j) : d3 M' 0 1 2 0 1 2 = d3 M 0 1 2 0 1 2 + e2 M a c := by
  simp only [d3, e2, d2, h]
  grind
theorem l3_eq {ct : Nat → Bool} {a c : Nat → Nat → Int} : ∀ n, l3 ct a c n = d3 (mt ct a c n) 0 1 2 0 1 2 := by
  intro n
  induction n with
  | zero => simp [l3, sgS, mt, d2, d3]
  | succ n ih =>
    show l3 ct a c n + (if ct n = true then l2 ct a c n (a n) (c n) else 0) = _
    rw [ih]
    by_cases h : ct n = true
    · rw [if_pos h, l2_eq, d3_add (mt ct a c n) (mt ct a c (n + 1)) (a n) (c n) (fun i j => mt_yes h i j)]
    · rw [if_neg h, mt_no h, Int.add_zero]
theorem sg_le {ct : Nat → Bool} {f g : Nat → Int} {C : Int} : ∀ n, (∀ r, r < n → ct r = true → -(C * g r) ≤ f r ∧ f r ≤ C * g r) → -(C * sgS ct g n) ≤ sgS ct f n ∧ sgS ct f n ≤ C * sgS ct g n := by
  intro n
  induction n with
  | zero => intro _; simp [sgS]
  | succ n ih =>
    intro h
    obtain ⟨i1, i2⟩ := ih (fun r hr hc => h r (by omega) hc)
    show -(C * (sgS ct g n + if ct n = true then g n else 0)) ≤ sgS ct f n + (if ct n = true then f n else 0) ∧ sgS ct f n + (if ct n = true then f n else 0) ≤ C * (sgS ct g n + if ct n = true then g n else 0)
    by_cases hc : ct n = true
    · obtain ⟨h1, h2⟩ := h n (by omega) hc
      rw [if_pos hc, if_pos hc, Int.mul_add]
      omega
    · rw [if_neg hc, if_neg hc, Int.add_zero, Int.add_zero]
      exact ⟨i1, i2⟩
theorem sq_bd {p q C : Int} (h : -C ≤ q ∧ q ≤ C) : -(C * (p * p)) ≤ p * q ∧ p * q ≤ C * (p * p) := by
  have hC : 0 ≤ C := by omega
  have h0 : p * q ≤ C * (p * p) ∧ -(C * (p * p)) ≤ p * q := by
    by_cases hp : p < 0
    · -- p ≤ -1
      have a1 : p * q ≤ -p * C := by
        have : -p * (-q) ≤ -p * C := Int.mul_le_mul_of_nonneg_left (by omega) (by omega)
        have e : -p * (-q) = p * q := by grind
        omega
      have a2 : -(-p * C) ≤ p * q := by
        have : -p * q ≤ -p * C := Int.mul_le_mul_of_nonneg_left (by omega) (by omega)
        have e : -p * q = -(p * q) := by grind
        omega
      have a3 : -p * C ≤ C * (p * p) := by
        have h1 : -p * 1 ≤ -p * -p := Int.mul_le_mul_of_nonneg_left (by omega) (by omega)
        have h2 : C * (-p * 1) ≤ C * (-p * -p) := Int.mul_le_mul_of_nonneg_left h1 hC
        have e1 : C * (-p * 1) = -p * C := by grind
        have e2 : C * (-p * -p) = C * (p * p) := by grind
        omega
      omega
    · have a1 : p * q ≤ p * C := Int.mul_le_mul_of_nonneg_left (by omega) (by omega)
      have a2 : -(p * C) ≤ p * q := by
        have : p * (-q) ≤ p * C := Int.mul_le_mul_of_nonneg_left (by omega) (by omega)
        have e : p * (-q) = -(p * q) := by grind
        omega
      have a3 : p * C ≤ C * (p * p) := by
        by_cases h1 : 0 < p
        · have h2 : p * 1 ≤ p * p := Int.mul_le_mul_of_nonneg_left (by omega) (by omega)
          have h3 : C * (p * 1) ≤ C * (p * p) := Int.mul_le_mul_of_nonneg_left h2 hC
          have e1 : C * (p * 1) = p * C := by grind
          omega
        · have : p = 0 := by omega
          subst this
          simp
      omega
  exact ⟨h0.2, h0.1⟩
/-- the replaced determinant is no more than C times the other -/
theorem l3_le {ct : Nat → Bool} {a c : Nat → Nat → Int} {C : Int} {n : Nat} (hC : ∀ r s t, r < n → s < n → t < n → -C ≤ v3 (c r) (c s) (c t) ∧ v3 (c r) (c s) (c t) ≤ C) : -(C * l3 ct a a n) ≤ l3 ct a c n ∧ l3 ct a c n ≤ C * l3 ct a a n :=
  sg_le n (fun t ht _ => sg_le t (fun s hs _ => sg_le s (fun r hr _ => sq_bd (hC r s t (by omega) (by omega) (by omega)))))
