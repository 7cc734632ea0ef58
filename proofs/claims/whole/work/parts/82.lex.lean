/-! tokens, read off the bytes -/
def cb (v : Nat) : Int32 := if v < 128 then zn v else zn v - 256
def isL (v : Nat) : Bool := decide (97 ≤ v ∧ v ≤ 122)
def isD (v : Nat) : Bool := decide (48 ≤ v ∧ v ≤ 57)
def isB (v : Nat) : Bool := decide (v = 32 ∨ v = 10)
def isG (sm : Bool) (v : Nat) : Bool := decide (v = 59 ∨ v = 45) || (sm && decide (v = 40 ∨ v = 41 ∨ v = 42 ∨ v = 43 ∨ v = 47))
def rnP (P : Nat → Bool) (B : Nat → Nat) : Nat → Nat → Nat
  | 0, p => p
  | d + 1, p => if P (B p) = true then rnP P B d (p + 1) else p
def rn (P : Nat → Bool) (B : Nat → Nat) (N p : Nat) : Nat := rnP P B (N - p) p
theorem rn_yes {P : Nat → Bool} {B : Nat → Nat} {N p : Nat} (h : p < N) (hp : P (B p) = true) : rn P B N p = rn P B N (p + 1) := by
  unfold rn
  obtain ⟨d, hd⟩ : ∃ d, N - p = d + 1 := ⟨N - p - 1, by omega⟩
  rw [hd, show N - (p + 1) = d by omega]
  show (if P (B p) = true then _ else _) = _
  rw [if_pos hp]
theorem rn_no {P : Nat → Bool} {B : Nat → Nat} {N p : Nat} (hp : ¬ P (B p) = true) : rn P B N p = p := by
  unfold rn
  cases hd : N - p with
  | zero => rfl
  | succ d =>
    show (if P (B p) = true then _ else _) = _
    rw [if_neg hp]
theorem rn_end {P : Nat → Bool} {B : Nat → Nat} {N p : Nat} (h : N ≤ p) : rn P B N p = p := by
  unfold rn
  rw [show N - p = 0 by omega]; rfl
theorem rn_le {P : Nat → Bool} {B : Nat → Nat} {N : Nat} : ∀ (d p : Nat), p + d = N → p ≤ rn P B N p ∧ rn P B N p ≤ N := by
  intro d
  induction d with
  | zero => intro p hp; rw [rn_end (by omega)]; omega
  | succ d ih =>
    intro p hp
    by_cases h : P (B p) = true
    · rw [rn_yes (by omega) h]
      have := ih (p + 1) (by omega)
      omega
    · rw [rn_no h]; omega
theorem rn_bd {P : Nat → Bool} {B : Nat → Nat} {N p : Nat} (h : p ≤ N) : p ≤ rn P B N p ∧ rn P B N p ≤ N := rn_le (N - p) p (by omega)
def wl (B : Nat → Nat) (p : Nat) : Nat → List Nat
  | 0 => []
  | n + 1 => (B (p + n) - 96) :: wl B p n
def nv (B : Nat → Nat) (p : Nat) : Nat → Nat
  | 0 => 0
  | n + 1 => nv B p n * 10 + (B (p + n) - 48)
def c27 : List Nat → Nat
  | [] => 0
  | x :: l => c27 l * 27 + x
def c256 : List Nat → Nat
  | [] => 0
  | x :: l => c256 l * 256 + (x + 96)
def okW (w : List Nat) : Prop := w.length ≤ 8 ∧ ∀ x ∈ w, 1 ≤ x ∧ x ≤ 26
def kwT : List (List Nat) := [[12, 12, 1, 2], [18, 1, 5, 14], [18, 1, 6], [4, 15, 18], [5, 18, 9, 23], [16, 13, 1, 4], [19, 4, 1, 5, 18], [15, 18, 5, 26], [16, 5, 5, 18, 3], [13, 18, 1, 23], [14, 15, 18, 9], [5, 19, 21, 1, 3], [12, 1, 9, 18, 20], [19, 23, 15, 8, 19], [5, 19, 21, 15, 8], [19, 25, 1, 19], [14, 1, 16, 19], [18, 1, 12, 12, 5, 3], [19, 9], [19, 20, 14, 9, 18, 16]]
def kw (i : Nat) : List Nat := kwT.getD i []
def kwF (w : List Nat) : Nat → Nat
  | 0 => 2
  | i + 1 => if kw i = w then 256 + i else kwF w i
theorem c27_inj : ∀ (a b : List Nat), (∀ x ∈ a, 1 ≤ x ∧ x ≤ 26) → (∀ x ∈ b, 1 ≤ x ∧ x ≤ 26) → c27 a = c27 b → a = b := by
  intro a
  induction a with
  | nil =>
    intro b _ hb h
    cases b with
    | nil => rfl
    | cons y b =>
      have := hb y (List.mem_cons_self ..)
      simp only [c27] at h
      omega
  | cons x a ih =>
    intro b ha hb h
    have hx := ha x (List.mem_cons_self ..)
    cases b with
    | nil =>
      simp only [c27] at h
      omega
    | cons y b =>
      have hy := hb y (List.mem_cons_self ..)
      simp only [c27] at h
      have e1 : x = y := by omega
      have e2 : c27 a = c27 b := by omega
      rw [e1, ih b (fun z hz => ha z (List.mem_cons_of_mem _ hz)) (fun z hz => hb z (List.mem_cons_of_mem _ hz)) e2]
theorem c256_inj : ∀ (a b : List Nat), (∀ x ∈ a, 1 ≤ x ∧ x ≤ 26) → (∀ x ∈ b, 1 ≤ x ∧ x ≤ 26) → c256 a = c256 b → a = b := by
  intro a
  induction a with
  | nil =>
    intro b _ hb h
    cases b with
    | nil => rfl
    | cons y b =>
      have := hb y (List.mem_cons_self ..)
      simp only [c256] at h
      omega
  | cons x a ih =>
    intro b ha hb h
    have hx := ha x (List.mem_cons_self ..)
    cases b with
    | nil =>
      simp only [c256] at h
      omega
    | cons y b =>
      have hy := hb y (List.mem_cons_self ..)
      simp only [c256] at h
      have e1 : x = y := by omega
      have e2 : c256 a = c256 b := by omega
      rw [e1, ih b (fun z hz => ha z (List.mem_cons_of_mem _ hz)) (fun z hz => hb z (List.mem_cons_of_mem _ hz)) e2]
theorem c27_lt : ∀ (w : List Nat), (∀ x ∈ w, 1 ≤ x ∧ x ≤ 26) → c27 w < 27 ^ w.length := by
  intro w
  induction w with
  | nil => intro _; exact Nat.one_pos
  | cons x w ih =>
    intro h
    have hx := h x (List.mem_cons_self ..)
    have := ih (fun z hz => h z (List.mem_cons_of_mem _ hz))
    rw [List.length_cons, Nat.pow_succ, c27]
    omega
theorem c256_lt : ∀ (w : List Nat), (∀ x ∈ w, 1 ≤ x ∧ x ≤ 26) → c256 w < 128 * 256 ^ (w.length - 1) := by
  intro w
  induction w with
  | nil => intro _; decide
  | cons x w ih =>
    intro h
    have hx := h x (List.mem_cons_self ..)
    have := ih (fun z hz => h z (List.mem_cons_of_mem _ hz))
    rw [List.length_cons, c256]
    cases w with
    | nil => simp [c256]; omega
    | cons y w =>
      rw [List.length_cons, Nat.add_sub_cancel] at this
      rw [List.length_cons, Nat.add_sub_cancel, Nat.pow_succ]
      omega
theorem c27_b {w : List Nat} (h : okW w) : c27 w < 282429536481 := by
  have h1 := c27_lt w h.2
  have h2 : 27 ^ w.length ≤ 27 ^ 8 := Nat.pow_le_pow_right (by omega) h.1
  have h3 : 27 ^ 8 = 282429536481 := by decide
  omega
theorem c256_b {w : List Nat} (h : okW w) : c256 w < 9223372036854775808 := by
  have h1 := c256_lt w h.2
  have h2 : 256 ^ (w.length - 1) ≤ 256 ^ 7 := Nat.pow_le_pow_right (by omega) (by have := h.1; omega)
  have h3 : 256 ^ 7 = 72057594037927936 := by decide
  omega
theorem zq_inj' {a b : Nat} (ha : a < 9223372036854775808) (hb : b < 9223372036854775808) : zq (a : Int) = zq (b : Int) ↔ a = b := by
  rw [← Int64.toInt_inj, zq_int' (by omega) (by omega), zq_int' (by omega) (by omega)]
  omega
theorem nm27 {w w' : List Nat} (h : okW w) (h' : okW w') : zq (c27 w : Int) = zq (c27 w' : Int) ↔ w = w' := by
  have b1 := c27_b h
  have b2 := c27_b h'
  rw [zq_inj' (by omega) (by omega)]
  exact ⟨c27_inj w w' h.2 h'.2, fun e => by rw [e]⟩
theorem nm256 {w w' : List Nat} (h : okW w) (h' : okW w') : zq (c256 w : Int) = zq (c256 w' : Int) ↔ w = w' := by
  rw [zq_inj' (c256_b h) (c256_b h')]
  exact ⟨c256_inj w w' h.2 h'.2, fun e => by rw [e]⟩
theorem kw_ok : ∀ i : Fin 20, (kw i.val).length ≤ 8 ∧ (kw i.val).all (fun x => decide (1 ≤ x) && decide (x ≤ 26)) = true := by decide +kernel
theorem kw_okW {i : Nat} (h : i < 20) : okW (kw i) := by
  obtain ⟨h1, h2⟩ := kw_ok ⟨i, h⟩
  refine ⟨h1, fun x hx => ?_⟩
  have := List.all_eq_true.1 h2 x hx
  rw [Bool.and_eq_true, decide_eq_true_iff, decide_eq_true_iff] at this
  exact this
theorem kw_dist : ∀ i : Fin 20, ∀ j : Fin 20, kw i.val = kw j.val → i.val = j.val := by decide +kernel
theorem kwF_spec {w : List Nat} : ∀ n, n ≤ 20 → (kwF w n = 2 ∧ ∀ i, i < n → kw i ≠ w) ∨ ∃ i, i < n ∧ kwF w n = 256 + i ∧ kw i = w := by
  intro n
  induction n with
  | zero => intro _; exact Or.inl ⟨rfl, fun i hi => by omega⟩
  | succ n ih =>
    intro hn
    unfold kwF
    by_cases h : kw n = w
    · rw [if_pos h]; exact Or.inr ⟨n, by omega, rfl, h⟩
    · rw [if_neg h]
      rcases ih (by omega) with ⟨h1, h2⟩ | ⟨i, h1, h2, h3⟩
      · refine Or.inl ⟨h1, fun i hi => ?_⟩
        by_cases hin : i = n
        · subst hin; exact h
        · exact h2 i (by omega)
      · exact Or.inr ⟨i, by omega, h2, h3⟩
theorem kwF_eq {w : List Nat} {i : Nat} (hi : i < 20) : kwF w 20 = 256 + i ↔ kw i = w := by
  rcases kwF_spec (w := w) 20 (by omega) with ⟨h1, h2⟩ | ⟨j, h1, h2, h3⟩
  · constructor
    · intro h; omega
    · intro h; exact absurd h (h2 i hi)
  · constructor
    · intro h
      have : j = i := by omega
      rw [← this]; exact h3
    · intro h
      have := kw_dist ⟨i, hi⟩ ⟨j, h1⟩ (h.trans h3.symm)
      have : i = j := this
      omega
theorem wl_len (B : Nat → Nat) (p : Nat) : ∀ n, (wl B p n).length = n := by
  intro n
  induction n with
  | zero => rfl
  | succ n ih => unfold wl; rw [List.length_cons, ih]
theorem wl_ok {B : Nat → Nat} {p : Nat} : ∀ n, (∀ k, k < n → isL (B (p + k)) = true) → ∀ x ∈ wl B p n, 1 ≤ x ∧ x ≤ 26 := by
  intro n
  induction n with
  | zero => intro _ x hx; cases hx
  | succ n ih =>
    intro h x hx
    unfold wl at hx
    rcases List.mem_cons.1 hx with rfl | hx
    · have := h n (by omega)
      unfold isL at this
      rw [decide_eq_true_iff] at this
      omega
    · exact ih (fun k hk => h k (by omega)) x hx
theorem rn_all {P : Nat → Bool} {B : Nat → Nat} {N : Nat} : ∀ (d p : Nat), p + d = N → ∀ k, p + k < rn P B N p → P (B (p + k)) = true := by
  intro d
  induction d with
  | zero => intro p hp k hk; rw [rn_end (by omega)] at hk; omega
  | succ d ih =>
    intro p hp k hk
    by_cases h : P (B p) = true
    · rw [rn_yes (by omega) h] at hk
      cases k with
      | zero => exact h
      | succ k =>
        have := ih (p + 1) (by omega) k (by omega)
        rw [show p + (k + 1) = p + 1 + k by omega]
        exact this
    · rw [rn_no h] at hk; omega
def tpl (B : Nat → Nat) (N p : Nat) : Nat := rn isB B N p
def twd (B : Nat → Nat) (N p : Nat) : List Nat := wl B (tpl B N p) (rn isL B N (tpl B N p) - tpl B N p)
def tnu (B : Nat → Nat) (N p : Nat) : Nat := nv B (tpl B N p) (rn isD B N (tpl B N p) - tpl B N p)
def tkd (B : Nat → Nat) (N : Nat) (sm : Bool) (p : Nat) : Nat :=
  if N ≤ tpl B N p then 0
  else if isL (B (tpl B N p)) = true then (if 8 < rn isL B N (tpl B N p) - tpl B N p then 1 else kwF (twd B N p) 20)
  else if isD (B (tpl B N p)) = true then (if 4 < rn isD B N (tpl B N p) - tpl B N p ∨ (rn isD B N (tpl B N p) < N ∧ isL (B (rn isD B N (tpl B N p))) = true) then 1 else 3)
  else if isG sm (B (tpl B N p)) = true then B (tpl B N p) else 1
def tnx (B : Nat → Nat) (N p : Nat) : Nat :=
  if N ≤ tpl B N p then tpl B N p
  else if isL (B (tpl B N p)) = true then rn isL B N (tpl B N p)
  else if isD (B (tpl B N p)) = true then rn isD B N (tpl B N p)
  else tpl B N p + 1
