/-! what houses share: labels -/
def pj (p : Nat → Nat) (fr to : Nat) : Nat → Nat := fun k => if p k = fr then to else p k
def cnn (n : Nat) (E : Nat → Nat → Prop) (a b : Nat) : Prop := ∀ q : Nat → Nat, (∀ x y, x < n → y < n → E x y → q x = q y) → q a = q b
/-- of the labels 0 .. m - 1 so many are used -/
def usd (n : Nat) (p : Nat → Nat) (l : Nat) : Bool := (List.range n).any (fun i => p i == l)
def cus (n : Nat) (p : Nat → Nat) : Nat → Nat
  | 0 => 0
  | m + 1 => cus n p m + (usd n p m).toNat
theorem usd_iff {n : Nat} {p : Nat → Nat} {l : Nat} : usd n p l = true ↔ ∃ i, i < n ∧ p i = l := by
  unfold usd
  rw [List.any_eq_true]
  constructor
  · rintro ⟨i, h1, h2⟩
    exact ⟨i, List.mem_range.1 h1, eq_of_beq h2⟩
  · rintro ⟨i, h1, h2⟩
    exact ⟨i, List.mem_range.2 h1, by rw [h2]; exact beq_self_eq_true l⟩
theorem cus_id (n : Nat) : ∀ m, m ≤ n → cus n (fun k => k) m = m := by
  intro m
  induction m with
  | zero => intro _; rfl
  | succ m ih =>
    intro h
    show cus n _ m + (usd n _ m).toNat = m + 1
    rw [ih (by omega), usd_iff.2 ⟨m, by omega, rfl⟩]
    rfl
theorem cus_congr {n n' : Nat} {p p' : Nat → Nat} : ∀ m, (∀ l, l < m → usd n p l = usd n' p' l) → cus n p m = cus n' p' m := by
  intro m
  induction m with
  | zero => intro _; rfl
  | succ m ih =>
    intro h
    show cus n p m + _ = cus n' p' m + _
    rw [ih (fun l hl => h l (by omega)), h m (by omega)]
theorem cus_drop {n n' : Nat} {p p' : Nat → Nat} {v : Nat} : ∀ m, (∀ l, l < m → l ≠ v → usd n p l = usd n' p' l) → v < m → usd n p v = true → usd n' p' v = false → cus n p m = cus n' p' m + 1 := by
  intro m
  induction m with
  | zero => intro _ h; omega
  | succ m ih =>
    intro h hv h1 h2
    show cus n p m + _ = cus n' p' m + _ + 1
    by_cases hm : v = m
    · subst hm
      rw [cus_congr v (fun l hl => h l (by omega) (by omega)), h1, h2]
      rfl
    · rw [ih (fun l hl hne => h l (by omega) hne) (by omega) h1 h2, h m (by omega) (fun hc => hm hc.symm)]
      omega
/-- a join takes one label away -/
theorem cus_join {n : Nat} {p : Nat → Nat} {fr to : Nat} (hp : ∀ i, i < n → p i < n) (hne : fr ≠ to) (h1 : ∃ i, i < n ∧ p i = fr) (h2 : ∃ i, i < n ∧ p i = to) : cus n p n = cus n (pj p fr to) n + 1 := by
  obtain ⟨i, hi, e1⟩ := h1
  obtain ⟨j, hj, e2⟩ := h2
  refine cus_drop (v := fr) n (fun l hl hlf => ?_) (by rw [← e1]; exact hp i hi) (usd_iff.2 ⟨i, hi, e1⟩) ?_
  · rw [Bool.eq_iff_iff, usd_iff, usd_iff]
    constructor
    · rintro ⟨k, hk, e⟩
      exact ⟨k, hk, by unfold pj; rw [if_neg (by omega)]; exact e⟩
    · rintro ⟨k, hk, e⟩
      unfold pj at e
      split at e
      · exact ⟨j, hj, by omega⟩
      · exact ⟨k, hk, e⟩
  · cases h : usd n (pj p fr to) fr
    · rfl
    · obtain ⟨k, hk, e⟩ := usd_iff.1 h
      unfold pj at e
      split at e
      · omega
      · omega
