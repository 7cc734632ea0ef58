/-! fewest -/
def enc : Option Nat → Int32
  | none => -1
  | some n => zn n
theorem enc_m1 {o : Option Nat} (h : ∀ n, o = some n → n < 1000) : (enc o = -1) ↔ o = none := by
  cases o with
  | none => exact ⟨fun _ => rfl, fun _ => rfl⟩
  | some n =>
    have := zn_neg (a := n) (by have := h n rfl; omega)
    constructor
    · intro hc
      have hc' : zn n = -1 := hc
      rw [hc'] at this
      exact absurd (by decide) this
    · intro hc; cases hc
theorem enc_neg {o : Option Nat} (h : ∀ n, o = some n → n < 1000) : (enc o < 0) ↔ o = none := by
  cases o with
  | none => exact ⟨fun _ => rfl, fun _ => (by decide)⟩
  | some n =>
    have := zn_neg (a := n) (by have := h n rfl; omega)
    constructor
    · intro hc; exact absurd hc this
    · intro hc; cases hc
def fwB (best : Option Nat) (m : Nat) : Option Nat := match best with
  | none => some m
  | some z => if m < z then some m else some z
def fwS (T : Nat → Option Nat) (sk : Nat → Bool) (sh : Nat → Nat) (b i : Nat) (best : Option Nat) : Option Nat :=
  if sk i = false ∧ b &&& sh i ≠ 0 ∧ adn b (sh i) ≠ 0 then
    match T (b &&& sh i), T (adn b (sh i)) with
    | some x, some y => fwB best (1 + max x y)
    | _, _ => best
  else best
def fwF (T : Nat → Option Nat) (sk : Nat → Bool) (sh : Nat → Nat) (b : Nat) : Nat → Nat → Option Nat → Option Nat
  | 0, _, best => best
  | d + 1, i, best => fwF T sk sh b d (i + 1) (fwS T sk sh b i best)
def fwT (nt : Nat) (T : Nat → Option Nat) (sk : Nat → Bool) (sh : Nat → Nat) (b : Nat) : Option Nat := if pc b < 2 then some 0 else fwF T sk sh b nt 0 none
theorem and_lt {b s : Nat} (h : adn b s ≠ 0) : b &&& s < b := by
  have h1 : b &&& s ≤ b := Nat.and_le_left
  have h2 : b &&& s ≠ b := fun hc => h (by unfold adn; rw [hc, Nat.xor_self])
  omega
theorem adn_lt {b s : Nat} (h : b &&& s ≠ 0) : adn b s < b := by
  have h1 := adn_le b s
  have h2 : adn b s ≠ b := fun hc => h (Nat.eq_of_testBit_eq (fun i => by
    have h3 := adn_bit b s i
    rw [hc] at h3
    rw [Nat.testBit_and, Nat.zero_testBit]
    cases hb : b.testBit i
    · rfl
    · rw [hb] at h3
      cases hs : s.testBit i
      · rfl
      · rw [hs] at h3; exact absurd h3 (by decide)))
  omega
theorem fwS_congr {T T' : Nat → Option Nat} {sk sk' : Nat → Bool} {sh : Nat → Nat} {b i : Nat} (hs : (sk i = false ∧ b &&& sh i ≠ 0 ∧ adn b (sh i) ≠ 0) ↔ (sk' i = false ∧ b &&& sh i ≠ 0 ∧ adn b (sh i) ≠ 0)) (h1 : sk i = false → b &&& sh i ≠ 0 → adn b (sh i) ≠ 0 → T (b &&& sh i) = T' (b &&& sh i) ∧ T (adn b (sh i)) = T' (adn b (sh i))) (best : Option Nat) : fwS T sk sh b i best = fwS T' sk' sh b i best := by
  unfold fwS
  by_cases hc : sk i = false ∧ b &&& sh i ≠ 0 ∧ adn b (sh i) ≠ 0
  · obtain ⟨e1, e2⟩ := h1 hc.1 hc.2.1 hc.2.2
    rw [if_pos hc, if_pos (hs.1 hc), e1, e2]
  · rw [if_neg hc, if_neg (fun h => hc (hs.2 h))]
theorem fwF_congr {T T' : Nat → Option Nat} {sk sk' : Nat → Bool} {sh : Nat → Nat} {b nt : Nat} (h : ∀ i best, i < nt → fwS T sk sh b i best = fwS T' sk' sh b i best) : ∀ d i best, i + d = nt → fwF T sk sh b d i best = fwF T' sk' sh b d i best := by
  intro d
  induction d with
  | zero => intro i best _; rfl
  | succ d ih =>
    intro i best hi
    show fwF T sk sh b d (i + 1) _ = fwF T' sk' sh b d (i + 1) _
    rw [h i best (by omega)]
    exact ih (i + 1) _ (by omega)
theorem fwT_congr {nt : Nat} {T T' : Nat → Option Nat} {sk : Nat → Bool} {sh : Nat → Nat} {b : Nat} (h : ∀ x, x < b → T x = T' x) : fwT nt T sk sh b = fwT nt T' sk sh b := by
  unfold fwT
  rw [fwF_congr (nt := nt) (fun i best _ => fwS_congr Iff.rfl (fun _ a1 a2 => ⟨h _ (and_lt a2), h _ (adn_lt a1)⟩) best) nt 0 none (by omega)]
def few (nt : Nat) (sk : Nat → Bool) (sh : Nat → Nat) : Nat → Nat → Option Nat
  | 0, _ => none
  | n + 1, b => fwT nt (few nt sk sh n) sk sh b
theorem few_st (nt : Nat) (sk : Nat → Bool) (sh : Nat → Nat) : ∀ (b n m : Nat), b < n → b < m → few nt sk sh n b = few nt sk sh m b := by
  intro b
  induction b using Nat.strongRecOn with
  | _ b ih =>
    intro n m hn hm
    obtain ⟨n, rfl⟩ : ∃ g, n = g + 1 := ⟨n - 1, by omega⟩
    obtain ⟨m, rfl⟩ : ∃ g, m = g + 1 := ⟨m - 1, by omega⟩
    show fwT nt (few nt sk sh n) sk sh b = fwT nt (few nt sk sh m) sk sh b
    exact fwT_congr (fun x hx => ih x hx n m (by omega) (by omega))
def fwt (nt : Nat) (sk : Nat → Bool) (sh : Nat → Nat) (b : Nat) : Option Nat := few nt sk sh (b + 1) b
theorem fwt_eq (nt : Nat) (sk : Nat → Bool) (sh : Nat → Nat) (b : Nat) : fwt nt sk sh b = fwT nt (fwt nt sk sh) sk sh b := by
  show fwT nt (few nt sk sh b) sk sh b = _
  exact fwT_congr (fun x hx => few_st nt sk sh x b (x + 1) hx (by omega))
theorem pcn_0 {k x : Nat} (h : pcn k x = 0) : ∀ i, i < k → x.testBit i = false := by
  induction k with
  | zero => intro i hi; omega
  | succ k ih =>
    have h' : pcn k x + (x.testBit k).toNat = 0 := h
    intro i hi
    by_cases hk : i = k
    · subst hk
      cases hb : x.testBit i
      · rfl
      · rw [hb] at h'; simp at h'
    · exact ih (by omega) i (by omega)
theorem pc_pos {x : Nat} (h : x ≠ 0) (hx : x < 65536) : 0 < pc x := by
  rcases Nat.eq_zero_or_pos (pc x) with h0 | h0
  · exfalso
    apply h
    apply Nat.eq_of_testBit_eq
    intro i
    rw [Nat.zero_testBit]
    by_cases hi : i < 16
    · exact pcn_0 h0 i hi
    · exact Nat.testBit_lt_two_pow (Nat.lt_of_lt_of_le hx (pow_le (k := 16) (by omega)))
  · exact h0
theorem fwt_le (nt : Nat) (sk : Nat → Bool) (sh : Nat → Nat) : ∀ b, b < 65536 → ∀ n, fwt nt sk sh b = some n → n ≤ pc b := by
  intro b
  induction b using Nat.strongRecOn with
  | _ b ih =>
    intro hb n hn
    rw [fwt_eq] at hn
    unfold fwT at hn
    by_cases h2 : pc b < 2
    · rw [if_pos h2] at hn
      cases hn
      omega
    · rw [if_neg h2] at hn
      have key : ∀ d i best, (∀ z, best = some z → z ≤ pc b) → ∀ n, fwF (fwt nt sk sh) sk sh b d i best = some n → n ≤ pc b := by
        intro d
        induction d with
        | zero => intro i best hz n hn; exact hz n hn
        | succ d ihd =>
          intro i best hz n hn
          refine ihd (i + 1) _ ?_ n hn
          intro z hz'
          unfold fwS at hz'
          by_cases hc : sk i = false ∧ b &&& sh i ≠ 0 ∧ adn b (sh i) ≠ 0
          · rw [if_pos hc] at hz'
            have l1 := and_lt hc.2.2
            have l2 := adn_lt hc.2.1
            have i1 := ih _ l1 (by omega)
            have i2 := ih _ l2 (by omega)
            have p1 := pc_pos hc.2.1 (by omega)
            have p2 := pc_pos hc.2.2 (by omega)
            have hsp := pc_split b (sh i)
            cases h1 : fwt nt sk sh (b &&& sh i) with
            | none => rw [h1] at hz'; exact hz z hz'
            | some x =>
              cases h2 : fwt nt sk sh (adn b (sh i)) with
              | none => rw [h1, h2] at hz'; exact hz z hz'
              | some y =>
                rw [h1, h2] at hz'
                have j1 := i1 x h1
                have j2 := i2 y h2
                cases best with
                | none =>
                  have hz'' : some (1 + max x y) = some z := hz'
                  cases hz''
                  omega
                | some w =>
                  have hw := hz w rfl
                  have hz'' : (if 1 + max x y < w then some (1 + max x y) else some w) = some z := hz'
                  split at hz''
                  · cases hz''; omega
                  · cases hz''; omega
          · rw [if_neg hc] at hz'; exact hz z hz'
      exact key nt 0 none (fun z hz => by cases hz) n hn
theorem fwt_lt {nt : Nat} {sk : Nat → Bool} {sh : Nat → Nat} {b : Nat} (hb : b < 65536) : ∀ n, fwt nt sk sh b = some n → n < 1000 := fun n hn => by
  have := fwt_le nt sk sh b hb n hn
  have := pc_le b
  omega
/-! trials that are told part nothing of MAYBE -/
def unp (nt kn : Nat) (sh : Nat → Nat) (b : Nat) : Prop := ∀ i, i < nt → kn.testBit i = true → b &&& sh i = 0 ∨ adn b (sh i) = 0
theorem zero_of_bits {a : Nat} (h : ∀ i, a.testBit i = false) : a = 0 := Nat.eq_of_testBit_eq (fun i => by rw [h i, Nat.zero_testBit])
theorem unp_sub {nt kn : Nat} {sh : Nat → Nat} {b c : Nat} (hs : ∀ i, c.testBit i = true → b.testBit i = true) (h : unp nt kn sh b) : unp nt kn sh c := by
  intro i hi hk
  rcases h i hi hk with h0 | h0
  · left
    apply zero_of_bits
    intro j
    have h1 : (b &&& sh i).testBit j = false := by rw [h0, Nat.zero_testBit]
    rw [Nat.testBit_and] at h1 ⊢
    have h2 := hs j
    cases hc : c.testBit j
    · rfl
    · rw [h2 hc] at h1; exact h1
  · right
    apply zero_of_bits
    intro j
    have h1 : (adn b (sh i)).testBit j = false := by rw [h0, Nat.zero_testBit]
    rw [adn_bit] at h1 ⊢
    have h2 := hs j
    cases hc : c.testBit j
    · rfl
    · rw [h2 hc] at h1; exact h1
theorem fwt_told (nt kn : Nat) (sh : Nat → Nat) : ∀ b, unp nt kn sh b → fwt nt (fun _ => false) sh b = fwt nt (fun i => kn.testBit i) sh b := by
  intro b
  induction b using Nat.strongRecOn with
  | _ b ih =>
    intro hu
    rw [fwt_eq, fwt_eq nt (fun i => kn.testBit i)]
    unfold fwT
    congr 1
    refine fwF_congr (nt := nt) (fun i best hi => fwS_congr ?_ ?_ best) nt 0 none (by omega)
    · constructor
      · intro hc
        refine ⟨?_, hc.2⟩
        cases hk : kn.testBit i
        · rfl
        · rcases hu i hi hk with h0 | h0
          · exact absurd h0 hc.2.1
          · exact absurd h0 hc.2.2
      · intro hc; exact ⟨rfl, hc.2⟩
    · intro _ a1 a2
      refine ⟨ih _ (and_lt a2) (unp_sub (fun j hj => ?_) hu), ih _ (adn_lt a1) (unp_sub (fun j hj => ?_) hu)⟩
      · rw [Nat.testBit_and] at hj
        cases hb : b.testBit j
        · rw [hb] at hj; exact hj
        · rfl
      · rw [adn_bit] at hj
        cases hb : b.testBit j
        · rw [hb] at hj; exact hj
        · rfl
theorem may_unp (nc nt kn po : Nat) (sh : Nat → Nat) : unp nt kn sh (may nc nt kn po sh) := by
  have key : ∀ d i a, i + d = nt → (∀ j, j < i → kn.testBit j = true → a &&& sh j = 0 ∨ adn a (sh j) = 0) → ∀ j, j < nt → kn.testBit j = true → mayF kn po sh d i a &&& sh j = 0 ∨ adn (mayF kn po sh d i a) (sh j) = 0 := by
    intro d
    induction d with
    | zero => intro i a hi ha j hj; exact ha j (by omega)
    | succ d ih =>
      intro i a hi ha j hj
      refine ih (i + 1) _ (by omega) ?_ j hj
      intro j' hj' hk'
      by_cases hji : j' = i
      · subst hji
        rw [if_pos hk']
        cases hp : po.testBit j'
        · left
          rw [if_neg (by simp)]
          apply zero_of_bits
          intro x
          rw [Nat.testBit_and, adn_bit]
          cases a.testBit x <;> cases (sh j').testBit x <;> rfl
        · right
          rw [if_pos rfl]
          apply zero_of_bits
          intro x
          rw [adn_bit, Nat.testBit_and]
          cases a.testBit x <;> cases (sh j').testBit x <;> rfl
      · have hsub : ∀ x, (if kn.testBit i = true then (if po.testBit i = true then a &&& sh i else adn a (sh i)) else a).testBit x = true → a.testBit x = true := by
          intro x hx
          split at hx
          · split at hx
            · rw [Nat.testBit_and] at hx
              cases hb : a.testBit x
              · rw [hb] at hx; exact hx
              · rfl
            · rw [adn_bit] at hx
              cases hb : a.testBit x
              · rw [hb] at hx; exact hx
              · rfl
          · exact hx
        have hu : unp (j' + 1) (2 ^ j') sh a := by
          intro y hy hky
          rw [Nat.testBit_two_pow] at hky
          have : j' = y := of_decide_eq_true hky
          subst this
          exact ha j' (by omega) hk'
        exact unp_sub hsub hu j' (by omega) (by rw [Nat.testBit_two_pow]; exact decide_eq_true rfl)
  intro j hj hk
  exact key nt 0 _ (by omega) (fun j hj => by omega) j hj hk
