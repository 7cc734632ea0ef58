def cG (ct : Nat → Bool) (sd : Nat → Int) (v : Int) (f : Nat → Int) (n : Nat) : Int := sgS ct (fun r => if sd r = v then f r else 0) n
theorem sgS_succ (ct : Nat → Bool) (f : Nat → Int) (n : Nat) : sgS ct f (n + 1) = sgS ct f n + if ct n = true then f n else 0 := rfl
theorem sg_split {ct : Nat → Bool} {sd f : Nat → Int} : ∀ n, (∀ r, r < n → -1 ≤ sd r ∧ sd r ≤ 1) → sgS ct f n = cG ct sd (-1) f n + cG ct sd 0 f n + cG ct sd 1 f n := by
  intro n
  induction n with
  | zero => intro _; rfl
  | succ n ih =>
    intro h
    have hs := h n (by omega)
    have i := ih (fun r hr => h r (by omega))
    unfold cG at i ⊢
    rw [sgS_succ, sgS_succ, sgS_succ, sgS_succ, i]
    by_cases hc : ct n = true
    · simp only [hc, if_true]
      rcases (show sd n = -1 ∨ sd n = 0 ∨ sd n = 1 by omega) with e | e | e <;> rw [e] <;> simp <;> omega
    · simp only [hc, if_false]
      simp
theorem cG_mul {ct : Nat → Bool} {sd f h : Nat → Int} {v k : Int} : ∀ n, (∀ r, r < n → sd r = v → f r = k * h r) → cG ct sd v f n = k * cG ct sd v h n := by
  intro n
  induction n with
  | zero => intro _; simp [cG, sgS]
  | succ n ih =>
    intro hh
    have i := ih (fun r hr => hh r (by omega))
    have hn := hh n (by omega)
    unfold cG at i ⊢
    rw [sgS_succ, sgS_succ, i]
    by_cases hc : ct n = true
    · simp only [hc, if_true]
      by_cases hv : sd n = v
      · rw [if_pos hv, if_pos hv, hn hv, Int.mul_add]
      · rw [if_neg hv, if_neg hv, Int.add_zero, Int.add_zero]
    · simp only [hc, if_false]
      simp
theorem cG_cs {ct : Nat → Bool} {sd mi : Nat → Int} {v : Int} : ∀ n, 0 ≤ cG ct sd v (fun _ => 1) n ∧ (∀ x, 0 ≤ cG ct sd v (fun _ => 1) n * (x * x) - 2 * (cG ct sd v mi n * x) + cG ct sd v (fun r => mi r * mi r) n) ∧ 0 ≤ cG ct sd v (fun _ => 1) n * cG ct sd v (fun r => mi r * mi r) n - cG ct sd v mi n * cG ct sd v mi n := by
  intro n
  induction n with
  | zero => simp [cG, sgS]
  | succ n ih =>
    obtain ⟨i1, i2, i3⟩ := ih
    unfold cG at i1 i2 i3 ⊢
    rw [sgS_succ, sgS_succ, sgS_succ]
    dsimp only
    by_cases hc : ct n = true ∧ sd n = v
    · simp only [hc.1, hc.2, if_true]
      generalize sgS ct (fun r => if sd r = v then 1 else 0) n = c at *
      generalize sgS ct (fun r => if sd r = v then mi r else 0) n = m at *
      generalize sgS ct (fun r => if sd r = v then mi r * mi r else 0) n = q at *
      refine ⟨by omega, fun x => ?_, ?_⟩
      · have h1 := i2 x
        have h2 : 0 ≤ (x - mi n) * (x - mi n) := by
          rcases Int.le_total 0 (x - mi n) with h | h
          · exact Int.mul_nonneg h h
          · exact Int.mul_nonneg_of_nonpos_of_nonpos h h
        have e : (c + 1) * (x * x) - 2 * ((m + mi n) * x) + (q + mi n * mi n) = (c * (x * x) - 2 * (m * x) + q) + (x - mi n) * (x - mi n) := by grind
        omega
      · have h1 := i2 (mi n)
        have e : (c + 1) * (q + mi n * mi n) - (m + mi n) * (m + mi n) = (c * q - m * m) + (c * (mi n * mi n) - 2 * (m * mi n) + q) := by grind
        omega
    · have z : ∀ f : Nat → Int, (if ct n = true then (if sd n = v then f n else 0) else 0) = 0 := fun f => by
        by_cases h1 : ct n = true
        · rw [if_pos h1, if_neg (fun h2 => hc ⟨h1, h2⟩)]
        · rw [if_neg h1]
      have z1 := z (fun _ => 1)
      have z2 := z mi
      have z3 := z (fun r => mi r * mi r)
      rw [z1, z2, z3, Int.add_zero, Int.add_zero, Int.add_zero]
      exact ⟨i1, i2, i3⟩
theorem gS_sg (ct : Nat → Bool) (τ : Nat → Nat → Int) (i j : Nat) : ∀ n, gS ct τ i j n = sgS ct (fun r => τ r i * τ r j) n := by
  intro n
  induction n with
  | zero => rfl
  | succ n ih => rw [sgS_succ, ← ih]; rfl
def Bd (j : Nat) : Int := if j = 2 then 199 else if j = 4 then 999 else 1
theorem Bd_nn (j : Nat) : 0 ≤ Bd j := by unfold Bd; split; decide; split <;> decide
theorem tau_bd {n : Nat} {sd mi nu : Nat → Int} (ok : okR n sd mi nu) {r : Nat} (hr : r < n) {j : Nat} (hj : j < 5) : -(Bd j) ≤ tau sd mi nu r j ∧ tau sd mi nu r j ≤ Bd j := by
  obtain ⟨h1, h2, h3⟩ := ok.2 r hr
  rcases (show j = 0 ∨ j = 1 ∨ j = 2 ∨ j = 3 ∨ j = 4 by omega) with rfl | rfl | rfl | rfl | rfl
  · simp [tau, Bd]
  · simp [tau, Bd]; omega
  · simp [tau, Bd]; omega
  · rcases (show sd r = -1 ∨ sd r = 0 ∨ sd r = 1 by omega) with h | h | h <;> simp [tau, Bd, h]
  · simp [tau, Bd]; omega
theorem gS_in {n : Nat} {sd mi nu : Nat → Int} (ok : okR n sd mi nu) (ct : Nat → Bool) {i j : Nat} (hi : i < 5) (hj : j < 5) : -(40 * Bd i * Bd j) ≤ gS ct (tau sd mi nu) i j n ∧ gS ct (tau sd mi nu) i j n ≤ 40 * Bd i * Bd j := by
  have hB : 0 ≤ Bd i * Bd j := Int.mul_nonneg (Bd_nn i) (Bd_nn j)
  have key : ∀ m, m ≤ n → -((m : Int) * (Bd i * Bd j)) ≤ gS ct (tau sd mi nu) i j m ∧ gS ct (tau sd mi nu) i j m ≤ (m : Int) * (Bd i * Bd j) := by
    intro m
    induction m with
    | zero => intro _; simp [gS]
    | succ m ih =>
      intro hm
      obtain ⟨i1, i2⟩ := ih (by omega)
      obtain ⟨b1, b2⟩ := bm (tau_bd ok (show m < n by omega) hi) (tau_bd ok (show m < n by omega) hj)
      have e : ((m + 1 : Nat) : Int) * (Bd i * Bd j) = (m : Int) * (Bd i * Bd j) + Bd i * Bd j := by
        rw [Int.natCast_add, Int.add_mul]; simp
      rw [e]
      show -(_) ≤ gS ct (tau sd mi nu) i j m + (if ct m = true then _ else 0) ∧ gS ct (tau sd mi nu) i j m + (if ct m = true then _ else 0) ≤ _
      by_cases hc : ct m = true
      · rw [if_pos hc]; omega
      · rw [if_neg hc]; omega
  obtain ⟨k1, k2⟩ := key n (Nat.le_refl n)
  have h40 : (n : Int) * (Bd i * Bd j) ≤ 40 * (Bd i * Bd j) := Int.mul_le_mul_of_nonneg_right (by have := ok.1; omega) hB
  rw [Int.mul_assoc]
  omega
theorem d2_in {a : Nat → Nat → Int} {R C : Nat → Int} (ha : ∀ i j, i < 4 → j < 4 → -(R i * C j) ≤ a i j ∧ a i j ≤ R i * C j) {r s c d : Nat} (hr : r < 4) (hs : s < 4) (hc : c < 4) (hd : d < 4) : -(2 * (R r * R s * (C c * C d))) ≤ d2 a r s c d ∧ d2 a r s c d ≤ 2 * (R r * R s * (C c * C d)) := by
  obtain ⟨p1, p2⟩ := bm (ha r c hr hc) (ha s d hs hd)
  obtain ⟨p3, p4⟩ := bm (ha r d hr hd) (ha s c hs hc)
  have e1 : R r * C c * (R s * C d) = R r * R s * (C c * C d) := by grind
  have e2 : R r * C d * (R s * C c) = R r * R s * (C c * C d) := by grind
  rw [e1] at p1 p2
  rw [e2] at p3 p4
  unfold d2
  omega
theorem d3_in {a : Nat → Nat → Int} {R C : Nat → Int} (ha : ∀ i j, i < 4 → j < 4 → -(R i * C j) ≤ a i j ∧ a i j ≤ R i * C j) {r s t c d e : Nat} (hr : r < 4) (hs : s < 4) (ht : t < 4) (hc : c < 4) (hd : d < 4) (he : e < 4) : -(6 * (R r * R s * R t * (C c * C d * C e))) ≤ d3 a r s t c d e ∧ d3 a r s t c d e ≤ 6 * (R r * R s * R t * (C c * C d * C e)) := by
  obtain ⟨p1, p2⟩ := bm (ha r c hr hc) (d2_in ha hs ht hd he)
  obtain ⟨p3, p4⟩ := bm (ha r d hr hd) (d2_in ha hs ht hc he)
  obtain ⟨p5, p6⟩ := bm (ha r e hr he) (d2_in ha hs ht hc hd)
  have e1 : R r * C c * (2 * (R s * R t * (C d * C e))) = 2 * (R r * R s * R t * (C c * C d * C e)) := by grind
  have e2 : R r * C d * (2 * (R s * R t * (C c * C e))) = 2 * (R r * R s * R t * (C c * C d * C e)) := by grind
  have e3 : R r * C e * (2 * (R s * R t * (C c * C d))) = 2 * (R r * R s * R t * (C c * C d * C e)) := by grind
  rw [e1] at p1 p2
  rw [e2] at p3 p4
  rw [e3] at p5 p6
  unfold d3
  omega
theorem d4_in {a : Nat → Nat → Int} {R C : Nat → Int} (ha : ∀ i j, i < 4 → j < 4 → -(R i * C j) ≤ a i j ∧ a i j ≤ R i * C j) : -(24 * (R 0 * R 1 * R 2 * R 3 * (C 0 * C 1 * C 2 * C 3))) ≤ d4 a ∧ d4 a ≤ 24 * (R 0 * R 1 * R 2 * R 3 * (C 0 * C 1 * C 2 * C 3)) := by
  obtain ⟨p1, p2⟩ := bm (ha 0 0 (by omega) (by omega)) (d3_in ha (r := 1) (s := 2) (t := 3) (c := 1) (d := 2) (e := 3) (by omega) (by omega) (by omega) (by omega) (by omega) (by omega))
  obtain ⟨p3, p4⟩ := bm (ha 0 1 (by omega) (by omega)) (d3_in ha (r := 1) (s := 2) (t := 3) (c := 0) (d := 2) (e := 3) (by omega) (by omega) (by omega) (by omega) (by omega) (by omega))
  obtain ⟨p5, p6⟩ := bm (ha 0 2 (by omega) (by omega)) (d3_in ha (r := 1) (s := 2) (t := 3) (c := 0) (d := 1) (e := 3) (by omega) (by omega) (by omega) (by omega) (by omega) (by omega))
  obtain ⟨p7, p8⟩ := bm (ha 0 3 (by omega) (by omega)) (d3_in ha (r := 1) (s := 2) (t := 3) (c := 0) (d := 1) (e := 2) (by omega) (by omega) (by omega) (by omega) (by omega) (by omega))
  have e1 : R 0 * C 0 * (6 * (R 1 * R 2 * R 3 * (C 1 * C 2 * C 3))) = 6 * (R 0 * R 1 * R 2 * R 3 * (C 0 * C 1 * C 2 * C 3)) := by grind
  have e2 : R 0 * C 1 * (6 * (R 1 * R 2 * R 3 * (C 0 * C 2 * C 3))) = 6 * (R 0 * R 1 * R 2 * R 3 * (C 0 * C 1 * C 2 * C 3)) := by grind
  have e3 : R 0 * C 2 * (6 * (R 1 * R 2 * R 3 * (C 0 * C 1 * C 3))) = 6 * (R 0 * R 1 * R 2 * R 3 * (C 0 * C 1 * C 2 * C 3)) := by grind
  have e4 : R 0 * C 3 * (6 * (R 1 * R 2 * R 3 * (C 0 * C 1 * C 2))) = 6 * (R 0 * R 1 * R 2 * R 3 * (C 0 * C 1 * C 2 * C 3)) := by grind
  rw [e1] at p1 p2
  rw [e2] at p3 p4
  rw [e3] at p5 p6
  rw [e4] at p7 p8
  unfold d4
  omega
def gT (ct : Nat → Bool) (sd mi nu : Nat → Int) (n i j : Nat) : Int := gS ct (tau sd mi nu) i j n
theorem swp_in {n : Nat} {sd mi nu : Nat → Int} (ok : okR n sd mi nu) (ct : Nat → Bool) (sw : Nat) (i j : Nat) (hi : i < 4) (hj : j < 4) : -((40 * Bd i) * (if j = sw then 999 else Bd j)) ≤ swp (gT ct sd mi nu n) sw i j ∧ swp (gT ct sd mi nu n) sw i j ≤ (40 * Bd i) * (if j = sw then 999 else Bd j) := by
  unfold swp
  split
  · exact gS_in ok ct (show i < 5 by omega) (show 4 < 5 by omega)
  · exact gS_in ok ct (show i < 5 by omega) (show j < 5 by omega)
theorem dM_in {n : Nat} {sd mi nu : Nat → Int} (ok : okR n sd mi nu) (ct : Nat → Bool) {u sw : Nat} (hu : u = 2 ∨ u = 3 ∨ u = 4) (hsw : sw < 6) : -2500000000000000 ≤ dM u (swp (gT ct sd mi nu n) sw) ∧ dM u (swp (gT ct sd mi nu n) sw) ≤ 2500000000000000 := by
  have ha := swp_in ok ct sw
  have h2 := d2_in (R := fun i => 40 * Bd i) (C := fun j => if j = sw then 999 else Bd j) ha (r := 0) (s := 1) (c := 0) (d := 1) (by omega) (by omega) (by omega) (by omega)
  have h3 := d3_in (R := fun i => 40 * Bd i) (C := fun j => if j = sw then 999 else Bd j) ha (r := 0) (s := 1) (t := 2) (c := 0) (d := 1) (e := 2) (by omega) (by omega) (by omega) (by omega) (by omega) (by omega)
  have h4 := d4_in (R := fun i => 40 * Bd i) (C := fun j => if j = sw then 999 else Bd j) ha
  rcases (show sw = 0 ∨ sw = 1 ∨ sw = 2 ∨ sw = 3 ∨ sw = 4 ∨ sw = 5 by omega) with rfl | rfl | rfl | rfl | rfl | rfl <;> simp [Bd] at h2 h3 h4 <;> rcases hu with rfl | rfl | rfl <;> simp only [dM, if_true, if_false, show ¬ (3 : Nat) = 2 by decide, show ¬ (4 : Nat) = 2 by decide, show ¬ (4 : Nat) = 3 by decide] <;> omega
theorem dD_in {n : Nat} {sd mi nu : Nat → Int} (ok : okR n sd mi nu) (ct : Nat → Bool) {u : Nat} (hu : u = 2 ∨ u = 3 ∨ u = 4) : dM u (swp (gT ct sd mi nu n) 5) ≤ 2500000000000 := by
  have ha := swp_in ok ct 5
  have h2 := d2_in (R := fun i => 40 * Bd i) (C := fun j => if j = 5 then 999 else Bd j) ha (r := 0) (s := 1) (c := 0) (d := 1) (by omega) (by omega) (by omega) (by omega)
  have h3 := d3_in (R := fun i => 40 * Bd i) (C := fun j => if j = 5 then 999 else Bd j) ha (r := 0) (s := 1) (t := 2) (c := 0) (d := 1) (e := 2) (by omega) (by omega) (by omega) (by omega) (by omega) (by omega)
  have h4 := d4_in (R := fun i => 40 * Bd i) (C := fun j => if j = 5 then 999 else Bd j) ha
  simp [Bd] at h2 h3 h4
  rcases hu with rfl | rfl | rfl <;> simp only [dM, if_true, if_false, show ¬ (3 : Nat) = 2 by decide, show ¬ (4 : Nat) = 2 by decide, show ¬ (4 : Nat) = 3 by decide] <;> omega
theorem d3_congr {a b : Nat → Nat → Int} (h : ∀ i j, i < 3 → j < 3 → a i j = b i j) : d3 a 0 1 2 0 1 2 = d3 b 0 1 2 0 1 2 := by
  simp only [d3, d2, h 0 0 (by omega) (by omega), h 0 1 (by omega) (by omega), h 0 2 (by omega) (by omega), h 1 0 (by omega) (by omega), h 1 1 (by omega) (by omega), h 1 2 (by omega) (by omega), h 2 0 (by omega) (by omega), h 2 1 (by omega) (by omega), h 2 2 (by omega) (by omega)]
/-- three unknowns: how much the second is at most -/
theorem d3_le {n : Nat} {sd mi nu : Nat → Int} (ok : okR n sd mi nu) (ct : Nat → Bool) : 0 ≤ dM 3 (swp (gT ct sd mi nu n) 5) ∧ dM 3 (swp (gT ct sd mi nu n) 1) ≤ 600000 * dM 3 (swp (gT ct sd mi nu n) 5) := by
  have hb : ∀ r s t, r < n → s < n → t < n → -600000 ≤ v3 (fun j => tau sd mi nu r (if j = 1 then 4 else j)) (fun j => tau sd mi nu s (if j = 1 then 4 else j)) (fun j => tau sd mi nu t (if j = 1 then 4 else j)) ∧ v3 (fun j => tau sd mi nu r (if j = 1 then 4 else j)) (fun j => tau sd mi nu s (if j = 1 then 4 else j)) (fun j => tau sd mi nu t (if j = 1 then 4 else j)) ≤ 600000 := by
    intro r s t hr hs ht
    obtain ⟨a1, -, a3⟩ := ok.2 r hr
    obtain ⟨b1, -, b3⟩ := ok.2 s hs
    obtain ⟨c1, -, c3⟩ := ok.2 t ht
    have e : v3 (fun j => tau sd mi nu r (if j = 1 then 4 else j)) (fun j => tau sd mi nu s (if j = 1 then 4 else j)) (fun j => tau sd mi nu t (if j = 1 then 4 else j)) = nu r * (mi s - mi t) + nu s * (mi t - mi r) + nu t * (mi r - mi s) := by
      simp [v3, cr3, tau]
      grind
    rw [e]
    have p1 := bm (A := 999) (B := 199) a3 (show -199 ≤ mi s - mi t ∧ mi s - mi t ≤ 199 by omega)
    have p2 := bm (A := 999) (B := 199) b3 (show -199 ≤ mi t - mi r ∧ mi t - mi r ≤ 199 by omega)
    have p3 := bm (A := 999) (B := 199) c3 (show -199 ≤ mi r - mi s ∧ mi r - mi s ≤ 199 by omega)
    omega
  obtain ⟨h1, h2⟩ := l3_le (ct := ct) (a := tau sd mi nu) (c := fun r j => tau sd mi nu r (if j = 1 then 4 else j)) hb
  have e1 : l3 ct (tau sd mi nu) (tau sd mi nu) n = dM 3 (swp (gT ct sd mi nu n) 5) := by
    rw [l3_eq]
    refine d3_congr (fun i j hi hj => ?_)
    unfold swp
    rw [if_neg (by omega)]
    exact (gS_sg ct (tau sd mi nu) i j n).symm
  have e2 : l3 ct (tau sd mi nu) (fun r j => tau sd mi nu r (if j = 1 then 4 else j)) n = dM 3 (swp (gT ct sd mi nu n) 1) := by
    rw [l3_eq]
    refine d3_congr (fun i j hi hj => ?_)
    unfold swp
    by_cases hj1 : j = 1
    · rw [if_pos hj1]
      unfold gT
      rw [gS_sg]
      unfold mt
      dsimp only
      rw [if_pos hj1]
    · rw [if_neg hj1]
      unfold gT
      rw [gS_sg]
      unfold mt
      dsimp only
      rw [if_neg hj1]
  rw [e1, e2] at h1 h2
  omega
theorem dM_nn {n : Nat} {sd mi nu : Nat → Int} (ok : okR n sd mi nu) (ct : Nat → Bool) {u : Nat} (hu : u = 2 ∨ u = 3 ∨ u = 4) : 0 ≤ dM u (swp (gT ct sd mi nu n) 5) := by
  have hsd : ∀ r, r < n → -1 ≤ sd r ∧ sd r ≤ 1 := fun r hr => (ok.2 r hr).2.1
  have G : ∀ (i j : Nat) (p q w : Int) (h : Nat → Int), (∀ r, r < n → sd r = -1 → tau sd mi nu r i * tau sd mi nu r j = p * h r) → (∀ r, r < n → sd r = 0 → tau sd mi nu r i * tau sd mi nu r j = q * h r) → (∀ r, r < n → sd r = 1 → tau sd mi nu r i * tau sd mi nu r j = w * h r) → gT ct sd mi nu n i j = p * cG ct sd (-1) h n + q * cG ct sd 0 h n + w * cG ct sd 1 h n := by
    intro i j p q w h h1 h2 h3
    unfold gT
    rw [gS_sg, sg_split n hsd, cG_mul n h1, cG_mul n h2, cG_mul n h3]
  have s5 : ∀ i j, j < 4 → swp (gT ct sd mi nu n) 5 i j = gT ct sd mi nu n i j := fun i j hj => by unfold swp; rw [if_neg (by omega)]
  rcases hu with rfl | rfl | rfl
  · obtain ⟨a1, -, -⟩ := cG_cs (ct := ct) (sd := sd) (mi := mi) (v := -1) n
    obtain ⟨b1, -, -⟩ := cG_cs (ct := ct) (sd := sd) (mi := mi) (v := 0) n
    obtain ⟨c1, -, -⟩ := cG_cs (ct := ct) (sd := sd) (mi := mi) (v := 1) n
    have g00 := G 0 0 1 1 1 (fun _ => 1) (fun r _ _ => by simp [tau]) (fun r _ _ => by simp [tau]) (fun r _ _ => by simp [tau])
    have g01 := G 0 1 (-1) 0 1 (fun _ => 1) (fun r _ e => by simp [tau, e]) (fun r _ e => by simp [tau, e]) (fun r _ e => by simp [tau, e])
    have g10 := G 1 0 (-1) 0 1 (fun _ => 1) (fun r _ e => by simp [tau, e]) (fun r _ e => by simp [tau, e]) (fun r _ e => by simp [tau, e])
    have g11 := G 1 1 1 0 1 (fun _ => 1) (fun r _ e => by simp [tau, e]) (fun r _ e => by simp [tau, e]) (fun r _ e => by simp [tau, e])
    simp only [dM, if_true, d2, s5 0 0 (by omega), s5 0 1 (by omega), s5 1 0 (by omega), s5 1 1 (by omega), g00, g01, g10, g11]
    generalize cG ct sd (-1) (fun _ => 1) n = a at *
    generalize cG ct sd 0 (fun _ => 1) n = b at *
    generalize cG ct sd 1 (fun _ => 1) n = c at *
    have e : (1 * a + 1 * b + 1 * c) * (1 * a + 0 * b + 1 * c) - (-1 * a + 0 * b + 1 * c) * (-1 * a + 0 * b + 1 * c) = 4 * (a * c) + b * (a + c) := by grind
    rw [e]
    have h1 := Int.mul_nonneg a1 c1
    have h2 := Int.mul_nonneg b1 (show 0 ≤ a + c by omega)
    omega
  · exact (d3_le ok ct).1
  · obtain ⟨a1, -, a3⟩ := cG_cs (ct := ct) (sd := sd) (mi := mi) (v := -1) n
    obtain ⟨b1, -, b3⟩ := cG_cs (ct := ct) (sd := sd) (mi := mi) (v := 0) n
    obtain ⟨c1, -, c3⟩ := cG_cs (ct := ct) (sd := sd) (mi := mi) (v := 1) n
    have g00 := G 0 0 1 1 1 (fun _ => 1) (fun r _ _ => by simp [tau]) (fun r _ _ => by simp [tau]) (fun r _ _ => by simp [tau])
    have g01 := G 0 1 (-1) 0 1 (fun _ => 1) (fun r _ e => by simp [tau, e]) (fun r _ e => by simp [tau, e]) (fun r _ e => by simp [tau, e])
    have g10 := G 1 0 (-1) 0 1 (fun _ => 1) (fun r _ e => by simp [tau, e]) (fun r _ e => by simp [tau, e]) (fun r _ e => by simp [tau, e])
    have g11 := G 1 1 1 0 1 (fun _ => 1) (fun r _ e => by simp [tau, e]) (fun r _ e => by simp [tau, e]) (fun r _ e => by simp [tau, e])
    have g02 := G 0 2 1 1 1 mi (fun r _ e => by simp [tau]) (fun r _ e => by simp [tau]) (fun r _ e => by simp [tau])
    have g20 := G 2 0 1 1 1 mi (fun r _ e => by simp [tau]) (fun r _ e => by simp [tau]) (fun r _ e => by simp [tau])
    have g12 := G 1 2 (-1) 0 1 mi (fun r _ e => by simp [tau, e]) (fun r _ e => by simp [tau, e]) (fun r _ e => by simp [tau, e])
    have g21 := G 2 1 (-1) 0 1 mi (fun r _ e => by simp [tau, e]) (fun r _ e => by simp [tau, e]) (fun r _ e => by simp [tau, e])
    have g03 := G 0 3 1 0 1 (fun _ => 1) (fun r _ e => by simp [tau, e]) (fun r _ e => by simp [tau, e]) (fun r _ e => by simp [tau, e])
    have g30 := G 3 0 1 0 1 (fun _ => 1) (fun r _ e => by simp [tau, e]) (fun r _ e => by simp [tau, e]) (fun r _ e => by simp [tau, e])
    have g13 := G 1 3 (-1) 0 1 (fun _ => 1) (fun r _ e => by simp [tau, e]) (fun r _ e => by simp [tau, e]) (fun r _ e => by simp [tau, e])
    have g31 := G 3 1 (-1) 0 1 (fun _ => 1) (fun r _ e => by simp [tau, e]) (fun r _ e => by simp [tau, e]) (fun r _ e => by simp [tau, e])
    have g33 := G 3 3 1 0 1 (fun _ => 1) (fun r _ e => by simp [tau, e]) (fun r _ e => by simp [tau, e]) (fun r _ e => by simp [tau, e])
    have g23 := G 2 3 1 0 1 mi (fun r _ e => by simp [tau, e]) (fun r _ e => by simp [tau, e]) (fun r _ e => by simp [tau, e])
    have g32 := G 3 2 1 0 1 mi (fun r _ e => by simp [tau, e]) (fun r _ e => by simp [tau, e]) (fun r _ e => by simp [tau, e])
    have g22 := G 2 2 1 1 1 (fun r => mi r * mi r) (fun r _ e => by simp [tau]) (fun r _ e => by simp [tau]) (fun r _ e => by simp [tau])
    simp only [dM, show ¬ (4 : Nat) = 2 by decide, show ¬ (4 : Nat) = 3 by decide, if_false, d4, d3, d2, s5 0 0 (by omega), s5 0 1 (by omega), s5 0 2 (by omega), s5 0 3 (by omega), s5 1 0 (by omega), s5 1 1 (by omega), s5 1 2 (by omega), s5 1 3 (by omega), s5 2 0 (by omega), s5 2 1 (by omega), s5 2 2 (by omega), s5 2 3 (by omega), s5 3 0 (by omega), s5 3 1 (by omega), s5 3 2 (by omega), s5 3 3 (by omega), g00, g01, g02, g03, g10, g11, g12, g13, g20, g21, g22, g23, g30, g31, g32, g33]
    generalize cG ct sd (-1) (fun _ => 1) n = a at *
    generalize cG ct sd 0 (fun _ => 1) n = b at *
    generalize cG ct sd 1 (fun _ => 1) n = c at *
    generalize cG ct sd (-1) mi n = m at *
    generalize cG ct sd 0 mi n = o at *
    generalize cG ct sd 1 mi n = p at *
    generalize cG ct sd (-1) (fun r => mi r * mi r) n = x at *
    generalize cG ct sd 0 (fun r => mi r * mi r) n = y at *
    generalize cG ct sd 1 (fun r => mi r * mi r) n = z at *
    have h1 := Int.mul_nonneg (Int.mul_nonneg b1 c1) a3
    have h2 := Int.mul_nonneg (Int.mul_nonneg a1 c1) b3
    have h3 := Int.mul_nonneg (Int.mul_nonneg a1 b1) c3
    clear g00 g01 g02 g03 g10 g11 g12 g13 g20 g21 g22 g23 g30 g31 g32 g33 G s5
    have hs := Int.add_nonneg (Int.add_nonneg h1 h2) h3
    have h4 : 0 ≤ 4 * (b * c * (a * x - m * m) + a * c * (b * y - o * o) + a * b * (c * z - p * p)) := by omega
    refine Int.le_trans h4 (Int.le_of_eq ?_)
    grind
