/-! the shed's numbers -/
def okSet (a : Nat → Int) : Prop := (1 ≤ a 0 ∧ a 0 ≤ 99) ∧ (1 ≤ a 1 ∧ a 1 ≤ 20) ∧ (a 1 < a 2 ∧ a 2 ≤ 99) ∧ (0 ≤ a 3 ∧ a 3 ≤ 99) ∧ (1 ≤ a 4 ∧ a 4 ≤ 99) ∧ (0 ≤ a 5 ∧ a 5 ≤ 100) ∧ (1 ≤ a 6 ∧ a 6 ≤ 99) ∧ (-999 ≤ a 7 ∧ a 7 ≤ 999) ∧ (-999 ≤ a 8 ∧ a 8 ≤ 999) ∧ (-999 ≤ a 9 ∧ a 9 ≤ 999) ∧ (-999 ≤ a 10 ∧ a 10 ≤ 999)
def zset (t : zSt) (k : Nat) : Int := (zI t 67 k).toInt
def rSet (S : Nat) (s t : zSt) : Prop := (∀ k : Nat, k < 11 → zI s (S + 6) k = zI t 67 k) ∧ okSet (zset t)
def isS (S : Nat) : Prop := S = 5 ∨ S = 12
theorem isS.c {S : Nat} (h : isS S) : zC S = 5 ∧ zT S 1 = S + 1 ∧ zT S 2 = S + 6 ∧ zN (S + 6) = 11 := by
  rcases h with rfl | rfl <;> exact ⟨rfl, rfl, rfl, rfl⟩
theorem bm {a b A B : Int} (ha : -A ≤ a ∧ a ≤ A) (hb : -B ≤ b ∧ b ≤ B) : -(A * B) ≤ a * b ∧ a * b ≤ A * B := by
  have h1 : a.natAbs ≤ A.natAbs := by omega
  have h2 : b.natAbs ≤ B.natAbs := by omega
  have h3 := Nat.mul_le_mul h1 h2
  rw [← Int.natAbs_mul, ← Int.natAbs_mul] at h3
  have h4 : 0 ≤ A * B := Int.mul_nonneg (by omega) (by omega)
  omega
theorem z256 : ∀ k : Fin 11, (zn (256 + k.val) - 256 = zn k.val) ∧ ¬ (zn k.val < 0) ∧ zn k.val < 11 ∧ (zn k.val).toNatClampNeg = k.val := by decide +kernel
theorem setting_eq {S : Nat} (hS : isS S) {k : Nat} (hk : k < 11) (s : zSt) : m_X5_setting S (zn (256 + k)) s = some (zq (zI s (S + 6) k).toInt, s) := by
  obtain ⟨-, -, h2, h3⟩ := hS.c
  obtain ⟨e1, e2, e3, e4⟩ := z256 ⟨k, hk⟩
  simp only at e1 e2 e3 e4
  have e5 : ¬ 11 ≤ k := by omega
  simp only [m_X5_setting, e1, e2, e3, e4, h2, h3, e5, or_self, if_false, if_true, zq_i32]
def fP (a : Nat → Int) : Int := ((a 4 * a 0) * (1000 + a 3)) * ((a 2 * a 2) - (a 1 * a 1))
def fLo (a : Nat → Int) : Int := (((1000 * a 1) * a 1) * a 2) * a 2
def fU (a : Nat → Int) (p m : Int) : Int := ((((a 7 + ((a 10 * p) * p)) + (p * a 9)) * fLo a) + ((a 8 * m) * (fLo a).tdiv 10)) + (p * fP a)
theorem pull_eq {S : Nat} (hS : isS S) {s t : zSt} (h : rSet S s t) : m_X5_pullUpper S s = some (zq (fP (zset t)), s) := by
  have e : ∀ k : Nat, k < 11 → m_X5_setting S (zn (256 + k)) s = some (zq (zset t k), s) := fun k hk => by
    rw [setting_eq hS hk, h.1 k hk]; rfl
  have e0 : m_X5_setting S 256 s = some (zq (zset t 0), s) := e 0 (by decide)
  have e1 : m_X5_setting S 257 s = some (zq (zset t 1), s) := e 1 (by decide)
  have e2 : m_X5_setting S 258 s = some (zq (zset t 2), s) := e 2 (by decide)
  have e3 : m_X5_setting S 259 s = some (zq (zset t 3), s) := e 3 (by decide)
  have e4 : m_X5_setting S 260 s = some (zq (zset t 4), s) := e 4 (by decide)
  simp only [m_X5_pullUpper, e0, e1, e2, e3, e4, zcl_some, show (1000 : Int64) = zq 1000 from rfl, zq_add, zq_sub, zq_mul]
  rfl
theorem lower_eq {S : Nat} (hS : isS S) {s t : zSt} (h : rSet S s t) : m_X5_lower S s = some (zq (fLo (zset t)), s) := by
  have e : ∀ k : Nat, k < 11 → m_X5_setting S (zn (256 + k)) s = some (zq (zset t k), s) := fun k hk => by
    rw [setting_eq hS hk, h.1 k hk]; rfl
  have e1 : m_X5_setting S 257 s = some (zq (zset t 1), s) := e 1 (by decide)
  have e2 : m_X5_setting S 258 s = some (zq (zset t 2), s) := e 2 (by decide)
  simp only [m_X5_lower, e1, e2, zcl_some, show (1000 : Int64) = zq 1000 from rfl, zq_add, zq_sub, zq_mul]
  rfl
theorem fLo_in {a : Nat → Int} (h : okSet a) : (1000 ≤ fLo a ∧ fLo a ≤ 3920400000) ∧ (0 < fLo a ∧ zin (fLo a)) ∧ ∃ q, fLo a = 10 * q := by
  obtain ⟨-, h1, h2, -⟩ := h
  have b1 := bm (A := 20) (B := 20) (a := a 1) (b := a 1) (by omega) (by omega)
  have b2 := bm (A := 99) (B := 99) (a := a 2) (b := a 2) (by omega) (by omega)
  have b3 := bm (A := 20 * 20) (B := 99 * 99) b1 b2
  have p1 : 1 ≤ a 1 * a 1 := Int.mul_pos (by omega) (by omega)
  have p2 : 1 ≤ a 2 * a 2 := Int.mul_pos (by omega) (by omega)
  have p3 : 1 ≤ (a 1 * a 1) * (a 2 * a 2) := Int.mul_pos (by omega) (by omega)
  have e : fLo a = 1000 * ((a 1 * a 1) * (a 2 * a 2)) := by unfold fLo; simp only [Int.mul_assoc]
  unfold zin
  refine ⟨by omega, by omega, 100 * ((a 1 * a 1) * (a 2 * a 2)), by omega⟩
theorem fP_in {a : Nat → Int} (h : okSet a) : (0 ≤ fP a ∧ fP a ≤ 105575372199) ∧ zin (fP a) := by
  obtain ⟨h0, h1, h2, h3, h4, -⟩ := h
  have b1 := bm (A := 20) (B := 20) (a := a 1) (b := a 1) (by omega) (by omega)
  have b2 := bm (A := 99) (B := 99) (a := a 2) (b := a 2) (by omega) (by omega)
  have b3 := bm (A := 99) (B := 99) (a := a 4) (b := a 0) (by omega) (by omega)
  have b4 := bm (A := 99 * 99) (B := 1099) (b := 1000 + a 3) b3 (by omega)
  have p1 : 0 ≤ a 4 * a 0 := Int.mul_nonneg (by omega) (by omega)
  have p2 : 0 ≤ (a 4 * a 0) * (1000 + a 3) := Int.mul_nonneg p1 (by omega)
  have p3 : a 1 * a 1 ≤ a 2 * a 2 := Int.mul_le_mul (by omega) (by omega) (by omega) (by omega)
  have p4 : 0 ≤ a 1 * a 1 := Int.mul_nonneg (by omega) (by omega)
  have b5 := bm (A := 99 * 99 * 1099) (B := 99 * 99) (b := a 2 * a 2 - a 1 * a 1) b4 (by omega)
  have p5 : 0 ≤ fP a := Int.mul_nonneg p2 (by omega)
  unfold zin
  unfold fP at p5 ⊢
  omega
theorem fU_in {a : Nat → Int} (h : okSet a) {p m : Int} (hp : -1 ≤ p ∧ p ≤ 1) (hm : 0 ≤ m ∧ m ≤ 999) : (-409000000000000 ≤ fU a p m ∧ fU a p m ≤ 409000000000000) := by
  obtain ⟨l1, -, q, l3⟩ := fLo_in h
  have l2 := (fP_in h).1
  obtain ⟨-, -, -, -, -, -, -, h7, h8, h9, h10⟩ := h
  have b1 := bm (A := 999) (B := 1) (a := a 10) (b := p) (by omega) (by omega)
  have b2 := bm (A := 999 * 1) (B := 1) (b := p) b1 (by omega)
  have b3 := bm (A := 1) (B := 999) (a := p) (b := a 9) (by omega) (by omega)
  have b4 := bm (A := 3000) (B := 3920400000) (a := (a 7 + ((a 10 * p) * p)) + (p * a 9)) (b := fLo a) (by omega) (by omega)
  have b5 := bm (A := 999) (B := 999) (a := a 8) (b := m) (by omega) (by omega)
  have e : (fLo a).tdiv 10 = q := by rw [l3]; exact Int.mul_tdiv_cancel_left _ (by omega)
  have b6 := bm (A := 999 * 999) (B := 392040000) (b := (fLo a).tdiv 10) b5 (by rw [e]; omega)
  have b7 := bm (A := 1) (B := 105575372199) (a := p) (b := fP a) (by omega) (by omega)
  unfold fU
  omega
theorem restUpper_eq {S : Nat} (hS : isS S) {s t : zSt} (h : rSet S s t) (p m : Int32) : m_X5_restUpper S p m s = some (zq (fU (zset t) p.toInt m.toInt), s) := by
  have e : ∀ k : Nat, k < 11 → m_X5_setting S (zn (256 + k)) s = some (zq (zset t k), s) := fun k hk => by
    rw [setting_eq hS hk, h.1 k hk]; rfl
  have e7 : m_X5_setting S 263 s = some (zq (zset t 7), s) := e 7 (by decide)
  have e8 : m_X5_setting S 264 s = some (zq (zset t 8), s) := e 8 (by decide)
  have e9 : m_X5_setting S 265 s = some (zq (zset t 9), s) := e 9 (by decide)
  have e10 : m_X5_setting S 266 s = some (zq (zset t 10), s) := e 10 (by decide)
  have el := lower_eq hS h
  have ep := pull_eq hS h
  simp only [m_X5_restUpper, e7, e8, e9, e10, el, ep, zcl_some, show (10 : Int64) = zq 10 from rfl, zq_i32, zq_div (fLo_in h.2).2.1.2 (show zin 10 by unfold zin; omega), zq_add, zq_sub, zq_mul]
  rfl
def gScr (o k : Nat) : Prop := o = 64 ∧ (k = 23 ∨ k = 24)
/-- the model's state behind found -/
def zud (t : zSt) (u l : Int) : zSt := zsL (zsL t 64 23 (zq u)) 64 24 (zq l)
theorem zud_of (t : zSt) (u l : Int) : zOf gScr t (zud t u l) := (zOf.rf.sL (by simp [gScr])).sL (by simp [gScr])
theorem seekPull_eq {t : zSt} (h : okSet (zset t)) : m_X9_seekPull 64 t = some (zud t (rU (fP (zset t)) (fLo (zset t))) (rL (fP (zset t)) (fLo (zset t)))) := by
  have l := fLo_in h
  have p := fP_in h
  have e : ((1000 : Int32) + zI t 67 3).toInt64 = zq (1000 + zset t 3) := by
    rw [zq_i32]
    congr 1
    rw [Int32.toInt_add]
    have h3 : (1000 : Int32).toInt = 1000 := rfl
    obtain ⟨-, -, -, h4, -⟩ := h
    have h5 : zset t 3 = (zI t 67 3).toInt := rfl
    rw [h3, ← h5, Int.bmod_eq_of_le (by omega) (by omega)]
  have e2 : (1000 : Int) * (zset t 1 * zset t 1) * (zset t 2 * zset t 2) = fLo (zset t) := by unfold fLo; simp only [Int.mul_assoc]
  simp only [m_X9_seekPull, zT_64_12, zN_67, tc_0, ln_0, tc_1, ln_1, tc_2, ln_2, tc_3, ln_3, tc_4, ln_4, tc_5, ln_5, tc_6, ln_6, tc_7, ln_7, tc_8, ln_8, tc_9, ln_9, tc_10, ln_10, tc_11, ln_11, tc_12, ln_12, tc_13, ln_13, false_or, show ¬ 11 ≤ 0 by decide, show ¬ 11 ≤ 1 by decide, show ¬ 11 ≤ 2 by decide, show ¬ 11 ≤ 3 by decide, show ¬ 11 ≤ 4 by decide, if_false, e]
  simp only [zq_i32, show ∀ k, (zI t 67 k).toInt = zset t k from fun _ => rfl, show (1000 : Int64) = zq 1000 from rfl, zq_add, zq_sub, zq_mul, e2]
  rw [show zset t 4 * zset t 0 * (1000 + zset t 3) * (zset t 2 * zset t 2 - zset t 1 * zset t 1) = fP (zset t) from rfl, found_eq p.2 l.2.1.2 (by omega), zcv_some]
  rfl
theorem seekRest_eq {t : zSt} (h : okSet (zset t)) {p m : Int32} (hp : -1 ≤ p.toInt ∧ p.toInt ≤ 1) (hm : 0 ≤ m.toInt ∧ m.toInt ≤ 999) : ∃ t', m_X9_seekRest 64 p m t = some t' ∧ zL t' 64 23 = zq (rU (fU (zset t) p.toInt m.toInt) (fLo (zset t))) ∧ zL t' 64 24 = zq (rL (fU (zset t) p.toInt m.toInt) (fLo (zset t))) ∧ zOf gScr t t' := by
  obtain ⟨l1, l2, q, l3⟩ := fLo_in h
  have pp := fP_in h
  have uu := fU_in h hp hm
  obtain ⟨g, g1, g2, g3, g4⟩ := r_spec (u := fP (zset t)) l2.1
  have key : ∀ u low : Int, fP (zset t) = g * u → fLo (zset t) = g * low → 0 < low → (10 * fU (zset t) p.toInt m.toInt = g * (((zset t 7 + zset t 10 * p.toInt * p.toInt + zset t 9 * p.toInt) * 10 + zset t 8 * m.toInt) * low + 10 * p.toInt * u)) := by
    intro u low hu hl hlow
    have e : (fLo (zset t)).tdiv 10 = q := by rw [l3]; exact Int.mul_tdiv_cancel_left _ (by omega)
    unfold fU
    rw [e]
    grind
  have k1 := key _ _ g2 g3 g4
  generalize hu : rU (fP (zset t)) (fLo (zset t)) = u at *
  generalize hl : rL (fP (zset t)) (fLo (zset t)) = low at *
  have bl : low ≤ 3920400000 := by
    have : 1 * low ≤ g * low := Int.mul_le_mul_of_nonneg_right (by omega) (by omega)
    omega
  generalize hx : ((zset t 7 + zset t 10 * p.toInt * p.toInt + zset t 9 * p.toInt) * 10 + zset t 8 * m.toInt) * low + 10 * p.toInt * u = x at *
  have zx : zin x := by
    have h1 : x.natAbs ≤ (g * x).natAbs := by
      rw [Int.natAbs_mul]
      exact Nat.le_mul_of_pos_left _ (by omega)
    unfold zin
    omega
  have r1 : rU x (10 * low) = rU (fU (zset t) p.toInt m.toInt) (fLo (zset t)) := by
    rw [← rU_scale (c := 10) (u := fU _ _ _) (by omega), ← rU_scale (c := g) (u := x) g1, k1]
    congr 1
    rw [g3]; grind
  have r2 : rL x (10 * low) = rL (fU (zset t) p.toInt m.toInt) (fLo (zset t)) := by
    rw [← rL_scale (c := 10) (u := fU _ _ _) (by omega), ← rL_scale (c := g) (u := x) g1, k1]
    congr 1
    rw [g3]; grind
  refine ⟨zud (zud t u low) (rU x (10 * low)) (rL x (10 * low)), ?_, by rw [r1]; simp [zud, zI_sI, zI_sL, zI_sR, zL_sI, zL_sL, zL_sR, zR_sI, zR_sL, zR_sR], by rw [r2]; simp [zud, zI_sI, zI_sL, zI_sR, zL_sI, zL_sL, zL_sR, zR_sI, zR_sL, zR_sR], (zud_of _ _ _).tr (zud_of _ _ _)⟩
  have eI : ∀ o k, zI (zud t u low) o k = zI t o k := fun _ _ => rfl
  have e1 : zL (zud t u low) 64 23 = zq u := by simp [zud, zI_sI, zI_sL, zI_sR, zL_sI, zL_sL, zL_sR, zR_sI, zR_sL, zR_sR]
  have e2 : zL (zud t u low) 64 24 = zq low := by simp [zud, zI_sI, zI_sL, zI_sR, zL_sI, zL_sL, zL_sR, zR_sI, zR_sL, zR_sR]
  rw [m_X9_seekRest, seekPull_eq h, zcv_some, hu, hl]
  simp only [zT_64_12, zN_67, tc_0, ln_0, tc_1, ln_1, tc_2, ln_2, tc_3, ln_3, tc_4, ln_4, tc_5, ln_5, tc_6, ln_6, tc_7, ln_7, tc_8, ln_8, tc_9, ln_9, tc_10, ln_10, tc_11, ln_11, tc_12, ln_12, tc_13, ln_13, false_or, show ¬ 11 ≤ 7 by decide, show ¬ 11 ≤ 8 by decide, show ¬ 11 ≤ 9 by decide, show ¬ 11 ≤ 10 by decide, if_false, eI, e1, e2]
  simp only [zq_i32, show ∀ k, (zI t 67 k).toInt = zset t k from fun _ => rfl, show (10 : Int64) = zq 10 from rfl, zq_add, zq_sub, zq_mul, hx]
  rw [found_eq zx (by unfold zin; omega) (by omega), zcv_some]
  rfl
