/-! determinants -/
def d2 (a : Nat → Nat → Int) (r s c d : Nat) : Int := a r c * a s d - a r d * a s c
def d3 (a : Nat → Nat → Int) (r s t c d e : Nat) : Int := a r c * d2 a s t d e - a r d * d2 a s t c e + a r e * d2 a s t c d
def d4 (a : Nat → Nat → Int) : Int := a 0 0 * d3 a 1 2 3 1 2 3 - a 0 1 * d3 a 1 2 3 0 2 3 + a 0 2 * d3 a 1 2 3 0 1 3 - a 0 3 * d3 a 1 2 3 0 1 2
def dM (u : Nat) (a : Nat → Nat → Int) : Int := if u = 2 then d2 a 0 1 0 1 else if u = 3 then d3 a 0 1 2 0 1 2 else d4 a
def swp (g : Nat → Nat → Int) (sw i j : Nat) : Int := if j = sw then g i 4 else g i j
def clF (rc : Nat → Int) (en : Nat → Int) (used : Nat) : Nat → Nat → Int → Int → Int
  | 0, _, a, _ => a
  | c + 1, col, a, sg => if used.testBit col = false then clF rc en used c (col + 1) (a + sg * en col * rc (used ||| 2 ^ col)) (-sg) else clF rc en used c (col + 1) a sg
def dtF (en : Nat → Nat → Int) (size : Nat) : Nat → Nat → Nat → Int
  | 0, _, _ => 1
  | d + 1, row, used => clF (fun u => dtF en size d (row + 1) u) (en row) used size 0 0 1
theorem dt_2 (en : Nat → Nat → Int) : dtF en 2 2 0 0 = dM 2 en := by
  simp [dtF, clF, dM, d2, Nat.testBit]
  grind
theorem dt_3 (en : Nat → Nat → Int) : dtF en 3 3 0 0 = dM 3 en := by
  simp [dtF, clF, dM, d2, d3, Nat.testBit]
  grind
theorem dt_4 (en : Nat → Nat → Int) : dtF en 4 4 0 0 = dM 4 en := by
  simp [dtF, clF, dM, d2, d3, d4, Nat.testBit]
  grind
def eSw (sw : Nat) : Int32 := if sw < 5 then zn sw else -1
theorem eSw_iff : ∀ c : Fin 5, ∀ sw : Fin 6, (zn c.val = eSw sw.val) ↔ c.val = sw.val := by decide +kernel
theorem cl_lp {s : zSt} {g : Nat → Nat → Int} {size row used sw : Nat} (hz : size ≤ 4) (hrow : row < size) (hus : used < 16) (hsw : sw < 6) (hT : ∀ i j, i < size → j < 5 → zL s 61 (5 * i + j) = zq (g i j)) {fr : Nat → Int32 → Int32 → Int32 → Int32 → zSt → Option (Int64 × zSt)} {rc : Nat → Int} (hfr : ∀ u, u < 16 → fr 61 (zn size) (zn (row + 1)) (zn u) (eSw sw) s = some (zq (rc u), s)) : ∀ (c col f : Nat) (a sg : Int), col + c = size → c < f → lp_X1_determinant_16 fr 61 (zn size) (zn row) (zn used) (eSw sw) f (zq a) (zq sg) (zn col) s = some (zq (clF rc (swp g sw row) used c col a sg), s) := by
  intro c
  induction c with
  | zero =>
    intro col f a sg hc hf
    obtain ⟨f, rfl⟩ : ∃ g, f = g + 1 := ⟨f - 1, by omega⟩
    have h1 : ¬ zn col < zn size := by rw [zn_lt (by omega) (by omega)]; omega
    simp only [lp_X1_determinant_16, bd_X1_determinant_16, h1, if_false, clF]
  | succ c ih =>
    intro col f a sg hc hf
    obtain ⟨f, rfl⟩ : ∃ g, f = g + 1 := ⟨f - 1, by omega⟩
    have h1 : zn col < zn size := by rw [zn_lt (by omega) (by omega)]; omega
    have sl : (1 : Int32) <<< (zn col &&& 31) = zn (2 ^ col) := zn_shl ⟨col, by omega⟩
    have hor : used ||| 2 ^ col < 16 := or_lt (n := 4) (by omega) (by omega)
    have hs : zn col = eSw sw ↔ col = sw := eSw_iff ⟨col, by omega⟩ ⟨sw, hsw⟩
    have key : ∀ (j : Nat), j < 5 → g row j = swp g sw row col → m_X1_determinant_48 fr 61 (zn size) (zn row) (zn used) (eSw sw) (fun l5 l7 l9 s => lp_X1_determinant_16 fr 61 (zn size) (zn row) (zn used) (eSw sw) f l5 l7 l9 s) (zq a) (zq sg) (zn col) 61 (zn row * 5) (zn j) s = some (zq (clF rc (swp g sw row) used c (col + 1) (a + sg * swp g sw row col * rc (used ||| 2 ^ col)) (-sg)), s) := by
      intro j hj hg
      have hx : (zn row * 5) + zn j = zn (5 * row + j) := by
        rw [show (5 : Int32) = zn 5 from rfl, zn_mul, zn_add, Nat.mul_comm]
      have x2 : ¬ zn (5 * row + j) < 0 := zn_neg (by omega)
      have x3 : (zn (5 * row + j)).toNatClampNeg = 5 * row + j := zn_cl (by omega)
      have x4 : ¬ 20 ≤ 5 * row + j := by omega
      simp only [m_X1_determinant_48, m_X1_determinant_86, m_X1_determinant_91, hx, x2, x3, x4, zN_61, or_self, if_false, hT row j hrow hj, hg, zn_succ, sl, zn_or, hfr _ hor, zcl_some, zq_neg, zq_mul, zq_add]
      split
      · rename_i h0
        have h2 : zq (a + sg * swp g sw row col * rc (used ||| 2 ^ col)) = zq a := by
          rw [← zq_add, ← zq_mul, ← zq_mul, h0]
          simp
        rw [← ih (col + 1) f _ (-sg) (by omega) (by omega), h2]
      · exact ih (col + 1) f _ (-sg) (by omega) (by omega)
    simp only [lp_X1_determinant_16, bd_X1_determinant_16, h1, if_true, zn_shr (show used < 2147483648 by omega) (show col < 32 by omega), zn_b0, hs, clF]
    by_cases hb : used.testBit col = false
    · rw [if_pos hb, if_pos hb]
      by_cases hcs : col = sw
      · rw [if_pos hcs]
        exact key 4 (by omega) (by unfold swp; rw [if_pos hcs])
      · rw [if_neg hcs]
        exact key col (by omega) (by unfold swp; rw [if_neg hcs])
    · rw [if_neg hb, if_neg hb]
      simp only [m_X1_determinant_91, zn_succ]
      exact ih (col + 1) f a sg (by omega) (by omega)
theorem det_eq {s : zSt} {g : Nat → Nat → Int} {size sw : Nat} (hz : size ≤ 4) (hsw : sw < 6) (hT : ∀ i j, i < size → j < 5 → zL s 61 (5 * i + j) = zq (g i j)) : ∀ (d row fu used : Nat), row + d = size → d < fu → used < 16 → m_X1_determinant fu 61 (zn size) (zn row) (zn used) (eSw sw) s = some (zq (dtF (swp g sw) size d row used), s) := by
  intro d
  induction d with
  | zero =>
    intro row fu used hr hf hu
    obtain ⟨fu, rfl⟩ : ∃ g, fu = g + 1 := ⟨fu - 1, by omega⟩
    have h1 : ¬ zn row < zn size := by rw [zn_lt (by omega) (by omega)]; omega
    simp only [m_X1_determinant, f_X1_determinant, h1, if_false, dtF]
    rfl
  | succ d ih =>
    intro row fu used hr hf hu
    obtain ⟨fu, rfl⟩ : ∃ g, fu = g + 1 := ⟨fu - 1, by omega⟩
    have h1 : zn row < zn size := by rw [zn_lt (by omega) (by omega)]; omega
    simp only [m_X1_determinant, f_X1_determinant, h1, if_true, dtF]
    exact cl_lp hz (by omega) hu hsw hT (fun u hu => ih (row + 1) fu u (by omega) (by omega) hu) size 0 zFuel 0 1 (by omega) (by unfold zFuel; omega)
theorem det_cl {s : zSt} {g : Nat → Nat → Int} {u sw : Nat} (hu : u = 2 ∨ u = 3 ∨ u = 4) (hsw : sw < 6) (hT : ∀ i j, i < u → j < 5 → zL s 61 (5 * i + j) = zq (g i j)) : m_X1_determinant 8 61 (zn u) 0 0 (eSw sw) s = some (zq (dM u (swp g sw)), s) := by
  have h := det_eq (by omega) hsw hT u 0 8 0 (by omega) (by omega) (by omega)
  rcases hu with rfl | rfl | rfl
  · rw [dt_2] at h; exact h
  · rw [dt_3] at h; exact h
  · rw [dt_4] at h; exact h
/-! the model's -/
theorem m16 : ∀ k : Fin 16, ¬ (zn k.val / 4 < 0) ∧ (zn k.val / 4).toNatClampNeg = k.val / 4 ∧ (zn k.val - zn k.val / 4 * 4 = zn (k.val % 4)) := by decide +kernel
def smE (g : Nat → Nat → Int) (t : zSt) : Prop := (∀ i j, i < 4 → j < 4 → zL t 78 (4 * i + j) = zq (g i j)) ∧ ∀ j, j < 4 → zL t 79 j = zq (g j 4)
theorem sq_lp {g : Nat → Nat → Int} {sw : Nat} (hsw : sw < 6) (hs4 : sw ≠ 4) {p1 : Int32} {kk : zSt → Option (Int64 × zSt)} : ∀ (d k f : Nat) (t : zSt), k + d = 16 → d < f → smE g t → (∀ c, c < k → zL t 80 c = zq (swp g sw (c / 4) (c % 4))) → ∃ t', lp_X9_determinant_2 64 p1 (eSw sw) kk f (zn k) t = kk t' ∧ (∀ c, c < 16 → zL t' 80 c = zq (swp g sw (c / 4) (c % 4))) ∧ zOf (fun o _ => o = 80) t t' := by
  intro d
  induction d with
  | zero =>
    intro k f t hk hf hg hq
    obtain ⟨f, rfl⟩ : ∃ g, f = g + 1 := ⟨f - 1, by omega⟩
    have hk2 : k = 16 := by omega
    subst hk2
    have h1 : ¬ zn 16 < 16 := by decide
    refine ⟨t, ?_, hq, zOf.rf⟩
    simp only [lp_X9_determinant_2, bd_X9_determinant_2, h1, if_false]
  | succ d ih =>
    intro k f t hk hf hg hq
    obtain ⟨f, rfl⟩ : ∃ g, f = g + 1 := ⟨f - 1, by omega⟩
    have h1 : zn k < 16 := (zn_lt (b := 16) (by omega) (by omega)).2 (by omega)
    obtain ⟨m1, m2, m3⟩ := m16 ⟨k, by omega⟩
    have hs : zn (k % 4) = eSw sw ↔ k % 4 = sw := eSw_iff ⟨k % 4, by omega⟩ ⟨sw, hsw⟩
    have i2 : ¬ zn k < 0 := zn_neg (by omega)
    have i3 : (zn k).toNatClampNeg = k := zn_cl (by omega)
    have i4 : ¬ 16 ≤ k := by omega
    have i5 : ¬ 4 ≤ k / 4 := by omega
    have go : ∀ v, v = zq (swp g sw (k / 4) (k % 4)) → ∃ t', lp_X9_determinant_2 64 p1 (eSw sw) kk f (zn k + 1) (zsL t 80 k v) = kk t' ∧ (∀ c, c < 16 → zL t' 80 c = zq (swp g sw (c / 4) (c % 4))) ∧ zOf (fun o _ => o = 80) t t' := by
      intro v hv
      rw [zn_succ]
      obtain ⟨t', a1, a2, a3⟩ := ih (k + 1) f (zsL t 80 k v) (by omega) (by omega) ⟨fun i j hi hj => by rw [zL_sL, if_neg (by omega)]; exact hg.1 i j hi hj, fun j hj => by rw [zL_sL, if_neg (by omega)]; exact hg.2 j hj⟩ (fun c hc => by
        rw [zL_sL]
        by_cases h : c = k
        · rw [if_pos ⟨rfl, h⟩, hv, h]
        · rw [if_neg (fun hh => h hh.2)]; exact hq c (by omega))
      exact ⟨t', a1, a2, (zOf.rf.sL (by rfl)).tr a3⟩
    simp only [lp_X9_determinant_2, bd_X9_determinant_2, m_X9_determinant_37, h1, if_true, m3, hs, m1, m2, i2, i3, i4, i5, zT_64_32, zT_64_33, zT_64_34, zN_78, zN_79, zN_80, or_self, if_false, zlt_eq]
    by_cases hc : k % 4 = sw
    · rw [if_pos hc]
      exact go _ (by rw [hg.2 (k / 4) (by omega)]; unfold swp; rw [if_pos hc])
    · rw [if_neg hc]
      refine go _ ?_
      have := hg.1 (k / 4) (k % 4) (by omega) (by omega)
      rw [show 4 * (k / 4) + k % 4 = k by omega] at this
      rw [this]; unfold swp; rw [if_neg hc]
theorem i44 (r c : Nat) : ((4 : Int32) * zn r) + zn c = zn (4 * r + c) := by
  rw [show (4 : Int32) = zn 4 from rfl, zn_mul, zn_add]
theorem two_eq {t : zSt} {a : Nat → Nat → Int} (hq : ∀ i j, i < 4 → j < 4 → zL t 80 (4 * i + j) = zq (a i j)) {r s c d : Nat} (hr : r < 4) (hs : s < 4) (hc : c < 4) (hd : d < 4) : m_X9_two 64 (zn r) (zn s) (zn c) (zn d) t = some (zq (d2 a r s c d), t) := by
  have g : ∀ x y, x < 4 → y < 4 → ¬ zn (4 * x + y) < 0 ∧ (zn (4 * x + y)).toNatClampNeg = 4 * x + y ∧ ¬ 16 ≤ 4 * x + y := fun x y hx hy => ⟨zn_neg (by omega), zn_cl (by omega), by omega⟩
  simp only [m_X9_two, i44, zT_64_34, zN_80, (g r c hr hc).1, (g r c hr hc).2.1, (g r c hr hc).2.2, (g s d hs hd).1, (g s d hs hd).2.1, (g s d hs hd).2.2, (g r d hr hd).1, (g r d hr hd).2.1, (g r d hr hd).2.2, (g s c hs hc).1, (g s c hs hc).2.1, (g s c hs hc).2.2, or_self, if_false, hq r c hr hc, hq s d hs hd, hq r d hr hd, hq s c hs hc, zq_mul, zq_sub, d2]
theorem three_eq {t : zSt} {a : Nat → Nat → Int} (hq : ∀ i j, i < 4 → j < 4 → zL t 80 (4 * i + j) = zq (a i j)) {r s x c d e : Nat} (hr : r < 4) (hs : s < 4) (hx : x < 4) (hc : c < 4) (hd : d < 4) (he : e < 4) : m_X9_three 64 (zn r) (zn s) (zn x) (zn c) (zn d) (zn e) t = some (zq (d3 a r s x c d e), t) := by
  have g : ∀ x y, x < 4 → y < 4 → ¬ zn (4 * x + y) < 0 ∧ (zn (4 * x + y)).toNatClampNeg = 4 * x + y ∧ ¬ 16 ≤ 4 * x + y := fun x y hx hy => ⟨zn_neg (by omega), zn_cl (by omega), by omega⟩
  simp only [m_X9_three, i44, zT_64_34, zN_80, (g r c hr hc).1, (g r c hr hc).2.1, (g r c hr hc).2.2, (g r d hr hd).1, (g r d hr hd).2.1, (g r d hr hd).2.2, (g r e hr he).1, (g r e hr he).2.1, (g r e hr he).2.2, or_self, if_false, two_eq hq hs hx hd he, two_eq hq hs hx hc he, two_eq hq hs hx hc hd, zcl_some, hq r c hr hc, hq r d hr hd, hq r e hr he, zq_mul, zq_sub, zq_add, d3]
theorem det_md {t : zSt} {g : Nat → Nat → Int} {u sw : Nat} (hu : u = 2 ∨ u = 3 ∨ u = 4) (hsw : sw < 6) (hs4 : sw ≠ 4) (hg : smE g t) : ∃ t', m_X9_determinant 64 (zn u) (eSw sw) t = some (zq (dM u (swp g sw)), t') ∧ zOf (fun o _ => o = 80) t t' := by
  obtain ⟨t', a1, a2, a3⟩ := sq_lp hsw hs4 (p1 := zn u) (kk := fun s_2 => (if zn u = 2 then
  zcl (m_X9_two 64 0 1 0 1 s_2) (fun r4 s3 => some (r4, s3))
  else
  (if zn u = 3 then
    zcl (m_X9_three 64 0 1 2 0 1 2 s_2) (fun r6 s5 => some (r6, s5))
    else
    (if (0 : Int32) < 0 ∨ zN (zT 64 34) ≤ Int32.toNatClampNeg 0 then none else zcl (m_X9_three 64 1 2 3 1 2 3 s_2) (fun r8 s7 => (if (1 : Int32) < 0 ∨ zN (zT 64 34) ≤ Int32.toNatClampNeg 1 then none else zcl (m_X9_three 64 1 2 3 0 2 3 s7) (fun r10 s9 => (if (2 : Int32) < 0 ∨ zN (zT 64 34) ≤ Int32.toNatClampNeg 2 then none else zcl (m_X9_three 64 1 2 3 0 1 3 s9) (fun r12 s11 => (if (3 : Int32) < 0 ∨ zN (zT 64 34) ≤ Int32.toNatClampNeg 3 then none else zcl (m_X9_three 64 1 2 3 0 1 2 s11) (fun r14 s13 => some (((((zL s_2 (zT 64 34) (Int32.toNatClampNeg 0)) * r8) - ((zL s7 (zT 64 34) (Int32.toNatClampNeg 1)) * r10)) + ((zL s9 (zT 64 34) (Int32.toNatClampNeg 2)) * r12)) - ((zL s11 (zT 64 34) (Int32.toNatClampNeg 3)) * r14), s13)))))))))))) 16 0 zFuel t (by omega) (by unfold zFuel; omega) hg (fun c hc => by omega)
  have hq : ∀ i j, i < 4 → j < 4 → zL t' 80 (4 * i + j) = zq (swp g sw i j) := fun i j hi hj => by
    rw [a2 (4 * i + j) (by omega), show (4 * i + j) / 4 = i by omega, show (4 * i + j) % 4 = j by omega]
  refine ⟨t', ?_, a3⟩
  unfold m_X9_determinant
  refine Eq.trans a1 ?_
  have h2 : m_X9_two 64 0 1 0 1 t' = _ := two_eq hq (r := 0) (s := 1) (c := 0) (d := 1) (by omega) (by omega) (by omega) (by omega)
  have h3 : m_X9_three 64 0 1 2 0 1 2 t' = _ := three_eq hq (r := 0) (s := 1) (x := 2) (c := 0) (d := 1) (e := 2) (by omega) (by omega) (by omega) (by omega) (by omega) (by omega)
  have k1 : m_X9_three 64 1 2 3 1 2 3 t' = _ := three_eq hq (r := 1) (s := 2) (x := 3) (c := 1) (d := 2) (e := 3) (by omega) (by omega) (by omega) (by omega) (by omega) (by omega)
  have k2 : m_X9_three 64 1 2 3 0 2 3 t' = _ := three_eq hq (r := 1) (s := 2) (x := 3) (c := 0) (d := 2) (e := 3) (by omega) (by omega) (by omega) (by omega) (by omega) (by omega)
  have k3 : m_X9_three 64 1 2 3 0 1 3 t' = _ := three_eq hq (r := 1) (s := 2) (x := 3) (c := 0) (d := 1) (e := 3) (by omega) (by omega) (by omega) (by omega) (by omega) (by omega)
  have k4 : m_X9_three 64 1 2 3 0 1 2 t' = _ := three_eq hq (r := 1) (s := 2) (x := 3) (c := 0) (d := 1) (e := 2) (by omega) (by omega) (by omega) (by omega) (by omega) (by omega)
  rcases hu with rfl | rfl | rfl
  · simp only [show (zn 2 : Int32) = 2 from rfl, if_true, h2, zcl_some, dM]
  · simp only [show (zn 3 : Int32) = 3 from rfl, show ¬ (3 : Int32) = 2 by decide, if_false, if_true, h3, zcl_some, dM, show ¬ (3 : Nat) = 2 by decide]
  · simp only [show (zn 4 : Int32) = 4 from rfl, show ¬ (4 : Int32) = 2 by decide, show ¬ (4 : Int32) = 3 by decide, if_false, tc_0, ln_0, tc_1, ln_1, tc_2, ln_2, tc_3, ln_3, tc_4, ln_4, tc_5, ln_5, tc_6, ln_6, tc_7, ln_7, tc_8, ln_8, tc_9, ln_9, tc_10, ln_10, tc_11, ln_11, tc_12, ln_12, tc_13, ln_13, zT_64_34, zN_80, show ¬ 16 ≤ 0 by decide, show ¬ 16 ≤ 1 by decide, show ¬ 16 ≤ 2 by decide, show ¬ 16 ≤ 3 by decide, or_self, k1, k2, k3, k4, zcl_some, dM, show ¬ (4 : Nat) = 2 by decide, show ¬ (4 : Nat) = 3 by decide, d4, hq 0 0 (by omega) (by omega) |> (show zL t' 80 0 = _ from ·), hq 0 1 (by omega) (by omega) |> (show zL t' 80 1 = _ from ·), hq 0 2 (by omega) (by omega) |> (show zL t' 80 2 = _ from ·), hq 0 3 (by omega) (by omega) |> (show zL t' 80 3 = _ from ·), zq_mul, zq_sub, zq_add]
