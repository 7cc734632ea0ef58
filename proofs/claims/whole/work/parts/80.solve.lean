/-! fit: the class's solve, what is off, the calls -/
theorem mm_u {u : Nat} (hu : u = 2 ∨ u = 3 ∨ u = 4) (s : zSt) : m_J9_min_7cf53 (zn u) 4 s = some (zn u, s) ∧ m_J9_max_7cf53 0 (zn u) s = some (zn u, s) := by
  rcases hu with rfl | rfl | rfl <;> exact ⟨by simp only [m_J9_min_7cf53]; rfl, by simp only [m_J9_max_7cf53]; rfl⟩
def gSo (o c : Nat) : Prop := o = 60 ∨ o = 61 ∨ o = 62 ∨ (o = 59 ∧ (c = 1 ∨ c = 2))
theorem so_lp {g : Nat → Nat → Int} {u : Nat} (hu : u = 2 ∨ u = 3 ∨ u = 4) {p2 p3 : Int32} : ∀ (d j f : Nat) (s : zSt), j + d = u → d < f → zI s 59 2 = zn u → (∀ i j, i < u → j < 5 → zL s 61 (5 * i + j) = zq (g i j)) → ∃ s', lp_X1_solve_51 59 53 p2 p3 f (zn j) s = some (1, s') ∧ (∀ j', j ≤ j' → j' < u → zL s' 60 j' = zq (dM u (swp g j'))) ∧ zOf (fun o c => o = 60 ∧ j ≤ c) s s' := by
  intro d
  induction d with
  | zero =>
    intro j f s hj hf hs hT
    obtain ⟨f, rfl⟩ : ∃ g, f = g + 1 := ⟨f - 1, by omega⟩
    have h1 : ¬ zn j < zn u := by rw [zn_lt (by omega) (by omega)]; omega
    refine ⟨s, ?_, fun j' h1 h2 => by omega, zOf.rf⟩
    simp only [lp_X1_solve_51, bd_X1_solve_51, hs, h1, if_false]
  | succ d ih =>
    intro j f s hj hf hs hT
    obtain ⟨f, rfl⟩ : ∃ g, f = g + 1 := ⟨f - 1, by omega⟩
    have h1 : zn j < zn u := by rw [zn_lt (by omega) (by omega)]; omega
    have x2 : ¬ zn j < 0 := zn_neg (by omega)
    have x3 : (zn j).toNatClampNeg = j := zn_cl (by omega)
    have x4 : ¬ 4 ≤ j := by omega
    have a1 := det_cl hu (sw := j) (by omega) hT
    have ej : eSw j = zn j := by unfold eSw; rw [if_pos (by omega)]
    rw [ej] at a1
    have e : zOf (fun o c => o = 60 ∧ j ≤ c) s (zsL s 60 j (zq (dM u (swp g j)))) := zOf.rf.sL ⟨rfl, Nat.le_refl j⟩
    obtain ⟨s2, b1, b2, b3⟩ := ih (j + 1) f _ (by omega) (by omega) ((e 59 2 (by omega)).1.trans hs) (fun i j' hi hj' => (e 61 _ (by omega)).2.1.trans (hT i j' hi hj'))
    refine ⟨s2, ?_, fun j' h1 h2 => ?_, e.tr (b3.mono (fun o c h => by omega))⟩
    · simp only [lp_X1_solve_51, bd_X1_solve_51, hs, h1, if_true, zT_59_3, zT_59_0, zN_60, a1, zcl_some, x2, x3, x4, or_self, if_false, zlt_eq, zn_succ]
      exact b1
    · by_cases hjj : j' = j
      · subst hjj
        rw [(b3 60 j' (by omega)).2.1, zL_sL, if_pos ⟨rfl, rfl⟩]
      · exact b2 j' (by omega) h2
theorem solve_eq {n : Nat} {sd mi nu : Nat → Int} {k : Int32} {ct : Nat → Bool} (ok : okR n sd mi nu) {u : Nat} (hu : u = 2 ∨ u = 3 ∨ u = 4) {s : zSt} (hC : rwC s n sd mi nu k ct) : ∃ s', m_X1_solve 59 53 (zn u) k s = some (if 0 < dM u (swp (gT ct sd mi nu n) 5) then 1 else 0, s') ∧ zL s' 59 1 = zq (dM u (swp (gT ct sd mi nu n) 5)) ∧ zI s' 59 2 = zn u ∧ (0 < dM u (swp (gT ct sd mi nu n) 5) → ∀ j, j < u → zL s' 60 j = zq (fUj ct sd mi nu n u j)) ∧ zOf gSo s s' := by
  obtain ⟨m1, m2⟩ := mm_u hu s
  have e0 : zOf gSo s (zsI s 59 2 (zn u)) := zOf.rf.sI (by unfold gSo; omega)
  have i0 : zI (zsI s 59 2 (zn u)) 59 2 = zn u := by rw [zI_sI, if_pos ⟨rfl, rfl⟩]
  obtain ⟨s6, a1, a2, a3⟩ := gather_eq ok (show u ≤ 4 by omega) i0 (hC.of (fun o c h1 h2 => (e0 o c (by unfold gSo; omega)).1))
  have e1 : zOf gSo s s6 := e0.tr (a3.mono (fun o c h => by unfold gSo; unfold gGat at h; omega))
  have i6 : zI s6 59 2 = zn u := (a3 59 2 (by unfold gGat; omega)).1.trans i0
  have hT : ∀ i j, i < u → j < 5 → zL s6 61 (5 * i + j) = zq (gT ct sd mi nu n i j) := fun i j hi hj => by
    rw [a2 (5 * i + j) (by omega), show (5 * i + j) / 5 = i by omega, show (5 * i + j) % 5 = j by omega]
    rfl
  have b1 := det_cl hu (sw := 5) (by omega) hT
  rw [show eSw 5 = -1 from rfl] at b1
  have bD := dM_in ok ct hu (sw := 5) (by omega)
  have z : 0 < zq (dM u (swp (gT ct sd mi nu n) 5)) ↔ 0 < dM u (swp (gT ct sd mi nu n) 5) := zq_0lt (by unfold zin; omega)
  have e2 : zOf gSo s (zsL s6 59 1 (zq (dM u (swp (gT ct sd mi nu n) 5)))) := e1.sL (by unfold gSo; omega)
  have l9 : zL (zsL s6 59 1 (zq (dM u (swp (gT ct sd mi nu n) 5)))) 59 1 = zq (dM u (swp (gT ct sd mi nu n) 5)) := by rw [zL_sL, if_pos ⟨rfl, rfl⟩]
  by_cases hD : 0 < dM u (swp (gT ct sd mi nu n) 5)
  · obtain ⟨s7, c1, c2, c3⟩ := so_lp hu (p2 := zn u) (p3 := k) (g := gT ct sd mi nu n) u 0 zFuel (zsL s6 59 1 (zq (dM u (swp (gT ct sd mi nu n) 5)))) (by omega) (by unfold zFuel; omega) (by rw [zI_sL]; exact i6) (fun i j hi hj => by rw [zL_sL, if_neg (by omega)]; exact hT i j hi hj)
    refine ⟨s7, ?_, (c3 59 1 (by omega)).2.1.trans l9, (c3 59 2 (by omega)).1.trans (by rw [zI_sL]; exact i6), fun _ j hj => ?_, e2.tr (c3.mono (fun o c h => by unfold gSo; omega))⟩
    · rw [if_pos hD]
      simp only [m_X1_solve, m1, m2, zcl_some, zlt_eq, a1, zcv_some, zT_59_3, i6, b1, l9, z, hD, if_true]
      exact c1
    · rw [c2 j (by omega) hj]; unfold fUj; rw [if_pos hj]
  · refine ⟨zsL s6 59 1 (zq (dM u (swp (gT ct sd mi nu n) 5))), ?_, l9, by rw [zI_sL]; exact i6, fun h => absurd h hD, e2⟩
    rw [if_neg hD]
    simp only [m_X1_solve, m1, m2, zcl_some, zlt_eq, a1, zcv_some, zT_59_3, i6, b1, l9, z, hD, if_false]
def ofF (τ : Nat → Int) (D : Int) (U : Nat → Int) : Nat → Int
  | 0 => τ 4 * D
  | j + 1 => ofF τ D U j - τ j * U j
def mxF (ct : Nat → Bool) (τ : Nat → Nat → Int) (D : Int) (U : Nat → Int) : Nat → Int
  | 0 => 0
  | r + 1 => if ct r = true then max (mxF ct τ D U r) ((ofF (τ r) D U 4).natAbs : Int) else mxF ct τ D U r
theorem ofF_u {τ : Nat → Int} {D : Int} {U : Nat → Int} {u : Nat} (hu : u = 2 ∨ u = 3 ∨ u = 4) (h0 : ∀ j, u ≤ j → U j = 0) : ofF τ D U u = ofF τ D U 4 := by
  rcases hu with rfl | rfl | rfl
  · simp [ofF, h0 2 (by omega), h0 3 (by omega)]
  · simp [ofF, h0 3 (by omega)]
  · rfl
def okU (D : Int) (U : Nat → Int) : Prop := (-2500000000000 ≤ D ∧ D ≤ 2500000000000) ∧ ∀ j, -2500000000000000 ≤ U j ∧ U j ≤ 2500000000000000
theorem ofF_in {n : Nat} {sd mi nu : Nat → Int} (ok : okR n sd mi nu) {D : Int} {U : Nat → Int} (hU : okU D U) {r : Nat} (hr : r < n) : ∀ j, j ≤ 4 → -(2500000000000000 + j * 497500000000000000) ≤ ofF (tau sd mi nu r) D U j ∧ ofF (tau sd mi nu r) D U j ≤ 2500000000000000 + j * 497500000000000000 := by
  intro j
  induction j with
  | zero =>
    intro _
    have h := bm (A := 999) (B := 2500000000000) (tau_in ok hr 4) hU.1
    unfold ofF
    omega
  | succ j ih =>
    intro hj
    have h1 := ih (by omega)
    have hb : -199 ≤ tau sd mi nu r j ∧ tau sd mi nu r j ≤ 199 := by
      have := tau_bd ok hr (show j < 5 by omega)
      unfold Bd at this
      rw [if_neg (show ¬ j = 4 by omega)] at this
      split at this <;> omega
    have h := bm (A := 199) (B := 2500000000000000) hb (hU.2 j)
    unfold ofF
    omega
theorem of4_in {n : Nat} {sd mi nu : Nat → Int} (ok : okR n sd mi nu) {D : Int} {U : Nat → Int} (hU : okU D U) {r : Nat} (hr : r < n) {j : Nat} (hj : j ≤ 4) : zin (ofF (tau sd mi nu r) D U j) ∧ ((ofF (tau sd mi nu r) D U j).natAbs : Int) ≤ 2000000000000000000 := by
  have h := ofF_in ok hU hr j hj
  unfold zin
  omega
theorem mx_in {n : Nat} {sd mi nu : Nat → Int} (ok : okR n sd mi nu) {ct : Nat → Bool} {D : Int} {U : Nat → Int} (hU : okU D U) : ∀ r, r ≤ n → 0 ≤ mxF ct (tau sd mi nu) D U r ∧ mxF ct (tau sd mi nu) D U r ≤ 2000000000000000000 := by
  intro r
  induction r with
  | zero => intro _; simp [mxF]
  | succ r ih =>
    intro hr
    have h1 := ih (by omega)
    have h2 := (of4_in ok hU (show r < n by omega) (j := 4) (by omega)).2
    unfold mxF
    split <;> omega
theorem mo_in {n : Nat} {sd mi nu : Nat → Int} (ok : okR n sd mi nu) {r : Nat} (hr : r < n) {D : Int} {U : Nat → Int} {u : Nat} (hu : u ≤ 4) {k : Int32} {kk : Int64 → Int32 → Int64 → zSt → Option (Int64 × zSt)} {s : zSt} (hs : zI s 59 2 = zn u) (ht : ∀ j, j < 5 → zI s 62 j = zi (tau sd mi nu r j)) (hl : ∀ j, j < u → zL s 60 j = zq (U j)) {l3 : Int64} {l5 : Int32} : ∀ (d j f : Nat), j + d = u → d < f → lp_X1_mostOff_51 59 53 k kk f l3 l5 (zq (ofF (tau sd mi nu r) D U j)) (zn j) s = kk l3 l5 (zq (ofF (tau sd mi nu r) D U u)) s := by
  intro d
  induction d with
  | zero =>
    intro j f hj hf
    obtain ⟨f, rfl⟩ : ∃ g, f = g + 1 := ⟨f - 1, by omega⟩
    have h1 : ¬ zn j < zn u := by rw [zn_lt (by omega) (by omega)]; omega
    have hju : j = u := by omega
    subst hju
    simp only [lp_X1_mostOff_51, bd_X1_mostOff_51, hs, h1, if_false]
  | succ d ih =>
    intro j f hj hf
    obtain ⟨f, rfl⟩ : ∃ g, f = g + 1 := ⟨f - 1, by omega⟩
    have h1 : zn j < zn u := by rw [zn_lt (by omega) (by omega)]; omega
    have x2 : ¬ zn j < 0 := zn_neg (by omega)
    have x3 : (zn j).toNatClampNeg = j := zn_cl (by omega)
    have x4 : ¬ 4 ≤ j := by omega
    have x5 : ¬ 5 ≤ j := by omega
    simp only [lp_X1_mostOff_51, bd_X1_mostOff_51, hs, h1, if_true, zT_59_0, zT_59_4, zN_60, zN_62, x2, x3, x4, x5, or_self, if_false, ht j (by omega), hl j (by omega), tau_i64 ok hr, zq_mul, zq_sub, zn_succ]
    exact ih (j + 1) f (by omega) (by omega)
theorem max64_eq {a b : Int} (ha : zin a) (hb : zin b) (s : zSt) : m_J9_max_f86c9 (zq a) (zq b) s = some (zq (max a b), s) := by
  unfold m_J9_max_f86c9
  by_cases h : a < b
  · rw [if_pos ((zq_lt ha hb).2 h)]; congr 3; omega
  · rw [if_neg (fun hh => h ((zq_lt ha hb).1 hh))]; congr 3; omega
theorem mo_lp {n : Nat} {sd mi nu : Nat → Int} {k : Int32} {ct : Nat → Bool} (ok : okR n sd mi nu) {D : Int} {U : Nat → Int} (hU : okU D U) {u : Nat} (hu : u = 2 ∨ u = 3 ∨ u = 4) (h0 : ∀ j, u ≤ j → U j = 0) : ∀ (d r f : Nat) (s : zSt), r + d = n → d < f → rwC s n sd mi nu k ct → zI s 59 2 = zn u → zL s 59 1 = zq D → (∀ j, j < u → zL s 60 j = zq (U j)) → ∃ s', lp_X1_mostOff_5 59 53 k f (zq (mxF ct (tau sd mi nu) D U r)) (zn r) s = some (zq (mxF ct (tau sd mi nu) D U n), s') ∧ zOf (fun o _ => o = 62) s s' := by
  have hn := ok.1
  intro d
  induction d with
  | zero =>
    intro r f s hr hf hC hs hD hl
    obtain ⟨f, rfl⟩ : ∃ g, f = g + 1 := ⟨f - 1, by omega⟩
    have h1 : ¬ zn r < zn n := by rw [zn_lt (by omega) (by omega)]; omega
    have hrn : r = n := by omega
    subst hrn
    refine ⟨s, ?_, zOf.rf⟩
    simp only [lp_X1_mostOff_5, bd_X1_mostOff_5, hC.1, h1, if_false]
  | succ d ih =>
    intro r f s hr hf hC hs hD hl
    obtain ⟨f, rfl⟩ : ∃ g, f = g + 1 := ⟨f - 1, by omega⟩
    have h1 : zn r < zn n := by rw [zn_lt (by omega) (by omega)]; omega
    have hrn : r < n := by omega
    have hmx := mx_in ok (ct := ct) hU r (by omega)
    by_cases hc : ct r = true
    · obtain ⟨s1, a1, a2, a3⟩ := row_eq hC hn hrn
      have o4 := of4_in ok hU hrn (j := 4) (by omega)
      have i1 : zI s1 59 2 = zn u := (a3 59 2 (by omega)).1.trans hs
      have b1 := mo_in ok hrn (D := D) (U := U) (show u ≤ 4 by omega) (k := k) (kk := fun l3_4 l5_4 l6_4 s_4 => zcl (m_J9_abs_067f4 l6_4 s_4) (fun r6 s5 => zcl (m_J9_max_f86c9 l3_4 r6 s5) (fun r8 s7 => m_X1_mostOff_97 59 53 k (fun l3 l5 s => lp_X1_mostOff_5 59 53 k f l3 l5 s) r8 l5_4 s7))) i1 a2 (fun j hj => (a3 60 j (by omega)).2.1.trans (hl j hj)) (l3 := zq (mxF ct (tau sd mi nu) D U r)) (l5 := zn r) u 0 zFuel (by omega) (by unfold zFuel; omega)
      obtain ⟨s2, c1, c2⟩ := ih (r + 1) f s1 (by omega) (by omega) (hC.of (fun o c h1 h2 => (a3 o c (by omega)).1)) i1 ((a3 59 1 (by omega)).2.1.trans hD) (fun j hj => (a3 60 j (by omega)).2.1.trans (hl j hj))
      refine ⟨s2, ?_, a3.tr c2⟩
      have v0 : (zI s1 62 4).toInt64 * zL s1 59 1 = zq (ofF (tau sd mi nu r) D U 0) := by
        rw [a2 4 (by omega), tau_i64 ok hrn, (a3 59 1 (by omega)).2.1, hD, zq_mul]
        rfl
      simp only [lp_X1_mostOff_5, bd_X1_mostOff_5, hC.1, h1, if_true, countsC_eq hC hn hrn, zcl_some, hc, show ¬ (1 : Int32) = 0 by decide, if_false, zT_59_4, a1, zcv_some, tc_0, ln_0, tc_1, ln_1, tc_2, ln_2, tc_3, ln_3, tc_4, ln_4, tc_5, ln_5, tc_6, ln_6, tc_7, ln_7, tc_8, ln_8, tc_9, ln_9, tc_10, ln_10, tc_11, ln_11, tc_12, ln_12, tc_13, ln_13, zN_62, show ¬ 5 ≤ 4 by decide, or_self, v0]
      refine Eq.trans b1 ?_
      rw [ofF_u hu h0, abs_eq o4.1, zcl_some, max64_eq (by unfold zin; omega) (by unfold zin; omega), zcl_some]
      unfold m_X1_mostOff_97
      rw [zn_succ]
      have e : mxF ct (tau sd mi nu) D U (r + 1) = max (mxF ct (tau sd mi nu) D U r) ((ofF (tau sd mi nu r) D U 4).natAbs : Int) := by
        rw [mxF, if_pos hc]
      rw [e] at c1
      exact c1
    · obtain ⟨s2, c1, c2⟩ := ih (r + 1) f s (by omega) (by omega) hC hs hD hl
      refine ⟨s2, ?_, c2⟩
      have e : mxF ct (tau sd mi nu) D U (r + 1) = mxF ct (tau sd mi nu) D U r := by
        rw [mxF, if_neg hc]
      rw [e] at c1
      simp only [lp_X1_mostOff_5, bd_X1_mostOff_5, m_X1_mostOff_97, hC.1, h1, if_true, countsC_eq hC hn hrn, zcl_some, hc, if_false, zn_succ]
      exact c1
theorem oo_in {n : Nat} {sd mi nu : Nat → Int} {k : Int32} {ct : Nat → Bool} (ok : okR n sd mi nu) {r : Nat} (hr : r < n) {D : Int} {U : Nat → Int} {kk : Int64 → zSt → Option (Int64 × zSt)} {t : zSt} (hM : rwM t n sd mi nu k ct) (hl : ∀ j, j < 4 → zL t 81 j = zq (U j)) : ∀ (d j f : Nat), j + d = 4 → d < f → lp_X9_offOf_16 64 (zn r) kk f (zq (ofF (tau sd mi nu r) D U j)) (zn j) t = kk (zq (ofF (tau sd mi nu r) D U 4)) t := by
  have hn := ok.1
  intro d
  induction d with
  | zero =>
    intro j f hj hf
    obtain ⟨f, rfl⟩ : ∃ g, f = g + 1 := ⟨f - 1, by omega⟩
    have hj4 : j = 4 := by omega
    subst hj4
    have h1 : ¬ zn 4 < 4 := by decide
    simp only [lp_X9_offOf_16, bd_X9_offOf_16, h1, if_false]
  | succ d ih =>
    intro j f hj hf
    obtain ⟨f, rfl⟩ : ∃ g, f = g + 1 := ⟨f - 1, by omega⟩
    have h1 : zn j < 4 := (zn_lt (b := 4) (by omega) (by omega)).2 (by omega)
    have x2 : ¬ zn j < 0 := zn_neg (by omega)
    have x3 : (zn j).toNatClampNeg = j := zn_cl (by omega)
    have x4 : ¬ 4 ≤ j := by omega
    simp only [lp_X9_offOf_16, bd_X9_offOf_16, h1, if_true, goes_eq hM hn hr (show j < 4 by omega), zcl_some, zT_64_35, zN_81, x2, x3, x4, or_self, if_false, hl j (by omega), tau_i64 ok hr, zq_mul, zq_sub, zn_succ]
    exact ih (j + 1) f (by omega) (by omega)
theorem offOf_eq {n : Nat} {sd mi nu : Nat → Int} {k : Int32} {ct : Nat → Bool} (ok : okR n sd mi nu) {r : Nat} (hr : r < n) {D : Int} {U : Nat → Int} (hU : okU D U) {t : zSt} (hM : rwM t n sd mi nu k ct) (hD : zL t 64 36 = zq D) (hl : ∀ j, j < 4 → zL t 81 j = zq (U j)) : m_X9_offOf 64 (zn r) t = some (zq ((ofF (tau sd mi nu r) D U 4).natAbs : Int), t) := by
  have hn := ok.1
  have h2 : ¬ zn r < 0 := zn_neg (by omega)
  have h3 : (zn r).toNatClampNeg = r := zn_cl (by omega)
  have h4 : ¬ 40 ≤ r := by omega
  have o4 := of4_in ok hU hr (j := 4) (by omega)
  have v0 : (zI t 75 r).toInt64 * zL t 64 36 = zq (ofF (tau sd mi nu r) D U 0) := by
    rw [(hM.2 r hr).2.2.1, hD, show zi (nu r) = zi (tau sd mi nu r 4) from rfl, tau_i64 ok hr, zq_mul]
    rfl
  have b1 := oo_in ok hr (D := D) (U := U) (kk := fun l2_3 s_3 => (if l2_3 < 0 then some (-l2_3, s_3) else some (l2_3, s_3))) hM hl 4 0 zFuel (by omega) (by unfold zFuel; omega)
  simp only [m_X9_offOf, zT_64_27, zN_75, h2, h3, h4, or_self, if_false, v0]
  refine Eq.trans b1 ?_
  rw [zq_neg]
  by_cases h : ofF (tau sd mi nu r) D U 4 < 0
  · rw [if_pos ((zq_lt0 o4.1).2 h)]; congr 3; omega
  · rw [if_neg (fun hh => h ((zq_lt0 o4.1).1 hh))]; congr 3; omega
theorem fi_lp4 {n : Nat} {sd mi nu : Nat → Int} {k : Int32} {ct : Nat → Bool} (ok : okR n sd mi nu) {D : Int} {U : Nat → Int} (hU : okU D U) {p1 p3 : Int32} {kk : Int64 → zSt → Option (Int64 × zSt)} {t : zSt} (hM : rwM t n sd mi nu k ct) (hD : zL t 64 36 = zq D) (hl : ∀ j, j < 4 → zL t 81 j = zq (U j)) : ∀ (d r f : Nat), r + d = n → d < f → lp_X9_fit_55 64 p1 4 p3 k kk f (zq (mxF ct (tau sd mi nu) D U r)) (zn r) t = kk (zq (mxF ct (tau sd mi nu) D U n)) t := by
  have hn := ok.1
  intro d
  induction d with
  | zero =>
    intro r f hr hf
    obtain ⟨f, rfl⟩ : ∃ g, f = g + 1 := ⟨f - 1, by omega⟩
    have h1 : ¬ zn r < zn n := by rw [zn_lt (by omega) (by omega)]; omega
    have hrn : r = n := by omega
    subst hrn
    simp only [lp_X9_fit_55, bd_X9_fit_55, hM.1, h1, if_false]
  | succ d ih =>
    intro r f hr hf
    obtain ⟨f, rfl⟩ : ∃ g, f = g + 1 := ⟨f - 1, by omega⟩
    have h1 : zn r < zn n := by rw [zn_lt (by omega) (by omega)]; omega
    have hrn : r < n := by omega
    have hmx := mx_in ok (ct := ct) hU r (by omega)
    have o4 := of4_in ok hU hrn (j := 4) (by omega)
    have c1 := ih (r + 1) f (by omega) (by omega)
    by_cases hc : ct r = true
    · have e : mxF ct (tau sd mi nu) D U (r + 1) = max (mxF ct (tau sd mi nu) D U r) ((ofF (tau sd mi nu r) D U 4).natAbs : Int) := by
        rw [mxF, if_pos hc]
      simp only [lp_X9_fit_55, bd_X9_fit_55, m_X9_fit_100, hM.1, h1, if_true, countsM_eq hM hn hrn, zcl_some, hc, show ¬ (1 : Int32) = 0 by decide, if_false, offOf_eq ok hrn hU hM hD hl, zn_succ]
      have lt := zq_lt (a := mxF ct (tau sd mi nu) D U r) (b := ((ofF (tau sd mi nu r) D U 4).natAbs : Int)) (by unfold zin; omega) (by unfold zin; omega)
      by_cases hlt : mxF ct (tau sd mi nu) D U r < ((ofF (tau sd mi nu r) D U 4).natAbs : Int)
      · rw [if_pos (lt.2 hlt)]
        rw [e, show max (mxF ct (tau sd mi nu) D U r) ((ofF (tau sd mi nu r) D U 4).natAbs : Int) = ((ofF (tau sd mi nu r) D U 4).natAbs : Int) by omega] at c1
        exact c1
      · rw [if_neg (fun h => hlt (lt.1 h))]
        rw [e, show max (mxF ct (tau sd mi nu) D U r) ((ofF (tau sd mi nu r) D U 4).natAbs : Int) = mxF ct (tau sd mi nu) D U r by omega] at c1
        exact c1
    · have e : mxF ct (tau sd mi nu) D U (r + 1) = mxF ct (tau sd mi nu) D U r := by
        rw [mxF, if_neg hc]
      rw [e] at c1
      simp only [lp_X9_fit_55, bd_X9_fit_55, m_X9_fit_100, hM.1, h1, if_true, countsM_eq hM hn hrn, zcl_some, hc, if_false, zn_succ]
      exact c1
theorem rd_rows {σ : zSt} (h : iRead σ) (k : Int32) : ∃ (n : Nat) (sd mi nu : Nat → Int) (ct : Nat → Bool), okR n sd mi nu ∧ rwC σ n sd mi nu k ct ∧ rwM σ n sd mi nu k ct := by
  obtain ⟨n, t, ⟨hn, ht⟩, ⟨c1, m1⟩, -, hk⟩ := h
  refine ⟨n, fun r => (zI σ 74 r).toInt, fun r => (zI σ 73 r).toInt, fun r => (zI σ 75 r).toInt, fun r => decide (¬ k < zI σ 76 r ∧ (zI σ 77 r < 0 ∨ k < zI σ 77 r)), ⟨hn, fun r hr => ?_⟩, ⟨c1, fun r hr => ?_⟩, ⟨m1, fun r hr => ?_⟩⟩
  · obtain ⟨⟨-, a1, a2⟩, ⟨-, b1, b2⟩, ⟨-, d1, d2⟩, -, -, -⟩ := hk r hr
    exact ⟨⟨Int32.le_iff_toInt_le.1 a1, Int32.le_iff_toInt_le.1 a2⟩, ⟨Int32.le_iff_toInt_le.1 b1, Int32.le_iff_toInt_le.1 b2⟩, ⟨Int32.le_iff_toInt_le.1 d1, Int32.le_iff_toInt_le.1 d2⟩⟩
  · obtain ⟨⟨a0, -, -⟩, ⟨b0, -, -⟩, ⟨d0, -, -⟩, e0, f0, g0⟩ := hk r hr
    refine ⟨a0.trans (zi_of _), b0.trans (zi_of _), d0.trans (zi_of _), ?_⟩
    rw [e0, f0, decide_eq_true_iff]
    have : zI σ 77 r = -1 ↔ zI σ 77 r < 0 := by
      rw [Int32.lt_iff_toInt_lt, ← Int32.toInt_inj]
      rw [Int32.le_iff_toInt_le] at g0
      have h1 : (-1 : Int32).toInt = -1 := rfl
      have h2 : (0 : Int32).toInt = 0 := rfl
      omega
    rw [this]
  · exact ⟨zi_of _, zi_of _, zi_of _, by rw [decide_eq_true_iff]⟩
