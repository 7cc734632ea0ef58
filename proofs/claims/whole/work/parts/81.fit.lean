def gFit (o c : Nat) : Prop := gSo o c ∨ gSf o c ∨ gScr o c
theorem okU_of {n : Nat} {sd mi nu : Nat → Int} (ok : okR n sd mi nu) (ct : Nat → Bool) {u : Nat} (hu : u = 2 ∨ u = 3 ∨ u = 4) : okU (dM u (swp (gT ct sd mi nu n) 5)) (fUj ct sd mi nu n u) := by
  have h1 := dM_nn ok ct hu
  have h2 := dD_in ok ct hu
  refine ⟨by omega, fun j => ?_⟩
  unfold fUj
  split
  · exact dM_in ok ct hu (by omega)
  · omega
theorem gSo_lo {o c : Nat} (h : gSo o c) : o < 64 := by unfold gSo at h; omega
theorem call_fit {σ : zSt} (h : iRead σ) (p1 p2 p3 p4 : Int32) : zCa (fun _ => True) gFit (m_X8_fit 0 p1 p2 p3 p4) (m_X9_fit 64 p1 p2 p3 p4) σ := by
  by_cases g1 : 0 ≤ p1 ∧ p1 ≤ 2
  rotate_left
  · refine zCa.mk (r := -1000000000000) (σ1 := σ) (σ2 := σ) ?_ ?_ trivial zOf.rf
    · simp [m_X8_fit, within_eq, zcl_some, zcv_some, zlt_eq, g1]
    · by_cases q : p1 < 0
      · simp [m_X9_fit, q]
      · have q2 : 2 < p1 := by grind
        simp [m_X9_fit, q, q2]
  have q1 : ¬ p1 < 0 := by grind
  have q2 : ¬ 2 < p1 := by grind
  by_cases g2 : 0 ≤ p2 ∧ p2 ≤ 4
  rotate_left
  · refine zCa.mk (r := -1000000000000) (σ1 := σ) (σ2 := σ) ?_ ?_ trivial zOf.rf
    · simp [m_X8_fit, within_eq, zcl_some, zcv_some, zlt_eq, g1, g2]
    · by_cases q : p2 < 0
      · simp [m_X9_fit, q1, q2, q]
      · have q3 : 4 < p2 := by grind
        simp [m_X9_fit, q1, q2, q, q3]
  have q3 : ¬ p2 < 0 := by grind
  have q4 : ¬ 4 < p2 := by grind
  by_cases g3 : 0 ≤ p3 ∧ p3 ≤ 1
  rotate_left
  · refine zCa.mk (r := -1000000000000) (σ1 := σ) (σ2 := σ) ?_ ?_ trivial zOf.rf
    · simp [m_X8_fit, within_eq, zcl_some, zcv_some, zlt_eq, g1, g2, g3]
    · simp [m_X9_fit, isPart_eq, zcl_some, zcv_some, zlt_eq, q1, q2, q3, q4, g3]
  obtain ⟨m, hm, rfl⟩ := zn_of q1
  have hm2 : m ≤ 2 := (zn_le (b := 2) hm (by omega)).1 g1.2
  obtain ⟨w, hw, rfl⟩ := zn_of q3
  have hw4 : w ≤ 4 := (zn_le (b := 4) hw (by omega)).1 g2.2
  have hu : m + 2 = 2 ∨ m + 2 = 3 ∨ m + 2 = 4 := by omega
  have ep : zn m + 2 = zn (m + 2) := zn_add m 2
  obtain ⟨n, sd, mi, nu, ct, ok, hC, hM⟩ := rd_rows h p4
  obtain ⟨s1, a1, a2, a3, a4, a5⟩ := solve_eq ok hu hC
  have hM1 : rwM s1 n sd mi nu p4 ct := hM.of (a5 64 30 (by unfold gSo; omega)).1 (fun o c h1 h2 => (a5 o c (by unfold gSo; omega)).1)
  have hD0 := dM_nn ok ct hu
  have hDi := dD_in ok ct hu
  have hU := okU_of ok ct hu
  have hU0 : ∀ j, m + 2 ≤ j → fUj ct sd mi nu n (m + 2) j = 0 := fun j hj => by unfold fUj; rw [if_neg (by omega)]
  generalize hD : dM (m + 2) (swp (gT ct sd mi nu n) 5) = D at *
  have zD : zin D := by unfold zin; omega
  -- after the class: the model
  have model : ∀ s2, rwM s2 n sd mi nu p4 ct → ∃ t', m_X9_seekFit 64 (zn m) p4 s2 = some t' ∧ zL t' 64 36 = zq D ∧ (∀ j, j < 4 → zL t' 81 j = zq (fUj ct sd mi nu n (m + 2) j)) ∧ zOf gSf s2 t' := fun s2 hM2 => by
    have := seekFit_eq ok hu (p1 := zn m) ep hM2
    rw [hD] at this
    exact this
  by_cases hDp : 0 < D
  rotate_left
  · have hDz : D = 0 := by omega
    obtain ⟨t', b1, b2, b3, b4⟩ := model s1 hM1
    refine zCa.mk (r := -1000000000000) (σ1 := s1) (σ2 := t') ?_ ?_ trivial ((a5.mono (fun o c h => Or.inl h)).tr (b4.mono (fun o c h => Or.inr (Or.inl h))))
    · simp only [m_X8_fit, within_eq, zcl_some, g1, g2, g3, and_self, if_true, show ¬ (1 : Int32) = 0 by decide, if_false, zT_0_8, zT_0_9, ep, a1, hDp]
    · simp only [m_X9_fit, isPart_eq, zcl_some, q1, q2, q3, q4, g3, and_self, if_true, show ¬ (1 : Int32) = 0 by decide, if_false, b1, zcv_some, b2, hDz, show zq 0 = (0 : Int64) from rfl]
  have hDn : D ≠ 0 := by omega
  have zDn : ¬ zq D = 0 := fun hh => hDn ((zq_eq0 zD).1 hh)
  have fin : ∀ (v : Int), zin v → ∀ t' : zSt, zcv (m_X9_found 64 (zq v) (zq D) t') (fun s11 => zcl (m_X9_part 64 p3 s11) (fun r13 s12 => some (r13, s12))) = some (zq (if p3 = 1 then rL v D else rU v D), zsL (zsL t' 64 23 (zq (rU v D))) 64 24 (zq (rL v D))) := by
    intro v hv t'
    rw [found_eq hv zD hDn, zcv_some]
    by_cases hp : p3 = 0
    · subst hp
      simp [m_X9_part, zcl_some, zI_sI, zI_sL, zI_sR, zL_sI, zL_sL, zL_sR, zR_sI, zR_sL, zR_sR]
    · have hp1 : p3 = 1 := by grind
      subst hp1
      simp [m_X9_part, zcl_some, zI_sI, zI_sL, zI_sR, zL_sI, zL_sL, zL_sR, zR_sI, zR_sL, zR_sR]
  by_cases hw' : w = 4
  · subst hw'
    obtain ⟨s2, c1, c2⟩ := mo_lp ok hU hu hU0 n 0 zFuel s1 (by omega) (by have := ok.1; unfold zFuel; omega) (hC.of (fun o c h1 h2 => (a5 o c (by unfold gSo; omega)).1)) a3 a2 (a4 hDp)
    have c1' : m_X1_mostOff 59 53 p4 s1 = some (zq (mxF ct (tau sd mi nu) D (fUj ct sd mi nu n (m + 2)) n), s2) := c1
    have mx := mx_in ok (ct := ct) hU n (Nat.le_refl n)
    have zmx : zin (mxF ct (tau sd mi nu) D (fUj ct sd mi nu n (m + 2)) n) := by unfold zin; omega
    obtain ⟨t', b1, b2, b3, b4⟩ := model s2 (hM1.of (c2 64 30 (by omega)).1 (fun o c h1 h2 => (c2 o c (by omega)).1))
    have l2 : zL s2 59 1 = zq D := (c2 59 1 (by omega)).2.1.trans a2
    have hM2 : rwM t' n sd mi nu p4 ct := (hM1.of (c2 64 30 (by omega)).1 (fun o c h1 h2 => (c2 o c (by omega)).1)).of (b4 64 30 (by unfold gSf; omega)).1 (fun o c h1 h2 => (b4 o c (by unfold gSf; omega)).1)
    have d1 := fi_lp4 ok hU (p1 := zn m) (p3 := p3) (kk := fun l5_10 s_10 => m_X9_fit_106 64 (zn m) 4 p3 p4 l5_10 s_10) hM2 b2 b3 n 0 zFuel (by omega) (by have := ok.1; unfold zFuel; omega)
    refine zCa.mk (r := zq (if p3 = 1 then rL (mxF ct (tau sd mi nu) D (fUj ct sd mi nu n (m + 2)) n) D else rU (mxF ct (tau sd mi nu) D (fUj ct sd mi nu n (m + 2)) n) D)) (σ1 := s2) (σ2 := zsL (zsL t' 64 23 (zq (rU (mxF ct (tau sd mi nu) D (fUj ct sd mi nu n (m + 2)) n) D))) 64 24 (zq (rL (mxF ct (tau sd mi nu) D (fUj ct sd mi nu n (m + 2)) n) D))) ?_ ?_ trivial ?_
    · simp only [m_X8_fit, within_eq, zcl_some, g1, g2, g3, and_self, if_true, show ¬ (1 : Int32) = 0 by decide, if_false, zT_0_8, zT_0_9, ep, a1, hDp, show zn 4 = (4 : Int32) from rfl, show (0 : Int32) ≤ 4 by decide, show (4 : Int32) ≤ 4 by decide, c1', l2, lowest_eq zmx zD hDn]
    · have nl : ¬ zq D < 0 := fun hh => by have := (zq_lt0 zD).1 hh; omega
      simp only [m_X9_fit, isPart_eq, zcl_some, q1, q2, q3, q4, g3, and_self, if_true, show ¬ (1 : Int32) = 0 by decide, if_false, b1, zcv_some, b2, zDn]
      refine Eq.trans d1 ?_
      simp only [m_X9_fit_106, m_X9_fit_123, m_X9_fit_145, m_X9_fit_149, if_true, b2, nl, if_false]
      exact fin _ zmx t'
    · exact (((a5.mono (fun o c h => Or.inl h)).tr (c2.mono (fun o c h => Or.inl (by unfold gSo; omega)))).tr (b4.mono (fun o c h => Or.inr (Or.inl h)))).tr ((zOf.rf.sL (show gFit 64 23 from Or.inr (Or.inr (by unfold gScr; omega)))).sL (show gFit 64 24 from Or.inr (Or.inr (by unfold gScr; omega))))
  · obtain ⟨t', b1, b2, b3, b4⟩ := model s1 hM1
    have w4 : ¬ zn w = 4 := fun hh => hw' ((zn_inj (b := 4) (by omega) (by omega)).1 hh)
    have w3 : (zn w).toNatClampNeg = w := zn_cl (by omega)
    have w5 : ¬ 4 ≤ w := by omega
    have zU : zin (fUj ct sd mi nu n (m + 2) w) := by have := hU.2 w; unfold zin; omega
    have hlt : zn w < zn (m + 2) ↔ w < m + 2 := zn_lt (by omega) (by omega)
    refine zCa.mk (r := zq (if p3 = 1 then rL (fUj ct sd mi nu n (m + 2) w) D else rU (fUj ct sd mi nu n (m + 2) w) D)) (σ1 := s1) (σ2 := zsL (zsL t' 64 23 (zq (rU (fUj ct sd mi nu n (m + 2) w) D))) 64 24 (zq (rL (fUj ct sd mi nu n (m + 2) w) D))) ?_ ?_ trivial ?_
    · simp only [m_X8_fit, m_X8_fit_107, within_eq, zcl_some, g1, g2, g3, and_self, if_true, show ¬ (1 : Int32) = 0 by decide, if_false, zT_0_8, zT_0_9, zT_59_0, zN_60, ep, a1, hDp, w4, hlt, q3, w3, w5, or_self, a2]
      by_cases hwm : w < m + 2
      · rw [if_pos hwm, a4 hDp w hwm, lowest_eq zU zD hDn, zcl_some]
      · rw [if_neg hwm, hU0 w (by omega), show (0 : Int64) = zq 0 from rfl, lowest_eq (by unfold zin; omega) zD hDn, zcl_some]
    · simp only [m_X9_fit, isPart_eq, zcl_some, q1, q2, q3, q4, g3, and_self, if_true, show ¬ (1 : Int32) = 0 by decide, if_false, b1, zcv_some, b2, zDn]
      have d1 : lp_X9_fit_55 64 (zn m) (zn w) p3 p4 (fun l5_10 s_10 => m_X9_fit_106 64 (zn m) (zn w) p3 p4 l5_10 s_10) zFuel 0 0 t' = m_X9_fit_106 64 (zn m) (zn w) p3 p4 0 t' := by
        obtain ⟨f, hf⟩ : ∃ f, zFuel = f + 1 := ⟨999999, rfl⟩
        rw [hf]
        simp only [lp_X9_fit_55, bd_X9_fit_55, w4, if_false, ite_self]
      rw [d1]
      simp only [m_X9_fit_106, m_X9_fit_123, m_X9_fit_145, m_X9_fit_149, w4, if_false, q3, w3, w5, zT_64_35, zN_81, or_self, b2, b3 w (by omega)]
      exact fin _ zU t'
    · exact ((a5.mono (fun o c h => Or.inl h)).tr (b4.mono (fun o c h => Or.inr (Or.inl h)))).tr ((zOf.rf.sL (show gFit 64 23 from Or.inr (Or.inr (by unfold gScr; omega)))).sL (show gFit 64 24 from Or.inr (Or.inr (by unfold gScr; omega))))
set_option maxRecDepth 20000 in
theorem call_world {σ : zSt} (h : iRead σ) {S : Nat} (hS : isS S) (h1 : zR σ 0 2 = S) (hset : rSet S σ σ) (p1 : Int32) : zCa (fun _ => True) gFit (m_X8_world 0 p1) (m_X9_world 64 p1) σ := by
  obtain ⟨n, sd, mi, nu, ct, ok, hC, hM⟩ := rd_rows h p1
  have hu : 3 = 2 ∨ 3 = 3 ∨ 3 = 4 := by omega
  obtain ⟨s1, a1, a2, a3, a4, a5⟩ := solve_eq ok hu hC
  have hM1 : rwM s1 n sd mi nu p1 ct := hM.of (a5 64 30 (by unfold gSo; omega)).1 (fun o c h1 h2 => (a5 o c (by unfold gSo; omega)).1)
  obtain ⟨t1, b1, b2, b3, b4⟩ := seekFit_eq ok hu (p1 := 1) (by rfl) hM1
  have hle := d3_le ok ct
  have hDi := dD_in ok ct hu
  have hUi := dM_in ok ct hu (sw := 1) (by omega)
  have eU : fUj ct sd mi nu n 3 1 = dM 3 (swp (gT ct sd mi nu n) 1) := by unfold fUj; rw [if_pos (by omega)]
  have hA := a4
  have b31 := b3 1 (by omega)
  rw [eU] at b31
  generalize dM 3 (swp (gT ct sd mi nu n) 5) = D at *
  generalize hUg : dM 3 (swp (gT ct sd mi nu n) 1) = V at *
  have zD : zin D := by unfold zin; omega
  have e1 : zOf gFit σ t1 := (a5.mono (fun o c h => Or.inl h)).tr (b4.mono (fun o c h => Or.inr (Or.inl h)))
  have a1' : m_X1_solve 59 53 3 p1 σ = some (if 0 < D then 1 else 0, s1) := a1
  by_cases hDp : 0 < D
  rotate_left
  · have hDz : D = 0 := by omega
    refine zCa.mk (r := -1) (σ1 := s1) (σ2 := t1) ?_ ?_ trivial e1
    · simp only [m_X8_world, zT_0_8, zT_0_9, a1', hDp, if_false, zcl_some, if_true]
    · simp only [m_X9_world, b1, zcv_some, b2, hDz, show zq 0 = (0 : Int64) from rfl, if_true]
  have hDn : D ≠ 0 := by omega
  have zDn : ¬ zq D = 0 := fun hh => hDn ((zq_eq0 zD).1 hh)
  have zV : zin V := by unfold zin; omega
  have u1 : zL s1 60 1 = zq V := by rw [a4 hDp 1 (by omega), eU]
  have dD : (zq D).toInt = D := zq_int zD
  have zV1 : zin (V * 1000) := by unfold zin; omega
  have fl1 : m_X8_floorOf (zq V * 1000) (zq D) s1 = some (zq (V * 1000 / D), s1) := by
    rw [floorOf_eq (by rw [dD]; exact hDp), dD, show (1000 : Int64) = zq 1000 from rfl, zq_mul, zq_int zV1]
  obtain ⟨g, hg, r1, r2, r3⟩ := r_spec (u := V) hDp
  have eG : rU V D * 1000 / rL V D = V * 1000 / D := by
    have : V * 1000 / D = (g * (rU V D * 1000)) / (g * rL V D) := by
      rw [← r2, ← Int.mul_assoc, ← r1]
    rw [this, Int.mul_ediv_mul_of_pos _ _ hg]
  have rUi : -2500000000000000 ≤ rU V D ∧ rU V D ≤ 2500000000000000 := by
    have hx : (rU V D).natAbs ≤ V.natAbs := by
      conv => rhs; rw [r1, Int.natAbs_mul]
      have : 1 ≤ g.natAbs := by omega
      calc (rU V D).natAbs = 1 * (rU V D).natAbs := by rw [Nat.one_mul]
        _ ≤ g.natAbs * (rU V D).natAbs := Nat.mul_le_mul_right _ this
    omega
  have rLi : rL V D ≤ D := by
    have : 1 * rL V D ≤ g * rL V D := Int.mul_le_mul_of_nonneg_right (by omega) (by omega)
    omega
  have fd := found_eq zV zD hDn t1
  have dn1 : ∀ s, m_X9_down (zq (rU V D) * 1000) (zq (rL V D)) s = some (zq (V * 1000 / D), s) := fun s => by
    have e : (zq (rL V D)).toInt = rL V D := zq_int (by unfold zin; omega)
    rw [down_eq (by rw [e]; exact r3), e, show (1000 : Int64) = zq 1000 from rfl, zq_mul, zq_int (by unfold zin; omega), eG]
  have Gle : V * 1000 / D ≤ 600000000 := Int.ediv_le_of_le_mul hDp (by
    have : 600000 * D * 1000 = 600000000 * D := by omega
    omega)
  have Gge : -2500000000000000000 ≤ V * 1000 / D := by
    have h2 : V * 1000 / D = V * 1000 / D := rfl
    have := Int.ediv_mul_le (V * 1000) (show D ≠ 0 by omega)
    have h3 : V * 1000 < (V * 1000 / D + 1) * D := Int.lt_ediv_add_one_mul_self (V * 1000) hDp
    by_cases hn : V * 1000 / D + 1 ≤ 0
    · have h4 : (V * 1000 / D + 1) * D ≤ (V * 1000 / D + 1) * 1 := Int.mul_le_mul_of_nonpos_left hn (by omega)
      omega
    · omega
  generalize hG : V * 1000 / D = G at *
  have zG : zin G := by unfold zin; omega
  have cG : 0 < zq G ↔ 0 < G := zq_0lt zG
  have n1 : ¬ (1 : Int32) < 0 := by decide
  have n4 : ¬ (4 ≤ 1) := by decide
  have e2 : zOf gFit σ (zsL (zsL t1 64 23 (zq (rU V D))) 64 24 (zq (rL V D))) := (e1.sL (by unfold gFit gScr; omega)).sL (by unfold gFit gScr; omega)
  by_cases hGp : 0 < G
  rotate_left
  · refine zCa.mk (r := -1) (σ1 := s1) (σ2 := zsL (zsL t1 64 23 (zq (rU V D))) 64 24 (zq (rL V D))) ?_ ?_ trivial e2
    · simp only [m_X8_world, zT_0_8, zT_0_9, zT_59_0, zN_60, a1', hDp, if_true, zcl_some, show ¬ (1 : Int32) = 0 by decide, tc_1, n1, n4, or_self, if_false, u1, a2, fl1, cG, hGp]
    · simp only [m_X9_world, b1, zcv_some, b2, zDn, if_false, zT_64_35, zN_81, tc_1, n1, n4, or_self, b31, fd, zI_sI, zI_sL, zI_sR, zL_sI, zL_sL, zL_sR, zR_sI, zR_sL, zR_sR]
      simp only [and_self, if_true, show ¬ ((23 : Nat) = 24) by decide, and_false, if_false, dn1, zcl_some, cG, hGp]
  have hset1 : rSet S s1 t1 := by
    refine ⟨fun k hk => ?_, ?_⟩
    · rw [(a5 (S + 6) k (by unfold gSo; rcases hS with rfl | rfl <;> omega)).1, hset.1 k hk]
      exact (e1 67 k (by unfold gFit gSo gSf gScr; omega)).1.symm
    · have : zset t1 = zset σ := by funext k; unfold zset; rw [(e1 67 k (by unfold gFit gSo gSf gScr; omega)).1]
      rw [this]; exact hset.2
  have zs1 : zR s1 0 2 = S := (a5 0 2 (by unfold gSo; omega)).2.2.trans h1
  have hP := fP_in hset1.2
  have hL := fLo_in hset1.2
  generalize hP' : fP (zset t1) = P at *
  generalize hL' : fLo (zset t1) = Lo at *
  have dL : (zq Lo).toInt = Lo := zq_int hL.2.1.2
  have dG : (zq G).toInt = G := zq_int zG
  have zP1 : zin (P * 100000) := by unfold zin; omega
  have pq : 0 ≤ P * 100000 / Lo ∧ P * 100000 / Lo ≤ P * 100000 := ⟨Int.ediv_nonneg (by omega) (by omega), Int.ediv_le_self _ (by omega)⟩
  have f1 : m_X8_floorOf (zq P * 100000) (zq Lo) s1 = some (zq (P * 100000 / Lo), s1) := by
    rw [floorOf_eq (by rw [dL]; omega), dL, show (100000 : Int64) = zq 100000 from rfl, zq_mul, zq_int zP1]
  have f2 : m_X8_floorOf (zq (P * 100000 / Lo)) (zq G) s1 = some (zq (P * 100000 / Lo / G), s1) := by
    rw [floorOf_eq (by rw [dG]; exact hGp), dG, zq_int (by unfold zin; omega)]
  obtain ⟨g', hg', r1', r2', r3'⟩ := r_spec (u := P) (show 0 < Lo by omega)
  have rU' : 0 ≤ rU P Lo ∧ rU P Lo ≤ P := by
    have h0 : 0 ≤ rU P Lo := by
      by_cases hneg : rU P Lo < 0
      · have : g' * rU P Lo < 0 := Int.mul_neg_of_pos_of_neg hg' hneg
        omega
      · omega
    have : 1 * rU P Lo ≤ g' * rU P Lo := Int.mul_le_mul_of_nonneg_right (by omega) h0
    omega
  have rL' : rL P Lo ≤ Lo := by
    have : 1 * rL P Lo ≤ g' * rL P Lo := Int.mul_le_mul_of_nonneg_right (by omega) (by omega)
    omega
  have mlg : rL P Lo * G ≤ 3920400000 * 600000000 := Int.mul_le_mul (by omega) Gle (by omega) (by omega)
  have mlp : 0 < rL P Lo * G := Int.mul_pos r3' hGp
  have eF : rU P Lo * 100000 / (rL P Lo * G) = P * 100000 / Lo / G := by
    have : P * 100000 / Lo = (g' * (rU P Lo * 100000)) / (g' * rL P Lo) := by
      rw [← r2', ← Int.mul_assoc, ← r1']
    rw [this, Int.mul_ediv_mul_of_pos _ _ hg', Int.ediv_ediv_of_nonneg (by omega)]
  have dn2 : ∀ s, m_X9_down (zq (rU P Lo) * 100000) (zq (rL P Lo) * zq G) s = some (zq (P * 100000 / Lo / G), s) := fun s => by
    have e : (zq (rL P Lo * G)).toInt = rL P Lo * G := zq_int (by unfold zin; omega)
    rw [zq_mul, down_eq (by rw [e]; exact mlp), e, show (100000 : Int64) = zq 100000 from rfl, zq_mul, zq_int (by unfold zin; omega), eF]
  have zs2 : zset (zsL (zsL t1 64 23 (zq (rU V D))) 64 24 (zq (rL V D))) = zset t1 := by funext k; unfold zset; rw [zI_sL, zI_sL]
  have sp := seekPull_eq (t := zsL (zsL t1 64 23 (zq (rU V D))) 64 24 (zq (rL V D))) (by rw [zs2]; exact hset1.2)
  rw [zs2, hP', hL'] at sp
  have pu := pull_eq hS hset1
  have lw := lower_eq hS hset1
  rw [hP'] at pu
  rw [hL'] at lw
  refine zCa.mk (r := zq (P * 100000 / Lo / G)) (σ1 := s1) (σ2 := zud (zsL (zsL t1 64 23 (zq (rU V D))) 64 24 (zq (rL V D))) (rU P Lo) (rL P Lo)) ?_ ?_ trivial (e2.tr ((zud_of _ _ _).mono (fun o c h => Or.inr (Or.inr h))))
  · simp only [m_X8_world, zT_0_8, zT_0_9, zT_59_0, zN_60, a1', hDp, if_true, zcl_some, show ¬ (1 : Int32) = 0 by decide, tc_1, n1, n4, or_self, if_false, u1, a2, fl1, cG, hGp, zs1, hS.c.1, pu, lw, f1, f2]
  · simp only [m_X9_world, b1, zcv_some, b2, zDn, if_false, zT_64_35, zN_81, tc_1, n1, n4, or_self, b31, fd, zI_sI, zI_sL, zI_sR, zL_sI, zL_sL, zL_sR, zR_sI, zR_sL, zR_sR]
    simp only [and_self, if_true, show ¬ ((23 : Nat) = 24) by decide, and_false, if_false, dn1, zcl_some, cG, hGp, sp, zcv_some]
    simp only [zud, zI_sI, zI_sL, zI_sR, zL_sI, zL_sL, zL_sR, zR_sI, zR_sL, zR_sR]
    simp only [and_self, if_true, show ¬ ((23 : Nat) = 24) by decide, and_false, if_false, dn2, zcl_some]
