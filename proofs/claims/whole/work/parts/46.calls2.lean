theorem isPart_eq (p : Int32) (s : zSt) : m_X9_isPart p s = some (if 0 ≤ p ∧ p ≤ 1 then 1 else 0, s) := by
  unfold m_X9_isPart
  by_cases h : p = 0
  · subst h; rfl
  by_cases h1 : p = 1
  · subst h1; rfl
  · rw [if_neg h, if_neg h1, if_neg (by grind)]
theorem call_rest {σ : zSt} {S : Nat} (hS : isS S) (h1 : zR σ 0 2 = S) (h : rSet S σ σ) (p1 p2 p3 : Int32) : zCa (fun _ => True) gScr (m_X8_rest 0 p1 p2 p3) (m_X9_rest 64 p1 p2 p3) σ := by
  by_cases g1 : -1 ≤ p1 ∧ p1 ≤ 1
  rotate_left
  · refine zCa.mk (r := -1000000000000) (σ1 := σ) (σ2 := σ) ?_ ?_ trivial zOf.rf
    · simp [m_X8_rest, within_eq, zcl_some, zcv_some, zlt_eq, g1]
    · simp [m_X9_rest, isSide_eq, zcl_some, zcv_some, zlt_eq, g1]
  by_cases g2 : 0 ≤ p2 ∧ p2 ≤ 999
  rotate_left
  · refine zCa.mk (r := -1000000000000) (σ1 := σ) (σ2 := σ) ?_ ?_ trivial zOf.rf
    · simp [m_X8_rest, within_eq, zcl_some, zcv_some, zlt_eq, g1, g2]
    · simp only [m_X9_rest, isSide_eq, zcl_some, zcv_some, zlt_eq, g1, and_self, if_true]
      by_cases q : p2 < 0
      · simp [q]
      · have q2 : 999 < p2 := by grind
        simp [q, q2]
  have q1 : ¬ p2 < 0 := by grind
  have q2 : ¬ 999 < p2 := by grind
  by_cases g3 : 0 ≤ p3 ∧ p3 ≤ 1
  rotate_left
  · refine zCa.mk (r := -1000000000000) (σ1 := σ) (σ2 := σ) ?_ ?_ trivial zOf.rf
    · simp [m_X8_rest, within_eq, zcl_some, zcv_some, zlt_eq, g1, g2, g3]
    · simp [m_X9_rest, isSide_eq, isPart_eq, zcl_some, zcv_some, zlt_eq, g1, q1, q2, g3]
  have i1 : -1 ≤ p1.toInt ∧ p1.toInt ≤ 1 := ⟨Int32.le_iff_toInt_le.1 g1.1, Int32.le_iff_toInt_le.1 g1.2⟩
  have i2 : 0 ≤ p2.toInt ∧ p2.toInt ≤ 999 := ⟨Int32.le_iff_toInt_le.1 g2.1, Int32.le_iff_toInt_le.1 g2.2⟩
  obtain ⟨t', e1, e2, e3, e4⟩ := seekRest_eq h.2 i1 i2
  have hU := fU_in h.2 i1 i2
  have hL := fLo_in h.2
  refine zCa.mk (r := zq (if p3 = 1 then rL (fU (zset σ) p1.toInt p2.toInt) (fLo (zset σ)) else rU (fU (zset σ) p1.toInt p2.toInt) (fLo (zset σ)))) (σ1 := σ) (σ2 := t') ?_ ?_ trivial e4
  · simp only [m_X8_rest, within_eq, zcl_some, zcv_some, zlt_eq, g1, g2, g3, h1, hS.c.1, restUpper_eq hS h, lower_eq hS h, lowest_eq (show zin (fU (zset σ) p1.toInt p2.toInt) by unfold zin; omega) hL.2.1.2 (show fLo (zset σ) ≠ 0 by omega)]
    simp
  · simp only [m_X9_rest, isSide_eq, isPart_eq, zcl_some, zcv_some, zlt_eq, g1, q1, q2, g3, e1, m_X9_part, e2, e3]
    by_cases hp : p3 = 0
    · subst hp; simp [zcl_some, zcv_some, zlt_eq]
    · have hp1 : p3 = 1 := by grind
      subst hp1; simp [zcl_some, zcv_some, zlt_eq]
def trn (ab dm : Int64) : Nat → Int64 → Int64
  | 0, x => x
  | d + 1, x => trn ab dm d (zq ((100 * ab - (x - ab) * dm).toInt / 100))
theorem trn_class {k : Int64 → zSt → Option (Int64 × zSt)} {p1 p2 p3 : Int32} {ab dm : Int64} {m : Nat} (hm : m < 2147483648) : ∀ (d i f : Nat) (x : Int64) (s : zSt), i + d = m → d < f → lp_X8_turning_96 0 p1 p2 p3 (zn m) k f ab dm x (zn i) s = k (trn ab dm d x) s := by
  intro d
  induction d with
  | zero =>
    intro i f x s hi hf
    obtain ⟨f, rfl⟩ : ∃ g, f = g + 1 := ⟨f - 1, by omega⟩
    have : ¬ zn i < zn m := by rw [zn_lt (by omega) (by omega)]; omega
    simp only [lp_X8_turning_96, bd_X8_turning_96, this, if_false, trn]
  | succ d ih =>
    intro i f x s hi hf
    obtain ⟨f, rfl⟩ : ∃ g, f = g + 1 := ⟨f - 1, by omega⟩
    have : zn i < zn m := by rw [zn_lt (by omega) (by omega)]; omega
    have h100 : 0 < (100 : Int64).toInt := by decide
    simp only [lp_X8_turning_96, bd_X8_turning_96, this, if_true, trn, floorOf_eq h100, zcl_some, zn_succ]
    exact ih (i + 1) f _ s (by omega) (by omega)
theorem trn_model {k : Int64 → zSt → Option (Int64 × zSt)} {p1 p2 p3 : Int32} {ab dm : Int64} {m : Nat} (hm : m < 2147483648) {s : zSt} (hd : (zI s 67 5).toInt64 = dm) : ∀ (d i f : Nat) (x : Int64), i + d = m → d < f → lp_X9_turning_82 64 p1 p2 p3 (zn m) k f ab x (zn i) s = k (trn ab dm d x) s := by
  intro d
  induction d with
  | zero =>
    intro i f x hi hf
    obtain ⟨f, rfl⟩ : ∃ g, f = g + 1 := ⟨f - 1, by omega⟩
    have : ¬ zn i < zn m := by rw [zn_lt (by omega) (by omega)]; omega
    simp only [lp_X9_turning_82, bd_X9_turning_82, this, if_false, trn]
  | succ d ih =>
    intro i f x hi hf
    obtain ⟨f, rfl⟩ : ∃ g, f = g + 1 := ⟨f - 1, by omega⟩
    have : zn i < zn m := by rw [zn_lt (by omega) (by omega)]; omega
    have h100 : 0 < (100 : Int64).toInt := by decide
    simp only [lp_X9_turning_82, bd_X9_turning_82, this, if_true, trn, zT_64_12, zN_67, tc_0, ln_0, tc_1, ln_1, tc_2, ln_2, tc_3, ln_3, tc_4, ln_4, tc_5, ln_5, tc_6, ln_6, tc_7, ln_7, tc_8, ln_8, tc_9, ln_9, tc_10, ln_10, tc_11, ln_11, tc_12, ln_12, tc_13, ln_13, false_or, show ¬ 11 ≤ 5 by decide, if_false, hd, down_eq h100, zcl_some, zn_succ]
    exact ih (i + 1) f _ (by omega) (by omega)
theorem call_turning {σ : zSt} {S : Nat} (hS : isS S) (h1 : zR σ 0 2 = S) (h : rSet S σ σ) (p1 p2 p3 p4 : Int32) : zCa (fun _ => True) gScr (m_X8_turning 0 p1 p2 p3 p4) (m_X9_turning 64 p1 p2 p3 p4) σ := by
  by_cases g1 : -1 ≤ p1 ∧ p1 ≤ 1
  rotate_left
  · refine zCa.mk (r := -1000000000000) (σ1 := σ) (σ2 := σ) ?_ ?_ trivial zOf.rf
    · simp [m_X8_turning, within_eq, zcl_some, zcv_some, zlt_eq, g1]
    · simp [m_X9_turning, isSide_eq, zcl_some, zcv_some, zlt_eq, g1]
  by_cases g2 : 0 ≤ p2 ∧ p2 ≤ 999
  rotate_left
  · refine zCa.mk (r := -1000000000000) (σ1 := σ) (σ2 := σ) ?_ ?_ trivial zOf.rf
    · simp [m_X8_turning, within_eq, zcl_some, zcv_some, zlt_eq, g1, g2]
    · simp only [m_X9_turning, isSide_eq, zcl_some, zcv_some, zlt_eq, g1, and_self, if_true]
      by_cases q : p2 < 0
      · simp [q]
      · have q2 : 999 < p2 := by grind
        simp [q, q2]
  have q1 : ¬ p2 < 0 := by grind
  have q2 : ¬ 999 < p2 := by grind
  by_cases g3 : -9999 ≤ p3 ∧ p3 ≤ 9999
  rotate_left
  · refine zCa.mk (r := -1000000000000) (σ1 := σ) (σ2 := σ) ?_ ?_ trivial zOf.rf
    · simp [m_X8_turning, within_eq, zcl_some, zcv_some, zlt_eq, g1, g2, g3]
    · simp only [m_X9_turning, isSide_eq, zcl_some, zcv_some, zlt_eq, g1, and_self, if_true, q1, q2, if_false]
      by_cases q : p3 < -9999
      · simp [q]
      · have q2 : 9999 < p3 := by grind
        simp [q, q2]
  have q3 : ¬ p3 < -9999 := by grind
  have q4 : ¬ 9999 < p3 := by grind
  by_cases g4 : 0 ≤ p4 ∧ p4 ≤ 19
  rotate_left
  · refine zCa.mk (r := -1000000000000) (σ1 := σ) (σ2 := σ) ?_ ?_ trivial zOf.rf
    · simp [m_X8_turning, within_eq, zcl_some, zcv_some, zlt_eq, g1, g2, g3, g4]
    · simp only [m_X9_turning, isSide_eq, zcl_some, zcv_some, zlt_eq, g1, and_self, if_true, q1, q2, q3, q4, if_false]
      by_cases q : p4 < 0
      · simp [q]
      · have q2 : 19 < p4 := by grind
        simp [q, q2]
  have q5 : ¬ p4 < 0 := by grind
  have q6 : ¬ 19 < p4 := by grind
  have i1 : -1 ≤ p1.toInt ∧ p1.toInt ≤ 1 := ⟨Int32.le_iff_toInt_le.1 g1.1, Int32.le_iff_toInt_le.1 g1.2⟩
  have i2 : 0 ≤ p2.toInt ∧ p2.toInt ≤ 999 := ⟨Int32.le_iff_toInt_le.1 g2.1, Int32.le_iff_toInt_le.1 g2.2⟩
  obtain ⟨m, hm, rfl⟩ := zn_of q5
  have hm2 : m ≤ 19 := (zn_le (b := 19) hm (by omega)).1 g4.2
  obtain ⟨t', e1, e2, e3, e4⟩ := seekRest_eq h.2 i1 i2
  have hU := fU_in h.2 i1 i2
  have hL := fLo_in h.2
  generalize hu : fU (zset σ) p1.toInt p2.toInt = u at *
  generalize hl : fLo (zset σ) = l at *
  obtain ⟨g, r1, r2, r3, r4⟩ := r_spec (u := u) hL.2.1.1
  have ztI : ∀ k, zI t' 67 k = zI σ 67 k := fun k => (e4 67 k (by simp [gScr])).1
  have l6 : 0 < (zset σ 6) ∧ zset σ 6 ≤ 99 := by
    obtain ⟨-, -, -, -, -, -, h6, -⟩ := h.2
    omega
  have hab : (u * 1000) / l = (rU u l * 1000) / rL u l := by
    conv => lhs; rw [r2]; arg 2; rw [r3]
    rw [Int.mul_assoc, Int.mul_ediv_mul_of_pos _ _ r1]
  have bl : rL u l ≤ 3920400000 := by
    have : 1 * rL u l ≤ g * rL u l := Int.mul_le_mul_of_nonneg_right (by omega) (by omega)
    omega
  have bu : zin (rU u l * 1000) := by
    have h1 : (rU u l).natAbs ≤ (g * rU u l).natAbs := by
      rw [Int.natAbs_mul]
      exact Nat.le_mul_of_pos_left _ (by omega)
    unfold zin
    omega
  have e5 : m_X5_setting S 261 σ = some (zq (zset σ 5), σ) := by
    have := setting_eq hS (k := 5) (by decide) σ
    rw [h.1 5 (by decide)] at this
    exact this
  have e6 : m_X5_setting S 262 σ = some (zq (zset σ 6), σ) := by
    have := setting_eq hS (k := 6) (by decide) σ
    rw [h.1 6 (by decide)] at this
    exact this
  have zl : (zq l).toInt = l := zq_int hL.2.1.2
  have zr : (zq (rL u l)).toInt = rL u l := zq_int (by unfold zin; omega)
  have z6 : (zq (zset σ 6 * 1000)).toInt = zset σ 6 * 1000 := zq_int (by unfold zin; omega)
  have f1 : ∀ s, m_X8_floorOf (zq u * 1000) (zq l) s = some (zq ((u * 1000) / l), s) := fun s => by
    rw [floorOf_eq (by omega), show (1000 : Int64) = zq 1000 from rfl, zq_mul, zl, zq_int (by unfold zin; omega)]
  have f2 : ∀ s, m_X9_down (zq (rU u l) * 1000) (zq (rL u l)) s = some (zq ((u * 1000) / l), s) := fun s => by
    rw [down_eq (by omega), show (1000 : Int64) = zq 1000 from rfl, zq_mul, zr, zq_int bu, hab]
  refine zCa.mk (r := zq ((trn (zq ((u * 1000) / l)) (zq (zset σ 5)) m (p3.toInt64 * 1000)).toInt / (zset σ 6 * 1000)) * zq (zset σ 6)) (σ1 := σ) (σ2 := t') ?_ ?_ trivial e4
  · simp only [m_X8_turning, within_eq, zcl_some, zcv_some, zlt_eq, g1, g2, g3, g4, h1, hS.c.1, restUpper_eq hS h, lower_eq hS h, hu, hl, f1, e5, and_self, if_true, show ¬ (1 : Int32) = 0 by decide, if_false]
    rw [show (0 : Int32) = zn 0 from rfl, trn_class hm m 0 zFuel _ _ (by omega) (by unfold zFuel; omega)]
    simp only [h1, hS.c.1, if_true, e6, zcl_some, zcv_some, zlt_eq]
    have z6c : zq (zset σ 6) * (1000 : Int64) = zq (zset σ 6 * 1000) := zq_mul (zset σ 6) 1000
    rw [z6c, floorOf_eq (by rw [z6]; omega), zcl_some, z6]
  · simp only [m_X9_turning, isSide_eq, zcl_some, zcv_some, zlt_eq, g1, q1, q2, q3, q4, q5, q6, e1, e2, e3, f2, and_self, if_true, show ¬ (1 : Int32) = 0 by decide, if_false]
    rw [show (0 : Int32) = zn 0 from rfl, trn_model (dm := zq (zset σ 5)) hm (by rw [ztI, zq_i32]; rfl) m 0 zFuel _ (by omega) (by unfold zFuel; omega)]
    have z6' : (1000 : Int64) * (zI σ 67 6).toInt64 = zq (zset σ 6 * 1000) := by
      rw [zq_i32, show (1000 : Int64) = zq 1000 from rfl, zq_mul, Int.mul_comm]; rfl
    simp only [zT_64_12, zN_67, tc_0, ln_0, tc_1, ln_1, tc_2, ln_2, tc_3, ln_3, tc_4, ln_4, tc_5, ln_5, tc_6, ln_6, tc_7, ln_7, tc_8, ln_8, tc_9, ln_9, tc_10, ln_10, tc_11, ln_11, tc_12, ln_12, tc_13, ln_13, false_or, show ¬ 11 ≤ 6 by decide, if_false, ztI, z6']
    rw [down_eq (by rw [z6]; omega), zcl_some, z6, ztI, zq_i32]
    rfl
theorem call_had {σ : zSt} (p1 p2 p3 p4 p5 : Int32) : zCa (fun _ => True) gScr (m_X8_had 0 p1 p2 p3 p4 p5) (m_X9_had 64 p1 p2 p3 p4 p5) σ := by
  by_cases g : (-9999 ≤ p1 ∧ p1 ≤ 9999) ∧ (-9999 ≤ p2 ∧ p2 ≤ 9999) ∧ (-9999 ≤ p3 ∧ p3 ≤ 9999) ∧ (0 ≤ p4 ∧ p4 ≤ 1) ∧ (0 ≤ p5 ∧ p5 ≤ 1)
  rotate_left
  · refine zCa.mk (r := -1000000000000) (σ1 := σ) (σ2 := σ) ?_ ?_ trivial zOf.rf
    · simp only [m_X8_had, within_eq, zcl_some, zcv_some, zlt_eq]
      by_cases g1 : -9999 ≤ p1 ∧ p1 ≤ 9999
      · by_cases g2 : -9999 ≤ p2 ∧ p2 ≤ 9999
        · by_cases g3 : -9999 ≤ p3 ∧ p3 ≤ 9999
          · by_cases g4 : 0 ≤ p4 ∧ p4 ≤ 1
            · have g5 : ¬ (0 ≤ p5 ∧ p5 ≤ 1) := fun hc => g ⟨g1, g2, g3, g4, hc⟩
              simp [g1, g2, g3, g4, g5, zcl_some, zcv_some, zlt_eq]
            · simp [g1, g2, g3, g4, zcl_some, zcv_some, zlt_eq]
          · simp [g1, g2, g3, zcl_some, zcv_some, zlt_eq]
        · simp [g1, g2, zcl_some, zcv_some, zlt_eq]
      · simp [g1, zcl_some, zcv_some, zlt_eq]
    · simp only [m_X9_had, isPart_eq, zcl_some, zcv_some, zlt_eq]
      by_cases a1 : p1 < -9999
      · simp [a1]
      by_cases a2 : 9999 < p1
      · simp [a1, a2]
      by_cases a3 : p2 < -9999
      · simp [a1, a2, a3]
      by_cases a4 : 9999 < p2
      · simp [a1, a2, a3, a4]
      by_cases a5 : p3 < -9999
      · simp [a1, a2, a3, a4, a5]
      by_cases a6 : 9999 < p3
      · simp [a1, a2, a3, a4, a5, a6]
      by_cases a7 : p4 < 0
      · simp [a1, a2, a3, a4, a5, a6, a7]
      by_cases a8 : 1 < p4
      · simp [a1, a2, a3, a4, a5, a6, a7, a8]
      have g5 : ¬ (0 ≤ p5 ∧ p5 ≤ 1) := fun hc => g ⟨⟨by grind, by grind⟩, ⟨by grind, by grind⟩, ⟨by grind, by grind⟩, ⟨by grind, by grind⟩, hc⟩
      simp [a1, a2, a3, a4, a5, a6, a7, a8, g5]
  obtain ⟨g1, g2, g3, g4, g5⟩ := g
  have a1 : ¬ p1 < -9999 := by grind
  have a2 : ¬ 9999 < p1 := by grind
  have a3 : ¬ p2 < -9999 := by grind
  have a4 : ¬ 9999 < p2 := by grind
  have a5 : ¬ p3 < -9999 := by grind
  have a6 : ¬ 9999 < p3 := by grind
  have a7 : ¬ p4 < 0 := by grind
  have a8 : ¬ 1 < p4 := by grind
  have i1 : -9999 ≤ p1.toInt ∧ p1.toInt ≤ 9999 := ⟨Int32.le_iff_toInt_le.1 g1.1, Int32.le_iff_toInt_le.1 g1.2⟩
  have i2 : -9999 ≤ p2.toInt ∧ p2.toInt ≤ 9999 := ⟨Int32.le_iff_toInt_le.1 g2.1, Int32.le_iff_toInt_le.1 g2.2⟩
  have i3 : -9999 ≤ p3.toInt ∧ p3.toInt ≤ 9999 := ⟨Int32.le_iff_toInt_le.1 g3.1, Int32.le_iff_toInt_le.1 g3.2⟩
  have b1 := bm (A := 9999) (B := 9999) i1 i3
  have b2 := bm (A := 9999) (B := 9999) i2 i2
  -- one fraction on both sides
  have fin : ∀ (u l : Int), zin u → zin l → l ≠ 0 → ∀ s : zSt, ∃ t' : zSt, m_X8_lowest (zq u) (zq l) p5 s = some (zq (if p5 = 1 then rL u l else rU u l), s) ∧ zcv (m_X9_found 64 (zq u) (zq l) s) (fun s3 => zcl (m_X9_part 64 p5 s3) (fun r5 s4 => some (r5, s4))) = some (zq (if p5 = 1 then rL u l else rU u l), t') ∧ zOf gScr s t' := by
    intro u l hu hl h0 s
    refine ⟨zud s (rU u l) (rL u l), lowest_eq hu hl h0 p5 s, ?_, zud_of _ _ _⟩
    rw [found_eq hu hl h0, zcv_some]
    by_cases hp : p5 = 0
    · subst hp; simp [m_X9_part, zcl_some, zcv_some, zlt_eq, zI_sI, zI_sL, zI_sR, zL_sI, zL_sL, zL_sR, zR_sI, zR_sL, zR_sR, zud]
    · have hp1 : p5 = 1 := by grind
      subst hp1; simp [m_X9_part, zcl_some, zcv_some, zlt_eq, zI_sI, zI_sL, zI_sR, zL_sI, zL_sL, zL_sR, zR_sI, zR_sL, zR_sR, zud]
  have one : ¬ (1 : Int32) = 0 := by decide
  by_cases w0 : p4 = 0
  · have w : (p4 = 0) = True := eq_true w0
    by_cases h0 : p1.toInt + p3.toInt - 2 * p2.toInt = 0
    · refine zCa.mk (r := -1000000000000) (σ1 := σ) (σ2 := σ) ?_ ?_ trivial zOf.rf
      · simp only [m_X8_had, within_eq, zcl_some, zcv_some, zlt_eq, g1, g2, g3, g4, g5, and_self, if_true, one, if_false, w, zq_i32, show (2 : Int64) = zq 2 from rfl, zq_add, zq_sub, zq_mul, h0]
        rw [show zq 0 = 0 from rfl, lowest_gap, zcl_some]
      · simp only [m_X9_had, isPart_eq, m_X9_had_90, zcl_some, zcv_some, zlt_eq, a1, a2, a3, a4, a5, a6, a7, a8, g5, and_self, if_true, one, if_false, w, zq_i32, show (2 : Int64) = zq 2 from rfl, zq_add, zq_sub, zq_mul, h0, show zq 0 = 0 from rfl]
    · obtain ⟨t', f1, f2, f3⟩ := fin (p1.toInt * p3.toInt - p2.toInt * p2.toInt) _ (by unfold zin; omega) (by unfold zin; omega) h0 σ
      refine zCa.mk (r := zq (if p5 = 1 then rL (p1.toInt * p3.toInt - p2.toInt * p2.toInt) (p1.toInt + p3.toInt - 2 * p2.toInt) else rU (p1.toInt * p3.toInt - p2.toInt * p2.toInt) (p1.toInt + p3.toInt - 2 * p2.toInt))) (σ1 := σ) (σ2 := t') ?_ ?_ trivial f3
      · simp only [m_X8_had, within_eq, zcl_some, zcv_some, zlt_eq, g1, g2, g3, g4, g5, and_self, if_true, one, if_false, w, zq_i32, show (2 : Int64) = zq 2 from rfl, zq_add, zq_sub, zq_mul, f1]
      · have n0 : ¬ zq (p1.toInt + p3.toInt - 2 * p2.toInt) = 0 := by rw [zq_eq0 (by unfold zin; omega)]; exact h0
        simp only [m_X9_had, isPart_eq, m_X9_had_90, m_X9_had_128, zcl_some, zcv_some, zlt_eq, a1, a2, a3, a4, a5, a6, a7, a8, g5, and_self, if_true, one, if_false, w, zq_i32, show (2 : Int64) = zq 2 from rfl, zq_add, zq_sub, zq_mul, n0, f2]
  · have w : (p4 = 0) = False := eq_false w0
    by_cases h0 : p2.toInt - p1.toInt = 0
    · refine zCa.mk (r := -1000000000000) (σ1 := σ) (σ2 := σ) ?_ ?_ trivial zOf.rf
      · simp only [m_X8_had, within_eq, zcl_some, zcv_some, zlt_eq, g1, g2, g3, g4, g5, and_self, if_true, one, if_false, w, zq_i32, show (2 : Int64) = zq 2 from rfl, zq_add, zq_sub, zq_mul, h0]
        rw [show zq 0 = 0 from rfl, lowest_gap, zcl_some]
      · simp only [m_X9_had, isPart_eq, m_X9_had_90, zcl_some, zcv_some, zlt_eq, a1, a2, a3, a4, a5, a6, a7, a8, g5, and_self, if_true, one, if_false, w, zq_i32, show (2 : Int64) = zq 2 from rfl, zq_add, zq_sub, zq_mul, h0, show zq 0 = 0 from rfl]
    · obtain ⟨t', f1, f2, f3⟩ := fin (p2.toInt - p3.toInt) _ (by unfold zin; omega) (by unfold zin; omega) h0 σ
      refine zCa.mk (r := zq (if p5 = 1 then rL (p2.toInt - p3.toInt) (p2.toInt - p1.toInt) else rU (p2.toInt - p3.toInt) (p2.toInt - p1.toInt))) (σ1 := σ) (σ2 := t') ?_ ?_ trivial f3
      · simp only [m_X8_had, within_eq, zcl_some, zcv_some, zlt_eq, g1, g2, g3, g4, g5, and_self, if_true, one, if_false, w, zq_i32, show (2 : Int64) = zq 2 from rfl, zq_add, zq_sub, zq_mul, f1]
      · have n0 : ¬ zq (p2.toInt - p1.toInt) = 0 := by rw [zq_eq0 (by unfold zin; omega)]; exact h0
        simp only [m_X9_had, isPart_eq, m_X9_had_90, m_X9_had_128, zcl_some, zcv_some, zlt_eq, a1, a2, a3, a4, a5, a6, a7, a8, g5, and_self, if_true, one, if_false, w, zq_i32, show (2 : Int64) = zq 2 from rfl, zq_add, zq_sub, zq_mul, n0, f2]
