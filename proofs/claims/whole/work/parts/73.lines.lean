def eL (kd : Nat → Nat) (vl : Nat → Int32) (fs : Nat → Nat) (l : Nat) (row : Nat → Int32) : Int32 := evF kd vl row (fs (l + 1) - fs l) (fs l) (fun _ => 0) 0
def okSum (n : Nat) (fs : Nat → Nat) (kd : Nat → Nat) (vl : Nat → Int32) : Prop := n ≤ 12 ∧ ∀ l, l < n → fs l ≤ fs (l + 1) ∧ fs (l + 1) ≤ 120 ∧ wfF kd vl l (fs (l + 1) - fs l) (fs l) 0
def cdC (U n : Nat) (fs : Nat → Nat) (kd : Nat → Nat) (vl : Nat → Int32) (s : zSt) : Prop := ∀ l, l < n → zI s (U + 5) l = zn (fs l) ∧ zI s (U + 5) (l + 1) = zn (fs (l + 1)) ∧ ∀ k, fs l ≤ k → k < fs (l + 1) → zI s (U + 6) k = ckd (kd k) ∧ zI s (U + 7) k = vl k
def cdM (n : Nat) (fs : Nat → Nat) (kd : Nat → Nat) (vl : Nat → Int32) (t : zSt) : Prop := ∀ l, l < n → zI t 100 l = zn (fs l) ∧ zI t 100 (l + 1) = zn (fs (l + 1)) ∧ ∀ k, fs l ≤ k → k < fs (l + 1) → zI t 98 k = mkd (kd k) ∧ zI t 99 k = vl k
theorem cdC.of {U n : Nat} {fs : Nat → Nat} {kd : Nat → Nat} {vl : Nat → Int32} {s s' : zSt} (h : cdC U n fs kd vl s) (e : ∀ o k, (o = U + 5 ∨ o = U + 6 ∨ o = U + 7) → zI s' o k = zI s o k) : cdC U n fs kd vl s' := fun l hl => by
  obtain ⟨a, b, c⟩ := h l hl
  refine ⟨(e _ _ (Or.inl rfl)).trans a, (e _ _ (Or.inl rfl)).trans b, fun k h1 h2 => ?_⟩
  rw [e _ _ (Or.inr (Or.inl rfl)), e _ _ (Or.inr (Or.inr rfl))]
  exact c k h1 h2
theorem cdM.of {n : Nat} {fs : Nat → Nat} {kd : Nat → Nat} {vl : Nat → Int32} {s s' : zSt} (h : cdM n fs kd vl s) (e : ∀ o k, (o = 98 ∨ o = 99 ∨ o = 100) → zI s' o k = zI s o k) : cdM n fs kd vl s' := fun l hl => by
  obtain ⟨a, b, c⟩ := h l hl
  refine ⟨(e _ _ (by omega)).trans a, (e _ _ (by omega)).trans b, fun k h1 h2 => ?_⟩
  rw [e 98 k (by omega), e 99 k (by omega)]
  exact c k h1 h2
theorem valueOf_eq {U : Nat} (hU : isU U) {n : Nat} {fs : Nat → Nat} {kd : Nat → Nat} {vl row : Nat → Int32} (ok : okSum n fs kd vl) {s : zSt} (hc : cdC U n fs kd vl s) {o2 l : Nat} (ho2 : o2 = U + 4 ∨ o2 = U + 9) (hl : l < n) (hr : ∀ k, k < l → zI s o2 k = row k) : ∃ s', m_X6_valueOf U (zn l) o2 s = some (eL kd vl fs l row, s') ∧ zOf (fun o _ => o = U + 8) s s' := by
  obtain ⟨-, ⟨-, -, -, -, t6, -, -, -, -⟩, ⟨-, -, -, -, n5, -, -, -, -⟩⟩ := hU.c
  obtain ⟨k0, k1⟩ := ok
  obtain ⟨q1, q2, q3⟩ := k1 l hl
  obtain ⟨a, b, c⟩ := hc l hl
  obtain ⟨s', g1, g2⟩ := val_lp hU ho2 (show l < 12 by omega) (kd := kd) (vl := vl) (row := row) q2 (fs (l + 1) - fs l) (fs l) zFuel s (fun _ => 0) 0 (by omega) (by unfold zFuel; omega) (by omega) b (fun k h1 h2 => c k h1 h2) hr (fun k h => by omega) q3
  refine ⟨s', ?_, g2⟩
  have l2 : ¬ zn l < 0 := zn_neg (by omega)
  have l3 : (zn l).toNatClampNeg = l := zn_cl (by omega)
  have l4 : ¬ 13 ≤ l := by omega
  simp only [m_X6_valueOf, t6, n5, l2, l3, l4, or_self, if_false, a]
  exact g1
theorem eOf_eq {n : Nat} {fs : Nat → Nat} {kd : Nat → Nat} {vl row : Nat → Int32} (ok : okSum n fs kd vl) {s : zSt} (hc : cdM n fs kd vl s) {o2 l : Nat} (ho2 : o2 = 101 ∨ o2 = 104) (hl : l < n) (hr : ∀ k, k < l → zI s o2 k = row k) : ∃ s', m_X9_eOf 64 (zn l) o2 s = some (eL kd vl fs l row, s') ∧ zOf (fun o _ => o = 103) s s' := by
  obtain ⟨k0, k1⟩ := ok
  obtain ⟨q1, q2, q3⟩ := k1 l hl
  obtain ⟨a, b, c⟩ := hc l hl
  obtain ⟨s', g1, g2⟩ := eof_lp ho2 (show l < 12 by omega) (kd := kd) (vl := vl) (row := row) q2 (fs (l + 1) - fs l) (fs l) zFuel s (fun _ => 0) 0 (by omega) (by unfold zFuel; omega) (by omega) b (fun k h1 h2 => c k h1 h2) hr (fun k h => by omega) q3
  refine ⟨s', ?_, g2⟩
  have l2 : ¬ zn l < 0 := zn_neg (by omega)
  have l3 : (zn l).toNatClampNeg = l := zn_cl (by omega)
  have l4 : ¬ 13 ≤ l := by omega
  simp only [m_X9_eOf, zT_64_57, zN_100, l2, l3, l4, or_self, if_false, a]
  exact g1
def rwF (kd : Nat → Nat) (vl : Nat → Int32) (fs : Nat → Nat) (g : Nat → Int32) : Nat → Nat → Int32
  | 0 => fun _ => 0
  | i + 1 => fun k => if k = i then eL kd vl fs i (rwF kd vl fs g i) + g i else rwF kd vl fs g i k
theorem rwF_congr {kd : Nat → Nat} {vl : Nat → Int32} {fs : Nat → Nat} {g g' : Nat → Int32} : ∀ m, (∀ i, i < m → g i = g' i) → rwF kd vl fs g m = rwF kd vl fs g' m := by
  intro m
  induction m with
  | zero => intro _; rfl
  | succ m ih =>
    intro h
    unfold rwF
    rw [ih (fun i hi => h i (by omega)), h m (by omega)]
theorem rwF_pr {n : Nat} {kd : Nat → Nat} {vl : Nat → Int32} {fs : Nat → Nat} {g pr : Nat → Int32} (ok : okSum n fs kd vl) (hg : ∀ i, i < n → g i = pr i - eL kd vl fs i pr) : ∀ m, m ≤ n → ∀ k, k < m → rwF kd vl fs g m k = pr k := by
  intro m
  induction m with
  | zero => intro _ k hk; omega
  | succ m ih =>
    intro hm k hk
    unfold rwF
    by_cases hkm : k = m
    · rw [if_pos hkm, hg m (by omega)]
      have : eL kd vl fs m (rwF kd vl fs g m) = eL kd vl fs m pr := evF_congr (l := m) (by have := ok.1; omega) (fun k hk => ih (by omega) k hk) _ _ _ _ (ok.2 m (by omega)).2.2
      rw [this, hkm]
      generalize eL kd vl fs m pr = a
      generalize pr m = b
      grind
    · rw [if_neg hkm]
      exact ih (by omega) k (by omega)
def smC (U n : Nat) (fs : Nat → Nat) (kd : Nat → Nat) (vl sl : Nat → Int32) (s : zSt) : Prop := zI s U 0 = zn n ∧ cdC U n fs kd vl s ∧ ∀ l, l < n → zI s (U + 2) l = sl l
theorem smC.of {U n : Nat} {fs : Nat → Nat} {kd : Nat → Nat} {vl sl : Nat → Int32} {s s' : zSt} (h : smC U n fs kd vl sl s) (e : zOf (fun o _ => o = U + 8 ∨ o = U + 9) s s') : smC U n fs kd vl sl s' :=
  ⟨(e U 0 (by omega)).1.trans h.1, h.2.1.of (fun o k ho => (e o k (by omega)).1), fun l hl => (e (U + 2) l (by omega)).1.trans (h.2.2 l hl)⟩
theorem lw_lp {U : Nat} (hU : isU U) {n : Nat} {fs : Nat → Nat} {kd : Nat → Nat} {vl sl : Nat → Int32} (ok : okSum n fs kd vl) {b : Nat} (hb : b < 2147483648) : ∀ (d i f : Nat) (s : zSt) (last : Int32), i + d = n → d < f → smC U n fs kd vl sl s → (∀ k, k < i → zI s (U + 9) k = rwF kd vl fs (fun i => if b.testBit i then sl i else 0) i k) → (last = if i = 0 then 0 else rwF kd vl fs (fun i => if b.testBit i then sl i else 0) i (i - 1)) → ∃ s', lp_X6_lastWith_4 U (zn b) f last (zn i) s = some (if n = 0 then 0 else rwF kd vl fs (fun i => if b.testBit i then sl i else 0) n (n - 1), s') ∧ zOf (fun o _ => o = U + 8 ∨ o = U + 9) s s' := by
  obtain ⟨-, ⟨-, t3, -, -, -, -, -, -, t10⟩, ⟨-, n2, -, -, -, -, -, -, n9⟩⟩ := hU.c
  have hn := ok.1
  intro d
  induction d with
  | zero =>
    intro i f s last hi hf hc hr hlast
    obtain ⟨f, rfl⟩ : ∃ g, f = g + 1 := ⟨f - 1, by omega⟩
    have h1 : ¬ zn i < zn n := by rw [zn_lt (by omega) (by omega)]; omega
    have hin : i = n := by omega
    subst hin
    refine ⟨s, ?_, zOf.rf⟩
    simp only [lp_X6_lastWith_4, bd_X6_lastWith_4, hc.1, h1, if_false, hlast]
  | succ d ih =>
    intro i f s last hi hf hc hr hlast
    obtain ⟨f, rfl⟩ : ∃ g, f = g + 1 := ⟨f - 1, by omega⟩
    have h1 : zn i < zn n := by rw [zn_lt (by omega) (by omega)]; omega
    have h2 : ¬ zn i < 0 := zn_neg (by omega)
    have h3 : (zn i).toNatClampNeg = i := zn_cl (by omega)
    have h4 : ¬ 12 ≤ i := by omega
    obtain ⟨s1, g1, g2⟩ := valueOf_eq hU ok hc.2.1 (o2 := U + 9) (Or.inr rfl) (show i < n by omega) hr
    have g2' : zOf (fun o _ => o = U + 8 ∨ o = U + 9) s s1 := g2.mono (fun o k h => Or.inl h)
    have hc1 := hc.of g2'
    simp only [lp_X6_lastWith_4, bd_X6_lastWith_4, m_X6_lastWith_40, hc.1, h1, if_true, t3, t10, n2, n9, g1, zcl_some, zn_shr hb (show i < 32 by omega), zn_b1, h2, h3, h4, or_self, if_false, zlt_eq, hc1.2.2 i (by omega)]
    have go : ∀ v, v = (if b.testBit i = true then sl i else 0) → ∃ s', lp_X6_lastWith_4 U (zn b) f (eL kd vl fs i (rwF kd vl fs (fun i => if b.testBit i then sl i else 0) i) + v) (zn i + 1) (zsI s1 (U + 9) i (eL kd vl fs i (rwF kd vl fs (fun i => if b.testBit i then sl i else 0) i) + v)) = some (if n = 0 then 0 else rwF kd vl fs (fun i => if b.testBit i then sl i else 0) n (n - 1), s') ∧ zOf (fun o _ => o = U + 8 ∨ o = U + 9) s s' := by
      intro v hv
      have e0 : zOf (fun o _ => o = U + 8 ∨ o = U + 9) s (zsI s1 (U + 9) i (eL kd vl fs i (rwF kd vl fs (fun i => if b.testBit i then sl i else 0) i) + v)) := g2'.sI (Or.inr rfl)
      rw [zn_succ]
      obtain ⟨s', k1, k2⟩ := ih (i + 1) f _ (eL kd vl fs i (rwF kd vl fs (fun i => if b.testBit i then sl i else 0) i) + v) (by omega) (by omega) (hc.of e0) (fun k hk => by
        rw [zI_sI]
        show _ = (if k = i then _ else _)
        by_cases hki : k = i
        · rw [if_pos ⟨rfl, hki⟩, if_pos hki, hv]
        · rw [if_neg (fun h => hki h.2), if_neg hki, (g2 (U + 9) k (by omega)).1]
          exact hr k (by omega)) (by
        rw [if_neg (by omega)]
        show _ = (if i + 1 - 1 = i then _ else _)
        rw [if_pos (by omega), hv])
      exact ⟨s', k1, e0.tr k2⟩
    by_cases hbi : b.testBit i = true
    · rw [if_pos hbi]
      exact go (sl i) (by rw [if_pos hbi])
    · rw [if_neg hbi]
      exact go 0 (by rw [if_neg hbi])
theorem lastWith_eq {U : Nat} (hU : isU U) {n : Nat} {fs : Nat → Nat} {kd : Nat → Nat} {vl sl : Nat → Int32} (ok : okSum n fs kd vl) (hn : 1 ≤ n) {b : Nat} (hb : b < 2147483648) {s : zSt} (hc : smC U n fs kd vl sl s) : ∃ s', m_X6_lastWith U (zn b) s = some (rwF kd vl fs (fun i => if b.testBit i then sl i else 0) n (n - 1), s') ∧ zOf (fun o _ => o = U + 8 ∨ o = U + 9) s s' := by
  obtain ⟨s', g1, g2⟩ := lw_lp hU ok (sl := sl) hb n 0 zFuel s 0 (by omega) (by have := ok.1; unfold zFuel; omega) hc (fun k hk => by omega) rfl
  rw [if_neg (by omega)] at g1
  exact ⟨s', g1, g2⟩
def smM (n : Nat) (fs : Nat → Nat) (kd : Nat → Nat) (vl pr : Nat → Int32) (t : zSt) : Prop := zI t 64 66 = zn n ∧ cdM n fs kd vl t ∧ ∀ l, l < n → zI t 101 l = pr l
theorem smM.of {n : Nat} {fs : Nat → Nat} {kd : Nat → Nat} {vl pr : Nat → Int32} {s s' : zSt} (h : smM n fs kd vl pr s) (e : zOf (fun o _ => o = 103 ∨ o = 104) s s') : smM n fs kd vl pr s' :=
  ⟨(e 64 66 (by omega)).1.trans h.1, h.2.1.of (fun o k ho => (e o k (by omega)).1), fun l hl => (e 101 l (by omega)).1.trans (h.2.2 l hl)⟩
theorem slipOf_eq {n : Nat} {fs : Nat → Nat} {kd : Nat → Nat} {vl pr : Nat → Int32} (ok : okSum n fs kd vl) {t : zSt} (hM : smM n fs kd vl pr t) {l : Nat} (hl : l < n) : ∃ t', m_X9_slipOf 64 (zn l) t = some (pr l - eL kd vl fs l pr, t') ∧ zOf (fun o _ => o = 103) t t' := by
  obtain ⟨t', g1, g2⟩ := eOf_eq ok hM.2.1 (o2 := 101) (Or.inl rfl) hl (fun k hk => hM.2.2 k (by omega))
  have hn := ok.1
  have h2 : ¬ zn l < 0 := zn_neg (by omega)
  have h3 : (zn l).toNatClampNeg = l := zn_cl (by omega)
  have h4 : ¬ 12 ≤ l := by omega
  refine ⟨t', ?_, g2⟩
  simp only [m_X9_slipOf, zT_64_58, zN_101, h2, h3, h4, or_self, if_false, g1, zcl_some, hM.2.2 l hl]
theorem wo_lp {n : Nat} {fs : Nat → Nat} {kd : Nat → Nat} {vl pr : Nat → Int32} (ok : okSum n fs kd vl) (hn1 : 1 ≤ n) {j : Nat} (hj : j < n) : ∀ (d i f : Nat) (t : zSt), i + d = n → d < f → smM n fs kd vl pr t → (∀ k, k < i → zI t 104 k = rwF kd vl fs (fun i => if i = j then 0 else pr i - eL kd vl fs i pr) i k) → ∃ t', lp_X9_without_2 64 (zn j) f (zn i) t = some (rwF kd vl fs (fun i => if i = j then 0 else pr i - eL kd vl fs i pr) n (n - 1), t') ∧ zOf (fun o _ => o = 103 ∨ o = 104) t t' := by
  have hn := ok.1
  intro d
  induction d with
  | zero =>
    intro i f t hi hf hc hr
    obtain ⟨f, rfl⟩ : ∃ g, f = g + 1 := ⟨f - 1, by omega⟩
    have h1 : ¬ zn i < zn n := by rw [zn_lt (by omega) (by omega)]; omega
    obtain ⟨m, rfl⟩ : ∃ m, n = m + 1 := ⟨n - 1, by omega⟩
    have hin : i = m + 1 := by omega
    subst hin
    have h2 : ¬ zn m < 0 := zn_neg (by omega)
    have h3 : (zn m).toNatClampNeg = m := zn_cl (by omega)
    have h4 : ¬ 12 ≤ m := by omega
    refine ⟨t, ?_, zOf.rf⟩
    simp only [lp_X9_without_2, bd_X9_without_2, hc.1, h1, if_false, zn_pred, zT_64_61, zN_104, h2, h3, h4, or_self, hr m (by omega), Nat.add_sub_cancel]
  | succ d ih =>
    intro i f t hi hf hc hr
    obtain ⟨f, rfl⟩ : ∃ g, f = g + 1 := ⟨f - 1, by omega⟩
    have h1 : zn i < zn n := by rw [zn_lt (by omega) (by omega)]; omega
    have h2 : ¬ zn i < 0 := zn_neg (by omega)
    have h3 : (zn i).toNatClampNeg = i := zn_cl (by omega)
    have h4 : ¬ 12 ≤ i := by omega
    have hij : zn i = zn j ↔ i = j := zn_inj (by omega) (by omega)
    obtain ⟨t1, g1, g2⟩ := eOf_eq ok hc.2.1 (o2 := 104) (Or.inr rfl) (show i < n by omega) hr
    have g2' : zOf (fun o _ => o = 103 ∨ o = 104) t t1 := g2.mono (fun o k h => Or.inl h)
    have hc1 := hc.of g2'
    obtain ⟨t2, g3, g4⟩ := slipOf_eq ok hc1 (show i < n by omega)
    have g4' : zOf (fun o _ => o = 103 ∨ o = 104) t t2 := g2'.tr (g4.mono (fun o k h => Or.inl h))
    have go : ∀ (t3 : zSt) (v : Int32), (∀ k, zI t3 104 k = zI t 104 k) → zOf (fun o _ => o = 103 ∨ o = 104) t t3 → v = (if i = j then 0 else pr i - eL kd vl fs i pr) → ∃ s', lp_X9_without_2 64 (zn j) f (zn i + 1) (zsI t3 104 i (eL kd vl fs i (rwF kd vl fs (fun i => if i = j then 0 else pr i - eL kd vl fs i pr) i) + v)) = some (rwF kd vl fs (fun i => if i = j then 0 else pr i - eL kd vl fs i pr) n (n - 1), s') ∧ zOf (fun o _ => o = 103 ∨ o = 104) t s' := by
      intro t3 v h104 hof hv
      have e0 : zOf (fun o _ => o = 103 ∨ o = 104) t (zsI t3 104 i (eL kd vl fs i (rwF kd vl fs (fun i => if i = j then 0 else pr i - eL kd vl fs i pr) i) + v)) := hof.sI (Or.inr rfl)
      rw [zn_succ]
      obtain ⟨s', k1, k2⟩ := ih (i + 1) f _ (by omega) (by omega) (hc.of e0) (fun k hk => by
        rw [zI_sI]
        show _ = (if k = i then _ else _)
        by_cases hki : k = i
        · rw [if_pos ⟨rfl, hki⟩, if_pos hki, hv]
        · rw [if_neg (fun h => hki h.2), if_neg hki, h104]
          exact hr k (by omega))
      exact ⟨s', k1, e0.tr k2⟩
    simp only [lp_X9_without_2, bd_X9_without_2, m_X9_without_38, hc.1, h1, if_true, zT_64_61, zN_104, g1, zcl_some, hij, h2, h3, h4, or_self, if_false, zlt_eq, g3]
    by_cases hc' : i = j
    · rw [if_pos hc']
      exact go t1 0 (fun k => (g2 104 k (by omega)).1) g2' (by rw [if_pos hc'])
    · rw [if_neg hc']
      exact go t2 _ (fun k => (g4 104 k (by omega)).1.trans (g2 104 k (by omega)).1) g4' (by rw [if_neg hc'])
theorem ri_lp {n : Nat} {fs : Nat → Nat} {kd : Nat → Nat} {vl pr : Nat → Int32} (ok : okSum n fs kd vl) {kk : zSt → Option (Int64 × zSt)} : ∀ (d i f : Nat) (t : zSt), i + d = n → d < f → smM n fs kd vl pr t → (∀ k, k < i → zI t 104 k = rwF kd vl fs (fun _ => 0) i k) → ∃ t', lp_X9_right_13 64 kk f (zn i) t = kk t' ∧ zOf (fun o _ => o = 103 ∨ o = 104) t t' ∧ ∀ k, k < n → zI t' 104 k = rwF kd vl fs (fun _ => 0) n k := by
  have hn := ok.1
  intro d
  induction d with
  | zero =>
    intro i f t hi hf hc hr
    obtain ⟨f, rfl⟩ : ∃ g, f = g + 1 := ⟨f - 1, by omega⟩
    have h1 : ¬ zn i < zn n := by rw [zn_lt (by omega) (by omega)]; omega
    have hin : i = n := by omega
    subst hin
    refine ⟨t, ?_, zOf.rf, hr⟩
    simp only [lp_X9_right_13, bd_X9_right_13, hc.1, h1, if_false]
  | succ d ih =>
    intro i f t hi hf hc hr
    obtain ⟨f, rfl⟩ : ∃ g, f = g + 1 := ⟨f - 1, by omega⟩
    have h1 : zn i < zn n := by rw [zn_lt (by omega) (by omega)]; omega
    have h2 : ¬ zn i < 0 := zn_neg (by omega)
    have h3 : (zn i).toNatClampNeg = i := zn_cl (by omega)
    have h4 : ¬ 12 ≤ i := by omega
    obtain ⟨t1, g1, g2⟩ := eOf_eq ok hc.2.1 (o2 := 104) (Or.inr rfl) (show i < n by omega) hr
    have g2' : zOf (fun o _ => o = 103 ∨ o = 104) t t1 := g2.mono (fun o k h => Or.inl h)
    have e0 : zOf (fun o _ => o = 103 ∨ o = 104) t (zsI t1 104 i (eL kd vl fs i (rwF kd vl fs (fun _ => 0) i))) := g2'.sI (Or.inr rfl)
    obtain ⟨s', k1, k2, k3⟩ := ih (i + 1) f _ (by omega) (by omega) (hc.of e0) (fun k hk => by
        rw [zI_sI]
        show _ = (if k = i then _ else _)
        by_cases hki : k = i
        · rw [if_pos ⟨rfl, hki⟩, if_pos hki, Int32.add_zero]
        · rw [if_neg (fun h => hki h.2), if_neg hki, (g2 104 k (by omega)).1]
          exact hr k (by omega))
    refine ⟨s', ?_, e0.tr k2, k3⟩
    simp only [lp_X9_right_13, bd_X9_right_13, hc.1, h1, if_true, zT_64_61, zN_104, g1, zcl_some, h2, h3, h4, or_self, if_false, zlt_eq, zn_succ]
    exact k1
