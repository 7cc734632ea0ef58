/-! the sum: all lines -/
theorem wa_lp {U : Nat} (hU : isU U) {n : Nat} {fs : Nat → Nat} {kd : Nat → Nat} {vl pr : Nat → Int32} (ok : okSum n fs kd vl) : ∀ (d i f : Nat) (s : zSt), i + d = n → d < f → zI s U 0 = zn n → cdC U n fs kd vl s → (∀ k, k < n → zI s (U + 4) k = pr k) → (∀ k, k < i → zI s (U + 1) k = eL kd vl fs k pr ∧ zI s (U + 2) k = pr k - eL kd vl fs k pr) → ∃ s', lp_X6_workAll_2 U f (zn i) s = some s' ∧ (∀ k, k < n → zI s' (U + 1) k = eL kd vl fs k pr ∧ zI s' (U + 2) k = pr k - eL kd vl fs k pr) ∧ zOf (fun o _ => o = U + 1 ∨ o = U + 2 ∨ o = U + 8) s s' := by
  obtain ⟨-, ⟨t2, t3, -, t5, -, -, -, -, -⟩, ⟨n1, n2, -, n4, -, -, -, -, -⟩⟩ := hU.c
  have hn := ok.1
  intro d
  induction d with
  | zero =>
    intro i f s hi hf c0 hc hp hk
    obtain ⟨f, rfl⟩ : ∃ g, f = g + 1 := ⟨f - 1, by omega⟩
    have h1 : ¬ zn i < zn n := by rw [zn_lt (by omega) (by omega)]; omega
    exact ⟨s, by simp only [lp_X6_workAll_2, bd_X6_workAll_2, c0, h1, if_false], fun k hk1 => hk k (by omega), zOf.rf⟩
  | succ d ih =>
    intro i f s hi hf c0 hc hp hk
    obtain ⟨f, rfl⟩ : ∃ g, f = g + 1 := ⟨f - 1, by omega⟩
    have h1 : zn i < zn n := by rw [zn_lt (by omega) (by omega)]; omega
    have h2 : ¬ zn i < 0 := zn_neg (by omega)
    have h3 : (zn i).toNatClampNeg = i := zn_cl (by omega)
    have h4 : ¬ 12 ≤ i := by omega
    obtain ⟨s1, a1, a2⟩ := valueOf_eq hU ok hc (o2 := U + 4) (Or.inl rfl) (show i < n by omega) (row := pr) (fun k hk1 => hp k (by omega))
    have i4 : zI (zsI s1 (U + 1) i (eL kd vl fs i pr)) (U + 4) i = pr i := by rw [zI_sI, if_neg (by omega), (a2 (U + 4) i (by omega)).1]; exact hp i (by omega)
    have i1 : zI (zsI s1 (U + 1) i (eL kd vl fs i pr)) (U + 1) i = eL kd vl fs i pr := by rw [zI_sI, if_pos ⟨rfl, rfl⟩]
    have e : zOf (fun o k => (o = U + 1 ∧ k = i) ∨ (o = U + 2 ∧ k = i) ∨ o = U + 8) s (zsI (zsI s1 (U + 1) i (eL kd vl fs i pr)) (U + 2) i (pr i - eL kd vl fs i pr)) := ((a2.mono (fun o k h => Or.inr (Or.inr h))).sI (by omega)).sI (by omega)
    obtain ⟨s2, b1, b2, b3⟩ := ih (i + 1) f _ (by omega) (by omega) ((e U 0 (by omega)).1.trans c0) (hc.of (fun o k ho => (e o k (by omega)).1)) (fun k hk1 => (e (U + 4) k (by omega)).1.trans (hp k hk1)) (fun k hk1 => by
      by_cases hki : k = i
      · subst hki
        exact ⟨by rw [zI_sI, if_neg (by omega), zI_sI, if_pos ⟨rfl, rfl⟩], by rw [zI_sI, if_pos ⟨rfl, rfl⟩]⟩
      · rw [(e (U + 1) k (by omega)).1, (e (U + 2) k (by omega)).1]; exact hk k (by omega))
    refine ⟨s2, ?_, b2, (e.mono (fun o k h => by omega)).tr b3⟩
    simp only [lp_X6_workAll_2, bd_X6_workAll_2, c0, h1, if_true, t2, t3, t5, n1, n2, n4, a1, zcl_some, h2, h3, h4, or_self, if_false, zlt_eq, i4, i1, zn_succ]
    exact b1
theorem suO_ok {l : Nat} {W : Nat → List Nat} {kd : Nat → Nat} {vl : Nat → Int32} {c u : Nat} {fs : Nat → Nat} (h : suO l W kd vl c u fs) : okSum l fs kd vl := ⟨h.1, fun i hi => by
  obtain ⟨a, b, d⟩ := h.2.2.2.2.2 i hi
  exact ⟨a, by have := h.2.2.1; have := h.2.2.2.1; omega, d⟩⟩
theorem suC_cd {U l : Nat} {W : Nat → List Nat} {kd : Nat → Nat} {vl : Nat → Int32} {c u : Nat} {fs : Nat → Nat} {pr : Nat → Int32} {s : zSt} (h : suC U l W kd vl c u fs pr s) (hO : suO l W kd vl c u fs) : cdC U l fs kd vl s := fun i hi => by
  obtain ⟨-, b, c⟩ := h.2 i hi
  exact ⟨b, c, fun k h1 h2 => h.1.2.2.2.2 k (by have := (hO.2.2.2.2.2 i hi).2.1; omega)⟩
theorem su_lp {B : Nat → Nat} {N U : Nat} (hU : isU U) (hN : N ≤ 800) : ∀ (d i p fC fM : Nat) (s t : zSt) (W : Nat → List Nat) (kd : Nat → Nat) (vl pr : Nat → Int32) (c u : Nat) (fs : Nat → Nat), i + d = 13 → d < fC → d + 1 < fM → 0 < d → rkC B N true p s → rkM B N true p t → suC U i W kd vl c u fs pr s → suM i W kd vl c u fs pr t → suO i W kd vl c u fs →
    ∃ r s' t', lp_X6_read_17 U 3 fC (zn i) s = some (r, s') ∧ (∀ kk, lp_X9_sum_20 64 kk fM t = kk t') ∧ ((r = 1 ∧ ∃ (l : Nat) (W' : Nat → List Nat) (kd' : Nat → Nat) (vl' pr' : Nat → Int32) (c' u' : Nat) (fs' : Nat → Nat), suO l W' kd' vl' c' u' fs' ∧ smC U l fs' kd' vl' (fun i => pr' i - eL kd' vl' fs' i pr') s' ∧ (∀ i, i < l → zI s' (U + 1) i = eL kd' vl' fs' i pr') ∧ zI s' U 1 = zn u' ∧ suM l W' kd' vl' c' u' fs' pr' t' ∧ (zI s' 3 10 = 0 ∧ zI s' 3 11 = -1) ∧ (zI t' 64 2 = 0 ∧ zI t' 64 3 = -1)) ∨ (r = 0 ∧ ∃ f pl, f ≠ 0 ∧ f < 100 ∧ flC f pl s' ∧ flM f pl t')) ∧ zOf (gSuC U) s s' ∧ zOf gSuM t t' := by
  have hUb := hU.lt
  intro d
  induction d with
  | zero => intro i p fC fM s t W kd vl pr c u fs _ _ _ h; omega
  | succ d ih =>
    intro i p fC fM s t W kd vl pr c u fs hi hfC hfM _ h h' hC hM hO
    obtain ⟨fC, rfl⟩ : ∃ g, fC = g + 1 := ⟨fC - 1, by omega⟩
    obtain ⟨fM, rfl⟩ : ∃ g, fM = g + 1 := ⟨fM - 1, by omega⟩
    have l12 : ¬ (12 : Int32) < zn i := fun x => by have := (zn_lt (a := 12) (by omega) (by omega)).1 x; omega
    have e0 : zI s 3 4 = 0 ↔ tkd B N true p = 0 := h.kd (k := 0) (by omega)
    have m0 : zI t 64 6 = 0 ↔ tkd B N true p = 0 := (h'.so (k := 0) (by omega)).trans (msr_0 _)
    have z0 : zI t 64 2 = 0 := h'.2.2.2.2.1
    by_cases hk : tkd B N true p = 0
    · obtain ⟨s1, a1, a2, a3⟩ := wa_lp hU (suO_ok hO) (pr := pr) i 0 zFuel s (by omega) (by have := hO.1; unfold zFuel; omega) hC.1.1 (suC_cd hC hO) (fun k hk => (hC.2 k hk).1) (fun k hk => by omega)
      have A1 : m_X6_workAll U s = some s1 := a1
      refine ⟨1, s1, t, ?_, fun kk => ?_, Or.inl ⟨rfl, i, W, kd, vl, pr, c, u, fs, hO, ⟨(a3 U 0 (by omega)).1.trans hC.1.1, (suC_cd hC hO).of (fun o k ho => (a3 o k (by omega)).1), fun k hk => (a2 k hk).2⟩, fun k hk => (a2 k hk).1, (a3 U 1 (by omega)).1.trans hC.1.2.1, hM, ⟨(a3 3 10 (by omega)).1.trans h.2.2.2.2.2.1, (a3 3 11 (by omega)).1.trans h.2.2.2.2.2.2⟩, h'.2.2.2.2⟩, a3.mono (fun o j hw => Or.inr (by omega)), zOf.rf⟩
      · simp only [lp_X6_read_17, bd_X6_read_17, l12, if_false, e0, hk, if_true, A1, zcv_some]
      · simp only [lp_X9_sum_20, bd_X9_sum_20, z0, m0, hk, if_true]
    · obtain ⟨r, s1, t1, a1, a2, a3, a4, a5⟩ := sum_line h h' hU hC hM hO hk hN
      rcases a3 with ⟨hr, hl, p', c', u', W', kd', vl', pr', fs', b1, b2, b3, b4, b5, b6⟩ | ⟨hr, f, pl, hf0, hf1, hfc, hfm⟩
      · obtain ⟨r2, s2, t2, c1, c2, c3, c4, c5⟩ := ih (i + 1) p' fC fM s1 t1 W' kd' vl' pr' c' u' fs' (by omega) (by omega) (by omega) (by omega) b2 b3 b4 b5 b6
        refine ⟨r2, s2, t2, ?_, fun kk => ?_, c3, a4.tr c4, a5.tr c5⟩
        · simp only [lp_X6_read_17, bd_X6_read_17, l12, if_false, e0, hk, a1, zcl_some, hr, show ¬ (1 : Int32) = 0 by decide, zn_succ]
          exact c1
        · simp only [lp_X9_sum_20, bd_X9_sum_20, z0, m0, hk, if_true, if_false, a2, zcv_some]
          exact c2 kk
      · have hp := hfm.pos hf0 hf1
        have hz : ¬ zI t1 64 2 = 0 := fun hz => by rw [hz] at hp; exact absurd hp (by decide)
        refine ⟨0, s1, t1, ?_, fun kk => ?_, Or.inr ⟨rfl, f, pl, hf0, hf1, hfc, hfm⟩, a4, a5⟩
        · simp only [lp_X6_read_17, bd_X6_read_17, l12, if_false, e0, hk, a1, zcl_some, hr, if_true]
        · obtain ⟨fM, rfl⟩ : ∃ g, fM = g + 1 := ⟨fM - 1, by omega⟩
          simp only [lp_X9_sum_20, bd_X9_sum_20, z0, m0, hk, if_true, if_false, a2, zcv_some, hz]
theorem sc1_lp {c : Nat} (hc : c ≤ 120) {kk : zSt → Option (Int32 × zSt)} : ∀ (d i f : Nat) (t : zSt), i + d = c → d < f → zI t 64 62 = zn c → (∀ k, k < i → zI t 98 k = zI t 94 k ∧ zI t 99 k = zI t 95 k) → ∃ t', lp_X9_sum_52 64 kk f (zn i) t = kk t' ∧ (∀ k, k < c → zI t' 98 k = zI t 94 k ∧ zI t' 99 k = zI t 95 k) ∧ zOf (fun o _ => o = 98 ∨ o = 99) t t' := by
  intro d
  induction d with
  | zero =>
    intro i f t hi hf c0 hk
    obtain ⟨f, rfl⟩ : ∃ g, f = g + 1 := ⟨f - 1, by omega⟩
    have h1 : ¬ zn i < zn c := by rw [zn_lt (by omega) (by omega)]; omega
    exact ⟨t, by simp only [lp_X9_sum_52, bd_X9_sum_52, c0, h1, if_false], fun k hk1 => hk k (by omega), zOf.rf⟩
  | succ d ih =>
    intro i f t hi hf c0 hk
    obtain ⟨f, rfl⟩ : ∃ g, f = g + 1 := ⟨f - 1, by omega⟩
    have h1 : zn i < zn c := by rw [zn_lt (by omega) (by omega)]; omega
    have h2 : ¬ zn i < 0 := zn_neg (by omega)
    have h3 : (zn i).toNatClampNeg = i := zn_cl (by omega)
    have h4 : ¬ 300 ≤ i := by omega
    have e : zOf (fun o k => (o = 98 ∨ o = 99) ∧ k = i) t (zsI (zsI t 98 i (zI t 94 i)) 99 i (zI t 95 i)) := (zOf.rf.sI (by omega)).sI (by omega)
    obtain ⟨t', a1, a2, a3⟩ := ih (i + 1) f (zsI (zsI t 98 i (zI t 94 i)) 99 i (zI t 95 i)) (by omega) (by omega) ((e 64 62 (by omega)).1.trans c0) (fun k hk1 => by
      rw [(e 94 k (by omega)).1, (e 95 k (by omega)).1]
      by_cases hki : k = i
      · subst hki; simp [zI_sI, zI_sL, zI_sR, zL_sI, zL_sL, zL_sR, zR_sI, zR_sL, zR_sR]
      · rw [(e 98 k (by omega)).1, (e 99 k (by omega)).1]; exact hk k (by omega))
    refine ⟨t', ?_, fun k hk1 => by have := a2 k hk1; rw [(e 94 k (by omega)).1, (e 95 k (by omega)).1] at this; exact this, (e.mono (fun o k h => h.1)).tr a3⟩
    have i95 : zI (zsI t 98 i (zI t 94 i)) 95 i = zI t 95 i := by rw [zI_sI, if_neg (by omega)]
    simp only [lp_X9_sum_52, bd_X9_sum_52, c0, h1, if_true, zT_64_51, zT_64_52, zT_64_55, zT_64_56, zN_94, zN_95, zN_98, zN_99, h2, h3, h4, or_self, if_false, zlt_eq, i95, zn_succ]
    exact a1
theorem sc2_lp {n : Nat} (hn : n ≤ 12) {kk : zSt → Option (Int32 × zSt)} : ∀ (d i f : Nat) (t : zSt), i + d = n → d < f → zI t 64 64 = zn n → (∀ k, k < i → zI t 101 k = zI t 97 k ∧ zI t 100 k = zI t 96 k ∧ zI t 100 (k + 1) = zI t 96 (k + 1)) → ∃ t', lp_X9_sum_92 64 kk f (zn i) t = kk t' ∧ (∀ k, k < n → zI t' 101 k = zI t 97 k ∧ zI t' 100 k = zI t 96 k ∧ zI t' 100 (k + 1) = zI t 96 (k + 1)) ∧ zOf (fun o _ => o = 101 ∨ o = 100) t t' := by
  intro d
  induction d with
  | zero =>
    intro i f t hi hf c0 hk
    obtain ⟨f, rfl⟩ : ∃ g, f = g + 1 := ⟨f - 1, by omega⟩
    have h1 : ¬ zn i < zn n := by rw [zn_lt (by omega) (by omega)]; omega
    exact ⟨t, by simp only [lp_X9_sum_92, bd_X9_sum_92, c0, h1, if_false], fun k hk1 => hk k (by omega), zOf.rf⟩
  | succ d ih =>
    intro i f t hi hf c0 hk
    obtain ⟨f, rfl⟩ : ∃ g, f = g + 1 := ⟨f - 1, by omega⟩
    have h1 : zn i < zn n := by rw [zn_lt (by omega) (by omega)]; omega
    have h2 : ¬ zn i < 0 := zn_neg (by omega)
    have h3 : (zn i).toNatClampNeg = i := zn_cl (by omega)
    have h4 : ¬ 12 ≤ i := by omega
    have h5 : ¬ 13 ≤ i := by omega
    have k2 : ¬ zn (i + 1) < 0 := zn_neg (by omega)
    have k3 : (zn (i + 1)).toNatClampNeg = i + 1 := zn_cl (by omega)
    have k5 : ¬ 13 ≤ i + 1 := by omega
    have e : zOf (fun o k => (o = 101 ∧ k = i) ∨ (o = 100 ∧ (k = i ∨ k = i + 1))) t (zsI (zsI (zsI t 101 i (zI t 97 i)) 100 i (zI t 96 i)) 100 (i + 1) (zI t 96 (i + 1))) := ((zOf.rf.sI (by omega)).sI (by omega)).sI (by omega)
    have v1 : zI (zsI t 101 i (zI t 97 i)) 96 i = zI t 96 i := by rw [zI_sI, if_neg (by omega)]
    have v2 : zI (zsI (zsI t 101 i (zI t 97 i)) 100 i (zI t 96 i)) 96 (i + 1) = zI t 96 (i + 1) := by rw [zI_sI, if_neg (by omega), zI_sI, if_neg (by omega)]
    obtain ⟨t', a1, a2, a3⟩ := ih (i + 1) f (zsI (zsI (zsI t 101 i (zI t 97 i)) 100 i (zI t 96 i)) 100 (i + 1) (zI t 96 (i + 1))) (by omega) (by omega) ((e 64 64 (by omega)).1.trans c0) (fun k hk1 => by
      rw [(e 97 k (by omega)).1, (e 96 k (by omega)).1, (e 96 (k + 1) (by omega)).1]
      by_cases hki : k = i
      · subst hki
        refine ⟨?_, ?_, ?_⟩
        · rw [zI_sI, if_neg (by omega), zI_sI, if_neg (by omega), zI_sI, if_pos ⟨rfl, rfl⟩]
        · rw [zI_sI, if_neg (by omega), zI_sI, if_pos ⟨rfl, rfl⟩]
        · rw [zI_sI, if_pos ⟨rfl, rfl⟩]
      · obtain ⟨q1, q2, q3⟩ := hk k (by omega)
        refine ⟨(e 101 k (by omega)).1.trans q1, (e 100 k (by omega)).1.trans q2, ?_⟩
        by_cases hk2 : k + 1 = i
        · rw [hk2, zI_sI, if_neg (by omega), zI_sI, if_pos ⟨rfl, rfl⟩]
        · exact (e 100 (k + 1) (by omega)).1.trans q3)
    refine ⟨t', ?_, fun k hk1 => by have := a2 k hk1; rw [(e 97 k (by omega)).1, (e 96 k (by omega)).1, (e 96 (k + 1) (by omega)).1] at this; exact this, (e.mono (fun o k h => by omega)).tr a3⟩
    simp only [lp_X9_sum_92, bd_X9_sum_92, c0, h1, if_true, zT_64_53, zT_64_54, zT_64_57, zT_64_58, zN_96, zN_97, zN_100, zN_101, h2, h3, h4, h5, or_self, if_false, zlt_eq, v1, zn_succ, k2, k3, k5, v2]
    exact a1
def iSum2 (U : Nat) (s t : zSt) : Prop := ∃ (n : Nat) (fs : Nat → Nat) (kd : Nat → Nat) (vl pr : Nat → Int32), okSum n fs kd vl ∧ smC U n fs kd vl (fun l => pr l - eL kd vl fs l pr) s ∧ (∀ l, l < n → zI s (U + 1) l = eL kd vl fs l pr) ∧ smM n fs kd vl pr t ∧ zI s U 1 = zI t 64 65
def gUM (o k : Nat) : Prop := (o = 64 ∧ (k = 65 ∨ k = 66)) ∨ (98 ≤ o ∧ o ≤ 101)
theorem iSum2.st {U : Nat} {s s' t t' : zSt} (h : iSum2 U s t) (e1 : ∀ o k, U ≤ o → o ≤ U + 7 → zI s' o k = zI s o k) (e2 : ∀ o k, gUM o k → zI t' o k = zI t o k) : iSum2 U s' t' := by
  obtain ⟨n, fs, kd, vl, pr, a1, ⟨b1, b2, b3⟩, c1, ⟨d1, d2, d3⟩, f1⟩ := h
  exact ⟨n, fs, kd, vl, pr, a1, ⟨(e1 U 0 (by omega) (by omega)).trans b1, b2.of (fun o k ho => e1 o k (by omega) (by omega)), fun l hl => (e1 (U + 2) l (by omega) (by omega)).trans (b3 l hl)⟩, fun l hl => (e1 (U + 1) l (by omega) (by omega)).trans (c1 l hl), ⟨(e2 64 66 (by unfold gUM; omega)).trans d1, d2.of (fun o k ho => e2 o k (by unfold gUM; omega)), fun l hl => (e2 101 l (by unfold gUM; omega)).trans (d3 l hl)⟩, by rw [e1 U 1 (by omega) (by omega), e2 64 65 (by unfold gUM; omega)]; exact f1⟩
def gUUC (o k : Nat) : Prop := (o = 0 ∧ (k = 6 ∨ k = 7)) ∨ (o = 1 ∧ k = 1) ∨ gOpC o k ∨ (33 ≤ o ∧ o ≤ 52)
def gUUM (o k : Nat) : Prop := gOpM o k ∨ (o = 64 ∧ 62 ≤ k ∧ k ≤ 68) ∨ (93 ≤ o ∧ o ≤ 102)
theorem gUUC_of {U o k : Nat} (hU : isU U) (h : gSuC U o k) : gUUC o k := by
  rcases h with h | h
  · exact Or.inr (Or.inr (Or.inl (gPC_Op h)))
  · exact Or.inr (Or.inr (Or.inr (by rcases hU with rfl | rfl <;> omega)))
theorem gUUM_of {o k : Nat} (h : gSuM o k) : gUUM o k := by
  rcases h with h | h
  · exact Or.inl (gPM_Op h)
  · exact Or.inr (by omega)
theorem rel_sum {s t : zSt} {U U' : Nat} (hU : isU U) (hU' : isU U') (hne : U ≠ U') (r6 : zR s 0 6 = U) (r7 : zR s 0 7 = U') (hT : rTape s t) (hK : kwC s) (hI : iSum2 U s t) : ∃ r s' t', m_X8_sum 0 s = some (r, s') ∧ m_X9_sum 64 t = some (r, t') ∧ (rTape s' t' ∧ rFau s' t' ∧ kwC s' ∧ ∃ G G', isU G ∧ isU G' ∧ G ≠ G' ∧ zR s' 0 6 = G ∧ zR s' 0 7 = G' ∧ iSum2 G s' t') ∧ zOf gUUC s s' ∧ zOf gUUM t t' := by
  obtain ⟨N, B, hT1, hT2, hT3⟩ := tape_B hT
  have hb : 33 ≤ U' ∧ U' ≤ 43 := by rcases hU' with rfl | rfl <;> omega
  have hb2 : 33 ≤ U ∧ U ≤ 43 := by rcases hU with rfl | rfl <;> omega
  have hdis : U + 10 ≤ U' ∨ U' + 10 ≤ U := by rcases hU with rfl | rfl <;> rcases hU' with rfl | rfl <;> omega
  obtain ⟨s1, a1, a2, a3⟩ := openC hT1 hK true
  have A1 : m_X3_open 3 1 s = some s1 := a1
  have e0 : zOf (fun o k => o = 64 ∧ (k = 62 ∨ k = 63 ∨ k = 64)) t (zsI (zsI (zsI t 64 62 0) 64 63 0) 64 64 0) := ((zOf.rf.sI (by omega)).sI (by omega)).sI (by omega)
  obtain ⟨t1, b1, b2, b3, b4⟩ := startM (t := zsI (zsI (zsI t 64 62 0) 64 63 0) 64 64 0) hT1.1 ((e0 64 1 (by omega)).1.trans hT2) (fun k hk => ⟨(hT3 k hk).1, (e0 65 k (by omega)).1.trans (hT3 k hk).2⟩) true
  have B1 : m_X9_start 64 1 (zsI (zsI (zsI t 64 62 0) 64 63 0) 64 64 0) = some t1 := b1
  have e1 : zOf (fun o k => o = U' ∧ (k = 0 ∨ k = 1 ∨ k = 11)) s1 (zsI (zsI (zsI s1 U' 0 0) U' 1 0) U' 11 0) := ((zOf.rf.sI (by omega)).sI (by omega)).sI (by omega)
  obtain ⟨r, s2, t2, c1, c2, c3, c4, c5⟩ := su_lp (B := B) (N := N) hU' hT1.1 13 0 0 zFuel zFuel (zsI (zsI (zsI s1 U' 0 0) U' 1 0) U' 11 0) t1 (fun _ => []) (fun _ => 0) (fun _ => 0) (fun _ => 0) 0 0 (fun _ => 0) (by omega) (by unfold zFuel; omega) (by unfold zFuel; omega) (by omega) (a2.of e1 (fun o k hw => by unfold gRdC; omega)) b2 ⟨⟨by simp [zI_sI, zI_sL, zI_sR, zL_sI, zL_sL, zL_sR, zR_sI, zR_sL, zR_sR]; rfl, by simp [zI_sI, zI_sL, zI_sR, zL_sI, zL_sL, zL_sR, zR_sI, zR_sL, zR_sR]; rfl, by simp [zI_sI, zI_sL, zI_sR, zL_sI, zL_sL, zL_sR, zR_sI, zR_sL, zR_sR]; rfl, fun k hk => by omega, fun k hk => by omega⟩, fun i hi => by omega⟩ ⟨⟨(b4 64 64 (by unfold gOpM; omega)).1.trans (by simp [zI_sI, zI_sL, zI_sR, zL_sI, zL_sL, zL_sR, zR_sI, zR_sL, zR_sR]; rfl), (b4 64 63 (by unfold gOpM; omega)).1.trans (by simp [zI_sI, zI_sL, zI_sR, zL_sI, zL_sL, zL_sR, zR_sI, zR_sL, zR_sR]; rfl), (b4 64 62 (by unfold gOpM; omega)).1.trans (by simp [zI_sI, zI_sL, zI_sR, zL_sI, zL_sL, zL_sR, zR_sI, zR_sL, zR_sR]; rfl)⟩, fun k hk => by omega, fun k hk => by omega, fun i hi => by omega⟩ ⟨by omega, ⟨fun k hk => by omega, fun j k hj => by omega⟩, by omega, by omega, rfl, fun i hi => by omega⟩
  have C1 : m_X6_read U' 3 s1 = some (r, s2) := c1
  have rr : ∀ k, zR s2 0 k = zR s 0 k := fun k => by
    rw [(c4 0 k (by unfold gSuC gPC; omega)).2.2, (e1 0 k (by omega)).2.2, (a3 0 k (by unfold gOpC; omega)).2.2]
  have fC2 : zOf gUUC s s2 := ((a3.mono (fun o k h => Or.inr (Or.inr (Or.inl h)))).tr (e1.mono (fun o k h => Or.inr (Or.inr (Or.inr (by omega)))))).tr (c4.mono (fun o k h => gUUC_of hU' h))
  have fM2 : zOf gUUM t t2 := ((e0.mono (fun o k h => Or.inr (Or.inl (by omega)))).tr (b4.mono (fun o k h => Or.inl h))).tr (c5.mono (fun o k h => gUUM_of h))
  have e3 : zOf (fun o k => o = 1 ∧ k = 1) s2 (zsI s2 1 1 0) := zOf.rf.sI ⟨rfl, rfl⟩
  have fC3 : zOf gUUC s (zsI s2 1 1 0) := fC2.tr (e3.mono (fun o k h => Or.inr (Or.inl h)))
  have K3 : kwC (zsI s2 1 1 0) := fun i hi => (fC3 4 i (by unfold gUUC gOpC; omega)).2.1.trans (hK i hi)
  have t21 : zI t2 64 1 = 0 := (c5 64 1 (by unfold gSuM gPM; omega)).1.trans b3
  have s31 : zI (zsI s2 1 1 0) 1 1 = 0 := by rw [zI_sI, if_pos ⟨rfl, rfl⟩]
  have rr3 : ∀ k, zR (zsI s2 1 1 0) 0 k = zR s 0 k := fun k => (e3 0 k (by omega)).2.2.trans (rr k)
  have MD : m_X9_sum 64 t = m_X9_sum_41 64 t2 := by
    unfold m_X9_sum
    rw [zlt_eq, zlt_eq, zlt_eq, B1, zcv_some]
    exact c2 _
  have old : iSum2 U s2 t2 := hI.st (fun o k h1 h2 => by
    have q1 := c4 o k (by unfold gSuC gPC; omega)
    have q2 := e1 o k (by omega)
    have q3 := a3 o k (by unfold gOpC; omega)
    rw [q1.1, q2.1, q3.1]) (fun o k hg => by
    have q1 := c5 o k (by unfold gUM at hg; unfold gSuM gPM; omega)
    have q2 := b4 o k (by unfold gUM at hg; unfold gOpM; omega)
    have q3 := e0 o k (by unfold gUM at hg; omega)
    rw [q1.1, q2.1, q3.1])
  rcases c3 with ⟨hr, n, W, kd, vl, pr, c, u, fs, d1, d2, d3, d4, d5, d6, d7⟩ | ⟨hr, f, pl, hf0, hf1, hfc, hfm⟩
  · have nf : ¬ 0 < zI t2 64 2 := by rw [d7.1]; decide
    have c120 : c ≤ 120 := by have := d1.2.2.1; have := d1.2.2.2.1; omega
    obtain ⟨t3, g1, g2, g3⟩ := sc1_lp c120 (kk := fun s_9 => lp_X9_sum_92 64 (fun s_13 => zlt (zsI s_13 64 65 (zI s_13 64 63)) (fun s14 => zlt (zsI s14 64 66 (zI s14 64 64)) (fun s15 => some (zI s15 64 66, s15)))) zFuel 0 s_9) c 0 zFuel t2 (by omega) (by unfold zFuel; omega) d5.1.2.2 (fun k hk => by omega)
    obtain ⟨t4, k1, k2, k3⟩ := sc2_lp d1.1 (kk := fun s_13 => zlt (zsI s_13 64 65 (zI s_13 64 63)) (fun s14 => zlt (zsI s14 64 66 (zI s14 64 64)) (fun s15 => some (zI s15 64 66, s15)))) n 0 zFuel t3 (by omega) (by have := d1.1; unfold zFuel; omega) ((g3 64 64 (by omega)).1.trans d5.1.1) (fun k hk => by omega)
    have ft : ∀ o k, (o < 98 ∨ 101 < o) → zI t4 o k = zI t2 o k := fun o k ho => (k3 o k (by omega)).1.trans (g3 o k (by omega)).1
    have v63 : zI t4 64 63 = zn u := (ft 64 63 (by omega)).trans d5.1.2.1
    have v64 : zI (zsI t4 64 65 (zn u)) 64 64 = zn n := by rw [zI_sI, if_neg (by omega), ft 64 64 (by omega)]; exact d5.1.1
    have v66 : zI (zsI (zsI t4 64 65 (zn u)) 64 66 (zn n)) 64 66 = zn n := by rw [zI_sI, if_pos ⟨rfl, rfl⟩]
    have e4 : zOf (fun o k => o = 64 ∧ (k = 65 ∨ k = 66)) t4 (zsI (zsI t4 64 65 (zn u)) 64 66 (zn n)) := (zOf.rf.sI (by omega)).sI (by omega)
    have e5 : zOf (fun o k => o = 0 ∧ (k = 6 ∨ k = 7)) (zsI s2 1 1 0) (zsR (zsR (zsI s2 1 1 0) 0 6 U') 0 7 U) := (zOf.rf.sR (by omega)).sR (by omega)
    have fs' : ∀ o k, U' ≤ o → zI (zsR (zsR (zsI s2 1 1 0) 0 6 U') 0 7 U) o k = zI s2 o k := fun o k h => (e5 o k (by omega)).1.trans (e3 o k (by omega)).1
    have i5 : zI (zsR (zsR (zsI s2 1 1 0) 0 6 U') 0 7 U) U' 0 = zn n := (fs' U' 0 (by omega)).trans d2.1
    have hfin : iSum2 U' (zsR (zsR (zsI s2 1 1 0) 0 6 U') 0 7 U) (zsI (zsI t4 64 65 (zn u)) 64 66 (zn n)) := by
      refine ⟨n, fs, kd, vl, pr, suO_ok d1, ⟨i5, d2.2.1.of (fun o k ho => fs' o k (by omega)), fun l hl => (fs' (U' + 2) l (by omega)).trans (d2.2.2 l hl)⟩, fun l hl => (fs' (U' + 1) l (by omega)).trans (d3 l hl), ⟨v66, fun l hl => ⟨?_, ?_, fun k h1 h2 => ?_⟩, fun l hl => ?_⟩, ?_⟩
      · rw [(e4 100 l (by omega)).1, (k2 l hl).2.1, (g3 96 l (by omega)).1]; exact (d5.2.2.2 l hl).2.1
      · rw [(e4 100 (l + 1) (by omega)).1, (k2 l hl).2.2, (g3 96 (l + 1) (by omega)).1]; exact (d5.2.2.2 l hl).2.2
      · have hkc : k < c := by have := (d1.2.2.2.2.2 l hl).2.1; omega
        rw [(e4 98 k (by omega)).1, (k3 98 k (by omega)).1, (g2 k hkc).1, (e4 99 k (by omega)).1, (k3 99 k (by omega)).1, (g2 k hkc).2]
        exact d5.2.2.1 k hkc
      · rw [(e4 101 l (by omega)).1, (k2 l hl).1, (g3 97 l (by omega)).1]; exact (d5.2.2.2 l hl).1
      · rw [fs' U' 1 (by omega), d4, zI_sI, if_neg (by omega), zI_sI, if_pos ⟨rfl, rfl⟩]
    have fV : zOf gUUM t (zsI (zsI t4 64 65 (zn u)) 64 66 (zn n)) := ((fM2.tr (g3.mono (fun o k h => Or.inr (Or.inr (by omega))))).tr (k3.mono (fun o k h => Or.inr (Or.inr (by omega))))).tr (e4.mono (fun o k h => Or.inr (Or.inl (by omega))))
    refine ⟨zn n, zsR (zsR (zsI s2 1 1 0) 0 6 U') 0 7 U, zsI (zsI t4 64 65 (zn u)) 64 66 (zn n), ?_, ?_, ⟨rTape_0 ((e5 1 1 (by omega)).1.trans s31) (by rw [(e4 64 1 (by omega)).1, ft 64 1 (by omega)]; exact t21), ⟨?_, ?_⟩, fun i hi => (e5 4 i (by omega)).2.1.trans (K3 i hi), U', U, hU', hU, fun x => hne x.symm, ?_, ?_, hfin⟩, fC3.tr (e5.mono (fun o k h => Or.inl h)), fV⟩
    · simp only [m_X8_sum, zT_0_1, zT_0_0, A1, zcv_some, (a3 0 7 (by unfold gOpC; omega)).2.2, r7, hU'.c.1, if_true, C1, zcl_some, hr, show ¬ (1 : Int32) = 0 by decide, if_false, zlt_eq, rr3, r6, hU.c.1]
      simp only [zI_sI, zI_sL, zI_sR, zL_sI, zL_sL, zL_sR, zR_sI, zR_sL, zR_sR, show ¬ ((6 : Nat) = 7) by decide, and_false, and_self, if_true, if_false, hU'.c.1]
      simp only [zI_sI, zI_sL, zI_sR, zL_sI, zL_sL, zL_sR, zR_sI, zR_sL, zR_sR] at i5
      rw [i5]
    · rw [MD]
      simp only [m_X9_sum_41, nf, if_false]
      refine Eq.trans g1 (Eq.trans k1 ?_)
      simp only [zlt_eq, v63, v64, v66]
    · rw [(e5 3 10 (by omega)).1, (e3 3 10 (by omega)).1, d6.1, (e4 64 2 (by omega)).1, ft 64 2 (by omega), d7.1]
    · rw [(e5 3 11 (by omega)).1, (e3 3 11 (by omega)).1, d6.2, (e4 64 3 (by omega)).1, ft 64 3 (by omega), d7.2]
    · simp only [zI_sI, zI_sL, zI_sR, zL_sI, zL_sL, zL_sR, zR_sI, zR_sL, zR_sR, show ¬ ((6 : Nat) = 7) by decide, and_false, and_self, if_true, if_false]
    · simp only [zI_sI, zI_sL, zI_sR, zL_sI, zL_sL, zL_sR, zR_sI, zR_sL, zR_sR, and_self, if_true]
  · have hp := hfm.pos hf0 hf1
    refine ⟨-1, zsI s2 1 1 0, t2, ?_, ?_, ⟨rTape_0 s31 t21, ?_, K3, U, U', hU, hU', hne, (rr3 6).trans r6, (rr3 7).trans r7, old.st (fun o k h1 h2 => ?_) (fun o k _ => rfl)⟩, fC3, fM2⟩
    · simp only [m_X8_sum, zT_0_1, zT_0_0, A1, zcv_some, (a3 0 7 (by unfold gOpC; omega)).2.2, r7, hU'.c.1, if_true, C1, zcl_some, hr, zlt_eq]
    · rw [MD]
      simp only [m_X9_sum_41, hp, if_true]
    · have := rFau_fl hfc hfm
      exact ⟨(e3 3 10 (by omega)).1.trans this.1, (e3 3 11 (by omega)).1.trans this.2⟩
    · exact (e3 o k (by omega)).1
