/-! the shed: all lines -/
theorem cOut.r {B : Nat → Nat} {N p S nl : Nat} {r : Int32} {s1 t1 : zSt} (h : cOut B N p S nl r s1 t1) : r = 0 ∨ r = 1 := by
  rcases h with ⟨h, -⟩ | ⟨h, -⟩
  · exact Or.inr h
  · exact Or.inl h
/-- a line with its semicolon -/
theorem line_end {B : Nat → Nat} {N p : Nat} {s t : zSt} (h : rkC B N false p s) (h' : rkM B N false p t) {S nc nt nl tb : Nat} (hS : isS S) {a : Nat → Int} {Wc Wt : Nat → List Nat} {sh : Nat → Nat} (hC : sdC S nc nt nl tb a Wc Wt sh s) (hM : sdM nc nt nl tb a Wc Wt sh t) (hO : sdO nc nt tb a Wc Wt sh) (hk0 : tkd B N false p ≠ 0) :
    ∃ r s1 t1, m_X5_readLine S 3 s = some (r, s1) ∧ (∀ rec kk, bd_X9_shed_51 64 rec kk t = m_X9_shed_180 64 rec kk t1) ∧ cOut B N p S nl r s1 t1 ∧ zOf (gShC S) s s1 ∧ zOf gShM t t1 := by
  obtain ⟨⟨-, S1, S2⟩, -, -⟩ := hS.c3
  obtain ⟨r, s1, t1, a1, a2, a3, a4, a5⟩ := line_step h h' hS hC hM hO hk0
  have gP : ∀ {x y : zSt}, zOf gPC x y → zOf (gShC S) x y := fun e => e.mono (fun o j hw => Or.inl hw)
  have gQ : ∀ {x y : zSt}, zOf gPM x y → zOf gShM x y := fun e => e.mono (fun o j hw => Or.inl hw)
  rcases a3 with ⟨hr, p', nc', nt', tb', a', Wc', Wt', sh', b1, b2, b3, b4, b5, b6⟩ | ⟨hr, f, pl, hf0, hf1, hfc, hfm⟩
  · obtain ⟨s2, c1, c2, c3, c4⟩ := takeC b2 (k := 59) (by omega)
    have C1 : m_X3_take 3 59 s1 = _ := c1
    have e59 : zI t1 64 6 = 59 ↔ tkd B N false p' = 59 := (b3.so (k := 59) (by omega)).trans (msr_s (by omega) (by omega))
    have z0 : zI t1 64 2 = 0 := b3.2.2.2.2.1
    have one0 : ¬ (1 : Int32) = 0 := by decide
    by_cases hk : tkd B N false p' = 59
    · obtain ⟨t2, d1, d2, d3⟩ := tokM b3 (by omega)
      refine ⟨1, s2, t2, ?_, fun rec kk => ?_, Or.inl ⟨rfl, tnx B N p', nc', nt', tb', a', Wc', Wt', sh', ?_, c2 hk, d2, b4.of (fun o j h1 h2 => ?_), b5.of (fun o j hg => ?_), b6⟩, a4.tr (gP c4), a5.tr (gQ d3)⟩
      · rw [a1]; simp only [m_X5_readLine_143, hr, one0, if_false, C1, hk, if_true, zcl_some]
      · rw [a2]; simp only [m_X9_shed_148, m_X9_shed_169, z0, if_true, e59, hk, d1, zcv_some]
      · have := tnx_bd (B := B) b2.1; omega
      · have := c4 o j (by unfold gPC; omega); exact ⟨this.1, this.2.1⟩
      · have := d3 o j (by unfold gSdM at hg; unfold gPM; omega); exact ⟨this.1, this.2.1⟩
    · obtain ⟨t2, d1, d2, d3⟩ := wrM b3 2
      have D1 : m_X9_wrong 64 2 t1 = some t2 := d1
      have hp := d2.pos (fc_ne (by omega)) (fc_lt (by omega))
      have hz : ¬ zI t2 64 2 = 0 := fun hz => by rw [hz] at hp; exact absurd hp (by decide)
      refine ⟨0, s2, t2, ?_, fun rec kk => ?_, Or.inr ⟨rfl, _, _, fc_ne (by omega), fc_lt (by omega), c3 hk, d2⟩, a4.tr (gP c4), a5.tr (gQ d3)⟩
      · rw [a1]; simp only [m_X5_readLine_143, hr, one0, if_false, C1, hk, if_true, zcl_some]
      · rw [a2]; simp only [m_X9_shed_148, m_X9_shed_169, z0, if_true, e59, hk, if_false, D1, zcv_some, hz]
  · have hp := hfm.pos hf0 hf1
    have hz : ¬ zI t1 64 2 = 0 := fun hz => by rw [hz] at hp; exact absurd hp (by decide)
    refine ⟨0, s1, t1, ?_, fun rec kk => ?_, Or.inr ⟨rfl, f, pl, hf0, hf1, hfc, hfm⟩, a4, a5⟩
    · rw [a1]; simp only [m_X5_readLine_143, hr, if_true]
    · rw [a2]; simp only [m_X9_shed_148, m_X9_shed_169, hz, if_false]
theorem sh_lp {B : Nat → Nat} {N S : Nat} (hS : isS S) (hN : N ≤ 800) : ∀ (d i p fC fM : Nat) (s t : zSt) (nc nt tb : Nat) (a : Nat → Int) (Wc Wt : Nat → List Nat) (sh : Nat → Nat), i + d = 801 → d + 1 < fC → d + 1 < fM → i ≤ p → rkC B N false p s → rkM B N false p t → sdC S nc nt i tb a Wc Wt sh s → sdM nc nt i tb a Wc Wt sh t → sdO nc nt tb a Wc Wt sh →
    ∃ r s' t', lp_X5_read_33 S 3 fC (zn i) s = some (r, s') ∧ (∀ kk, lp_X9_shed_51 64 kk fM t = kk t') ∧ ((r = 1 ∧ ∃ nl nc' nt' tb' a' Wc' Wt' sh', sdC S nc' nt' nl tb' a' Wc' Wt' sh' s' ∧ sdM nc' nt' nl tb' a' Wc' Wt' sh' t' ∧ sdO nc' nt' tb' a' Wc' Wt' sh' ∧ rFew S nc' nt' sh' s' ∧ (zI s' 3 10 = 0 ∧ zI s' 3 11 = -1) ∧ (zI t' 64 2 = 0 ∧ zI t' 64 3 = -1)) ∨ (r = 0 ∧ ∃ f pl, f ≠ 0 ∧ f < 100 ∧ flC f pl s' ∧ flM f pl t')) ∧ zOf (gShC S) s s' ∧ zOf gShM t t' := by
  obtain ⟨⟨-, S1, S2⟩, ⟨t1, -⟩, -⟩ := hS.c3
  intro d
  induction d with
  | zero =>
    intro i p fC fM s t nc nt tb a Wc Wt sh hi _ _ hip h
    have := h.1
    omega
  | succ d ih =>
    intro i p fC fM s t nc nt tb a Wc Wt sh hi hfC hfM hip h h' hC hM hO
    obtain ⟨fC, rfl⟩ : ∃ g, fC = g + 1 := ⟨fC - 1, by omega⟩
    obtain ⟨fM, rfl⟩ : ∃ g, fM = g + 1 := ⟨fM - 1, by omega⟩
    have l8 : ¬ (800 : Int32) < zn i := fun x => by have := (zn_lt (a := 800) (by omega) (by omega)).1 x; omega
    have e0 : zI s 3 4 = 0 ↔ tkd B N false p = 0 := h.kd (k := 0) (by omega)
    have m0 : zI t 64 6 = 0 ↔ tkd B N false p = 0 := (h'.so (k := 0) (by omega)).trans (msr_0 _)
    have z0 : zI t 64 2 = 0 := h'.2.2.2.2.1
    have one0 : ¬ (1 : Int32) = 0 := by decide
    by_cases hk : tkd B N false p = 0
    · obtain ⟨s1, a1, a2, a3⟩ := fill_eq hS hO.1 hO.2.1 hC.2.1.1 hC.2.1.2.1 hC.2.2.2.1
      refine ⟨1, s1, t, ?_, fun kk => ?_, Or.inl ⟨rfl, i, nc, nt, tb, a, Wc, Wt, sh, ?_, hM, hO, a2, ?_, h'.2.2.2.2⟩, a3.mono (fun o j hw => Or.inr (by omega)), zOf.rf⟩
      · simp only [lp_X5_read_33, bd_X5_read_33, l8, if_false, e0, hk, if_true, t1, a1, zcv_some]
      · simp only [lp_X9_shed_51, bd_X9_shed_51, z0, m0, hk, if_true]
      · obtain ⟨⟨A1, A2⟩, ⟨A3, A4, A5, A6⟩, ⟨A7, A8⟩, A9, A10⟩ := hC
        exact ⟨⟨(a3 S 0 (by omega)).1.trans A1, (a3 S 3 (by omega)).1.trans A2⟩, ⟨(a3 (S + 1) 0 (by omega)).1.trans A3, (a3 (S + 1) 1 (by omega)).1.trans A4, (a3 (S + 1) 6 (by omega)).1.trans A5, (a3 (S + 1) 7 (by omega)).1.trans A6⟩, ⟨fun k hk => (a3 (S + 2) k (by omega)).2.1.trans (A7 k hk), fun k hk => (a3 (S + 3) k (by omega)).2.1.trans (A8 k hk)⟩, fun k hk => (a3 (S + 4) k (by omega)).1.trans (A9 k hk), fun k hk => (a3 (S + 6) k (by omega)).1.trans (A10 k hk)⟩
      · exact ⟨(a3 3 10 (by omega)).1.trans h.2.2.2.2.2.1, (a3 3 11 (by omega)).1.trans h.2.2.2.2.2.2⟩
    · obtain ⟨r, s1, u1, a1, a2, a3, a4, a5⟩ := line_end h h' hS hC hM hO hk
      have e6 : ∀ v, zOf (fun o j => o = 64 ∧ j = 20) u1 (zsI u1 64 20 v) := fun v => zOf.rf.sI ⟨rfl, rfl⟩
      have stM : ∀ kk, lp_X9_shed_51 64 kk (fM + 1) t = lp_X9_shed_51 64 kk fM (zsI u1 64 20 (zI u1 64 20 + 1)) := fun kk => by
        rw [lp_X9_shed_51, a2]
        simp only [m_X9_shed_180, zlt_eq]
      rcases a3 with ⟨hr, p', nc', nt', tb', a', Wc', Wt', sh', b1, b2, b3, b4, b5, b6⟩ | ⟨hr, f, pl, hf0, hf1, hfc, hfm⟩
      · have e5 : zOf (fun o j => o = S ∧ j = 0) s1 (zsI s1 S 0 (zn (i + 1))) := zOf.rf.sI ⟨rfl, rfl⟩
        have c0 : zI s1 S 0 + 1 = zn (i + 1) := by rw [b4.1.1, zn_succ]
        have m20 : zI u1 64 20 + 1 = zn (i + 1) := by rw [b5.1.1, zn_succ]
        rw [m20] at stM
        have hC2 : sdC S nc' nt' (i + 1) tb' a' Wc' Wt' sh' (zsI s1 S 0 (zn (i + 1))) := by
          obtain ⟨⟨A1, A2⟩, ⟨A3, A4, A5, A6⟩, ⟨A7, A8⟩, A9, A10⟩ := b4
          exact ⟨⟨by rw [zI_sI, if_pos ⟨rfl, rfl⟩], (e5 S 3 (by omega)).1.trans A2⟩, ⟨(e5 (S + 1) 0 (by omega)).1.trans A3, (e5 (S + 1) 1 (by omega)).1.trans A4, (e5 (S + 1) 6 (by omega)).1.trans A5, (e5 (S + 1) 7 (by omega)).1.trans A6⟩, ⟨fun k hk => (e5 (S + 2) k (by omega)).2.1.trans (A7 k hk), fun k hk => (e5 (S + 3) k (by omega)).2.1.trans (A8 k hk)⟩, fun k hk => (e5 (S + 4) k (by omega)).1.trans (A9 k hk), fun k hk => (e5 (S + 6) k (by omega)).1.trans (A10 k hk)⟩
        have hM2 : sdM nc' nt' (i + 1) tb' a' Wc' Wt' sh' (zsI u1 64 20 (zn (i + 1))) := by
          obtain ⟨⟨M1, M2⟩, ⟨M3, M4⟩, ⟨M5, M6⟩, M7, M8⟩ := b5
          have e6' := e6 (zn (i + 1))
          exact ⟨⟨by rw [zI_sI, if_pos ⟨rfl, rfl⟩], fun k hk => (e6' 70 k (by omega)).1.trans (M2 k hk)⟩, ⟨(e6' 64 18 (by omega)).1.trans M3, (e6' 64 19 (by omega)).1.trans M4⟩, ⟨fun k hk => (e6' 71 k (by omega)).2.1.trans (M5 k hk), fun k hk => (e6' 72 k (by omega)).2.1.trans (M6 k hk)⟩, fun k hk => (e6' 68 k (by omega)).1.trans (M7 k hk), fun k hk => (e6' 66 k (by omega)).1.trans (M8 k hk)⟩
        obtain ⟨r2, s2, u2, c1, c2, c3, c4, c5⟩ := ih (i + 1) p' fC fM _ _ nc' nt' tb' a' Wc' Wt' sh' (by omega) (by omega) (by omega) (by omega) (b2.of e5 (fun o k hw => by unfold gRdC; omega)) (b3.of (e6 (zn (i + 1))) (fun o k hw => by unfold gRdM; omega)) hC2 hM2 b6
        refine ⟨r2, s2, u2, ?_, fun kk => (stM kk).trans (c2 kk), c3, (a4.tr (e5.mono (fun o k hw => Or.inr (by omega)))).tr c4, (a5.tr ((e6 (zn (i + 1))).mono (fun o k hw => Or.inr (by unfold gSdM; omega)))).tr c5⟩
        simp only [lp_X5_read_33, bd_X5_read_33, l8, if_false, e0, hk, a1, zcl_some, hr, one0, zlt_eq, c0, zn_succ]
        exact c1
      · have hp := hfm.pos hf0 hf1
        obtain ⟨fM, rfl⟩ : ∃ g, fM = g + 1 := ⟨fM - 1, by omega⟩
        have hfm2 : flM f pl (zsI u1 64 20 (zI u1 64 20 + 1)) := ⟨by rw [zI_sI, if_neg (by omega)]; exact hfm.1, by rw [zI_sI, if_neg (by omega)]; exact hfm.2⟩
        have hp2 := hfm2.pos hf0 hf1
        have hz : ¬ zI (zsI u1 64 20 (zI u1 64 20 + 1)) 64 2 = 0 := fun hz => by rw [hz] at hp2; exact absurd hp2 (by decide)
        refine ⟨0, s1, zsI u1 64 20 (zI u1 64 20 + 1), ?_, fun kk => (stM kk).trans ?_, Or.inr ⟨rfl, f, pl, hf0, hf1, hfc, hfm2⟩, a4, a5.sI (Or.inr (by unfold gSdM; omega))⟩
        · simp only [lp_X5_read_33, bd_X5_read_33, l8, if_false, e0, hk, a1, zcl_some, hr, if_true]
        · rw [lp_X9_shed_51, bd_X9_shed_51, if_neg hz]
theorem plain_v : ∀ k : Fin 11, ∀ s : zSt, m_X9_plainOf (zn k.val) s = some (ztabU k.val, s) := by
  intro k s
  rcases (show k.val = 0 ∨ k.val = 1 ∨ k.val = 2 ∨ k.val = 3 ∨ k.val = 4 ∨ k.val = 5 ∨ k.val = 6 ∨ k.val = 7 ∨ k.val = 8 ∨ k.val = 9 ∨ k.val = 10 by omega) with h | h | h | h | h | h | h | h | h | h | h <;> rw [h] <;> rfl
theorem pl_lp {kk : zSt → Option (Int32 × zSt)} : ∀ (d i f : Nat) (t : zSt), i + d = 11 → d < f → (∀ k, k < i → zI t 66 k = ztabU k ∧ zI t 70 k = 0) → ∃ t', lp_X9_shed_17 64 kk f (zn i) t = kk t' ∧ (∀ k, k < 11 → zI t' 66 k = ztabU k ∧ zI t' 70 k = 0) ∧ zOf (fun o _ => o = 66 ∨ o = 70) t t' := by
  intro d
  induction d with
  | zero =>
    intro i f t hi hf hk
    obtain ⟨f, rfl⟩ : ∃ g, f = g + 1 := ⟨f - 1, by omega⟩
    have hi2 : i = 11 := by omega
    subst hi2
    have h1 : ¬ zn 11 < 11 := by decide
    exact ⟨t, by simp only [lp_X9_shed_17, bd_X9_shed_17, h1, if_false], hk, zOf.rf⟩
  | succ d ih =>
    intro i f t hi hf hk
    obtain ⟨f, rfl⟩ : ∃ g, f = g + 1 := ⟨f - 1, by omega⟩
    have h1 : zn i < 11 := (zn_lt (b := 11) (by omega) (by omega)).2 (by omega)
    have h2 : ¬ zn i < 0 := zn_neg (by omega)
    have h3 : (zn i).toNatClampNeg = i := zn_cl (by omega)
    have h4 : ¬ 11 ≤ i := by omega
    have pv := plain_v ⟨i, by omega⟩ t
    dsimp only at pv
    have b0 : vp_nar .boolean 0 = (0 : Int32) := rfl
    have e : zOf (fun o k => (o = 66 ∨ o = 70) ∧ k = i) t (zsI (zsI t 66 i (ztabU i)) 70 i 0) := (zOf.rf.sI (by omega)).sI (by omega)
    obtain ⟨t', a1, a2, a3⟩ := ih (i + 1) f (zsI (zsI t 66 i (ztabU i)) 70 i 0) (by omega) (by omega) (fun k hk1 => by
      by_cases hki : k = i
      · subst hki; simp [zI_sI, zI_sL, zI_sR, zL_sI, zL_sL, zL_sR, zR_sI, zR_sL, zR_sR]
      · rw [(e 66 k (by omega)).1, (e 70 k (by omega)).1]; exact hk k (by omega))
    refine ⟨t', ?_, a2, (e.mono (fun o k h => h.1)).tr a3⟩
    simp only [lp_X9_shed_17, bd_X9_shed_17, h1, if_true, pv, zcl_some, zT_64_11, zT_64_15, zN_66, zN_70, h2, h3, h4, or_self, if_false, zlt_eq, b0, zn_succ]
    exact a1
theorem cp1_lp {kk : zSt → Option (Int32 × zSt)} : ∀ (d i f : Nat) (t : zSt), i + d = 11 → d < f → (∀ k, k < i → zI t 67 k = zI t 66 k) → ∃ t', lp_X9_shed_204 64 kk f (zn i) t = kk t' ∧ (∀ k, k < 11 → zI t' 67 k = zI t 66 k) ∧ zOf (fun o _ => o = 67) t t' := by
  intro d
  induction d with
  | zero =>
    intro i f t hi hf hk
    obtain ⟨f, rfl⟩ : ∃ g, f = g + 1 := ⟨f - 1, by omega⟩
    have hi2 : i = 11 := by omega
    subst hi2
    have h1 : ¬ zn 11 < 11 := by decide
    exact ⟨t, by simp only [lp_X9_shed_204, bd_X9_shed_204, h1, if_false], hk, zOf.rf⟩
  | succ d ih =>
    intro i f t hi hf hk
    obtain ⟨f, rfl⟩ : ∃ g, f = g + 1 := ⟨f - 1, by omega⟩
    have h1 : zn i < 11 := (zn_lt (b := 11) (by omega) (by omega)).2 (by omega)
    have h2 : ¬ zn i < 0 := zn_neg (by omega)
    have h3 : (zn i).toNatClampNeg = i := zn_cl (by omega)
    have h4 : ¬ 11 ≤ i := by omega
    have e : zOf (fun o k => o = 67 ∧ k = i) t (zsI t 67 i (zI t 66 i)) := zOf.rf.sI ⟨rfl, rfl⟩
    obtain ⟨t', a1, a2, a3⟩ := ih (i + 1) f (zsI t 67 i (zI t 66 i)) (by omega) (by omega) (fun k hk1 => by
      rw [(e 66 k (by omega)).1]
      by_cases hki : k = i
      · rw [hki, zI_sI, if_pos ⟨rfl, rfl⟩]
      · rw [(e 67 k (by omega)).1]; exact hk k (by omega))
    refine ⟨t', ?_, fun k hk1 => by rw [a2 k hk1, (e 66 k (by omega)).1], (e.mono (fun o k h => h.1)).tr a3⟩
    simp only [lp_X9_shed_204, bd_X9_shed_204, h1, if_true, zT_64_11, zT_64_12, zN_66, zN_67, h2, h3, h4, or_self, if_false, zlt_eq, zn_succ]
    exact a1
theorem cp2_lp {kk : zSt → Option (Int32 × zSt)} : ∀ (d i f : Nat) (t : zSt), i + d = 8 → d < f → (∀ k, k < i → zI t 69 k = zI t 68 k ∧ zI t 105 k = 0) → ∃ t', lp_X9_shed_230 64 kk f (zn i) t = kk t' ∧ (∀ k, k < 8 → zI t' 69 k = zI t 68 k ∧ zI t' 105 k = 0) ∧ zOf (fun o _ => o = 69 ∨ o = 105) t t' := by
  intro d
  induction d with
  | zero =>
    intro i f t hi hf hk
    obtain ⟨f, rfl⟩ : ∃ g, f = g + 1 := ⟨f - 1, by omega⟩
    have hi2 : i = 8 := by omega
    subst hi2
    have h1 : ¬ zn 8 < 8 := by decide
    exact ⟨t, by simp only [lp_X9_shed_230, bd_X9_shed_230, h1, if_false], hk, zOf.rf⟩
  | succ d ih =>
    intro i f t hi hf hk
    obtain ⟨f, rfl⟩ : ∃ g, f = g + 1 := ⟨f - 1, by omega⟩
    have h1 : zn i < 8 := (zn_lt (b := 8) (by omega) (by omega)).2 (by omega)
    have h2 : ¬ zn i < 0 := zn_neg (by omega)
    have h3 : (zn i).toNatClampNeg = i := zn_cl (by omega)
    have h4 : ¬ 8 ≤ i := by omega
    have b0 : vp_nar .boolean 0 = (0 : Int32) := rfl
    have e : zOf (fun o k => (o = 69 ∨ o = 105) ∧ k = i) t (zsI (zsI t 69 i (zI t 68 i)) 105 i 0) := (zOf.rf.sI (by omega)).sI (by omega)
    obtain ⟨t', a1, a2, a3⟩ := ih (i + 1) f (zsI (zsI t 69 i (zI t 68 i)) 105 i 0) (by omega) (by omega) (fun k hk1 => by
      rw [(e 68 k (by omega)).1]
      by_cases hki : k = i
      · subst hki; simp [zI_sI, zI_sL, zI_sR, zL_sI, zL_sL, zL_sR, zR_sI, zR_sL, zR_sR]
      · rw [(e 69 k (by omega)).1, (e 105 k (by omega)).1]; exact hk k (by omega))
    refine ⟨t', ?_, fun k hk1 => by rw [← (e 68 k (by omega)).1]; exact a2 k hk1, (e.mono (fun o k h => h.1)).tr a3⟩
    simp only [lp_X9_shed_230, bd_X9_shed_230, h1, if_true, zT_64_13, zT_64_14, zT_64_69, zN_68, zN_69, zN_105, h2, h3, h4, or_self, if_false, zlt_eq, b0, zn_succ]
    exact a1
