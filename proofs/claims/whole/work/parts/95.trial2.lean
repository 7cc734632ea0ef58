theorem tr81F {t : zSt} (h : 0 < zI t 64 2) (w : Int64) (b : Int32) : lp_X9_readTrial_81 64 (fun l2 l4 s => m_X9_readTrial_158 64 l2 l4 s) zFuel w b t = some t := by
  have hz : ¬ zI t 64 2 = 0 := fun hz => by rw [hz] at h; exact absurd h (by decide)
  obtain ⟨f, hf⟩ : ∃ f, zFuel = f + 1 := ⟨999999, rfl⟩
  rw [hf]
  simp only [lp_X9_readTrial_81, bd_X9_readTrial_81, hz, if_false, m_X9_readTrial_158, h, if_true]
theorem trial_step {B : Nat → Nat} {N p : Nat} {s t : zSt} (h : rkC B N false p s) (h' : rkM B N false p t) {S nc nt nl tb : Nat} (hS : isS S) {a : Nat → Int} {Wc Wt : Nat → List Nat} {sh : Nat → Nat} (hC : sdC S nc nt nl tb a Wc Wt sh s) (hM : sdM nc nt nl tb a Wc Wt sh t) (hO : sdO nc nt tb a Wc Wt sh) (hk : tkd B N false p = 268) (h8 : nt < 8) :
    ∃ r s1 t1, m_X0_readTrial (S + 1) 3 s = some (r, s1) ∧ m_X9_readTrial 64 t = some t1 ∧ cOut B N p S nl r s1 t1 ∧ zOf (gShC S) s s1 ∧ zOf gShM t t1 := by
  obtain ⟨⟨-, S1, S2⟩, ⟨-, -, -, t3, t4, -⟩, ⟨-, -, n3, n4, -⟩⟩ := hS.c3
  obtain ⟨O1, O2, O3, O4, O5, O6, O7⟩ := hO
  have one0 : ¬ (1 : Int32) = 0 := by decide
  have l8 : zn nt < 8 := (zn_lt (b := 8) (by omega) (by omega)).2 h8
  obtain ⟨s1, a1, a2, a3⟩ := advC h
  obtain ⟨u1, b1, b2, b3⟩ := tokM h' (by omega)
  have hC1 := hC.of (s' := s1) (fun o j h1 h2 => ⟨(a3 o j (by unfold gPC; omega)).1, (a3 o j (by unfold gPC; omega)).2.1⟩)
  have hM1 := hM.of (t' := u1) (fun o j hg => ⟨(b3 o j (by unfold gSdM at hg; unfold gPM; omega)).1, (b3 o j (by unfold gSdM at hg; unfold gPM; omega)).2.1⟩)
  obtain ⟨r2, s2, c1, c2, c3⟩ := newNameC a2 (o := S + 3) (n := nt) n3 h8 (by omega) (by omega) O5 hC1.2.2.1.2
  obtain ⟨x, y1, y2⟩ := tri_lp (t := u1) O2 hM1.2.1.2 nt 0 zFuel false (by omega) (by unfold zFuel; omega)
  have y1' : ∀ kk, lp_X9_readTrial_8 64 kk zFuel 0 0 u1 = kk (zn x.toNat) u1 := y1
  obtain ⟨w2, u2, d1, d2, d3⟩ := namedM b2 x
  have fs2 : zOf (gShC S) s s2 := (a3.mono (fun o k hw => Or.inl hw)).tr (c3.mono (fun o k hw => hw.elim Or.inl (fun q => Or.inr (by omega))))
  have fu2 : zOf gShM t u2 := (b3.mono (fun o k hw => Or.inl hw)).tr (d3.mono (fun o k hw => Or.inl hw))
  have yk : tkd B N false (tnx B N p) = 2 → (x = true ↔ ∃ k, k < nt ∧ Wt k = twd B N (tnx B N p)) := fun hk => by
    have hw := (tkd_w (Or.inl hk) (fun k hk => (b2.2.1.2.2 k hk).1) b2.1).1
    rw [y2, b2.2.2.2.1.2.2.2.2 (Or.inl hk)]
    constructor
    · rintro (h | ⟨k, -, k1, k2⟩)
      · exact absurd h (by decide)
      · rw [hM1.2.2.1.2 k k1, nm256 (O5.1 k k1) hw] at k2
        exact ⟨k, k1, k2⟩
    · rintro ⟨k, k1, k2⟩
      exact Or.inr ⟨k, by omega, k1, by rw [hM1.2.2.1.2 k k1, nm256 (O5.1 k k1) hw]; exact k2⟩
  have two : (∃ f pl, f ≠ 0 ∧ f < 100 ∧ r2 = 0 ∧ flC f pl s2 ∧ flM f pl u2) ∨ (tkd B N false (tnx B N p) = 2 ∧ (∀ k, k < nt → Wt k ≠ twd B N (tnx B N p)) ∧ r2 = 1 ∧ rkC B N false (tnx B N (tnx B N p)) s2 ∧ zL s2 (S + 3) nt = zq (c27 (twd B N (tnx B N p)) : Int) ∧ rkM B N false (tnx B N (tnx B N p)) u2 ∧ w2 = zq (c256 (twd B N (tnx B N p)) : Int)) := by
    rcases c2 with ⟨x1, x2, x3, x4, x5⟩ | ⟨x1, x2, x3, x4⟩ | ⟨x1, x3, x4⟩
    · rcases d2 with ⟨z1, z2, z3, z4⟩ | ⟨z1, z2, z3⟩ | ⟨z1, z3⟩
      · exact Or.inr ⟨x1, x2, x3, x4, x5, z3, z4⟩
      · obtain ⟨k, q1, q2⟩ := (yk x1).1 z2
        exact absurd q2 (x2 k q1)
      · exact absurd x1 z1
    · rcases d2 with ⟨z1, z2, z3, z4⟩ | ⟨z1, z2, z3⟩ | ⟨z1, z3⟩
      · rw [(yk x1).2 x2] at z2; exact absurd z2 (by decide)
      · exact Or.inl ⟨3, _, by omega, by omega, x3, x4, z3⟩
      · exact absurd x1 z1
    · rcases d2 with ⟨z1, z2, z3, z4⟩ | ⟨z1, z2, z3⟩ | ⟨z1, z3⟩
      · exact absurd z1 x1
      · exact absurd z1 x1
      · exact Or.inl ⟨_, _, fc_ne (by omega), fc_lt (by omega), x3, x4, z3⟩
  rcases two with ⟨f, pl, hf0, hf1, hr, hfc, hfm⟩ | ⟨k2, w1, e2, w3, w4, w5, w6⟩
  · have hp := hfm.pos hf0 hf1
    have hz : ¬ zI u2 64 2 = 0 := fun hz => by rw [hz] at hp; exact absurd hp (by decide)
    refine ⟨0, s2, u2, ?_, ?_, Or.inr ⟨rfl, f, pl, hf0, hf1, hfc, hfm⟩, fs2, fu2⟩
    · simp only [m_X0_readTrial, hC.2.1.2.1, l8, if_true, a1, zcv_some, t3, hC1.2.1.2.1, c1, zcl_some, hr]
    · simp only [m_X9_readTrial, b1, zcv_some, y1', d1, zcl_some, wantF hp, hz, if_false, tr81F hp]
  have hw0 : okW (twd B N (tnx B N p)) := (tkd_w (Or.inl k2) (fun k hk => (b2.2.1.2.2 k hk).1) b2.1).1
  have pl1 := nx_lt (B := B) (sm := false) h.1 (by omega)
  have pl2 := nx_lt (B := B) (sm := false) a2.1 (by omega)
  generalize twd B N (tnx B N p) = w0 at *
  generalize tnx B N (tnx B N p) = p2 at *
  -- shows
  obtain ⟨s3, a31, a32, a33, a34⟩ := takeC w3 (k := 269) (by omega)
  have A3 : m_X3_take 3 269 s2 = _ := a31
  obtain ⟨u3, b31, b32, b33, b34⟩ := wantM w5 (i := 13) (by omega)
  have B3 : m_X9_want 64 495673374579 u2 = some u3 := b31
  have fs3 : zOf (gShC S) s s3 := fs2.tr (a34.mono (fun o k hw => Or.inl hw))
  have fu3 : zOf gShM t u3 := fu2.tr (b34.mono (fun o k hw => Or.inl hw))
  by_cases k3 : tkd B N false p2 = 269
  rotate_left
  · have hp := (b33 k3).pos (fc_ne (by omega)) (fc_lt (by omega))
    have hz : ¬ zI u3 64 2 = 0 := fun hz => by rw [hz] at hp; exact absurd hp (by decide)
    refine ⟨0, s3, u3, ?_, ?_, Or.inr ⟨rfl, _, _, fc_ne (by omega), fc_lt (by omega), a33 k3, b33 k3⟩, fs3, fu3⟩
    · simp only [m_X0_readTrial, hC.2.1.2.1, l8, if_true, a1, zcv_some, t3, hC1.2.1.2.1, c1, zcl_some, e2, one0, if_false, A3, k3]
    · simp only [m_X9_readTrial, b1, zcv_some, y1', d1, zcl_some, B3, hz, if_false, tr81F hp]
  replace a32 := a32 k3
  replace b32 := b32 k3
  have z0 : zI u3 64 2 = 0 := b32.2.2.2.2.1
  have cS : ∀ o j, S ≤ o → o ≤ S + 6 → ¬ (o = S + 3 ∧ j = nt) → zI s3 o j = zI s o j ∧ zL s3 o j = zL s o j := fun o j h1 h2 h3 => by
    have q1 := a34 o j (by unfold gPC; omega)
    have q2 := c3 o j (by unfold gPC; omega)
    have q3 := a3 o j (by unfold gPC; omega)
    exact ⟨by rw [q1.1, q2.1, q3.1], by rw [q1.2.1, q2.2.1, q3.2.1]⟩
  have cU : ∀ o j, gSdM o j → zI u3 o j = zI t o j ∧ zL u3 o j = zL t o j := fun o j hg => by
    have q1 := b34 o j (by unfold gSdM at hg; unfold gPM; omega)
    have q2 := d3 o j (by unfold gSdM at hg; unfold gPM; omega)
    have q3 := b3 o j (by unfold gSdM at hg; unfold gPM; omega)
    exact ⟨by rw [q1.1, q2.1, q3.1], by rw [q1.2.1, q2.2.1, q3.2.1]⟩
  have CL : m_X0_readTrial (S + 1) 3 s = lp_X0_readTrial_50 (S + 1) 3 (fun l2_15 s_15 => m_X0_readTrial_144 (S + 1) 3 l2_15 s_15) zFuel 0 0 s3 := by
    simp only [m_X0_readTrial, hC.2.1.2.1, l8, if_true, a1, zcv_some, t3, hC1.2.1.2.1, c1, zcl_some, e2, one0, if_false, A3, k3]
  have nm3 : zL s3 (S + 3) nt = zq (c27 w0 : Int) := (a34 (S + 3) nt (by unfold gPC; omega)).2.1.trans w4
  by_cases k4 : tkd B N false (tnx B N p2) = 2
  rotate_left
  · obtain ⟨s4, q1, q2, q3⟩ := refC a32 2
    have Q1 : m_X3_refuse 3 2 s3 = some (0, s4) := q1
    obtain ⟨u4, v1, v2, v3⟩ := wrM b32 2
    have V1 : m_X9_wrong 64 2 u3 = some u4 := v1
    have hp := v2.pos (fc_ne (by omega)) (fc_lt (by omega))
    have e24 : zI s3 3 4 = 2 ↔ tkd B N false (tnx B N p2) = 2 := a32.kd (k := 2) (by omega)
    refine ⟨0, s4, u4, ?_, ?_, Or.inr ⟨rfl, _, _, fc_ne (by omega), fc_lt (by omega), q2, v2⟩, fs3.tr (q3.mono (fun o k hw => Or.inl hw)), fu3.tr (v3.mono (fun o k hw => Or.inl hw))⟩
    · rw [CL]
      obtain ⟨f, hf⟩ : ∃ f, zFuel = f + 1 := ⟨999999, rfl⟩
      rw [hf]
      simp only [lp_X0_readTrial_50, bd_X0_readTrial_50, show ¬ (8 : Int32) < 0 by decide, if_false, if_true, m_X0_readTrial_68, e24, k4, Q1, zcl_some, true_or]
    · simp only [m_X9_readTrial, b1, zcv_some, y1', d1, zcl_some, B3, z0, if_true, isName_eq b32, k4, if_false, V1, tr81F hp]
  obtain ⟨s4, u4, g1, g2, g3⟩ := tr_lp hS O1 O4 (w := w2) (kC := fun l2_15 s_15 => m_X0_readTrial_144 (S + 1) 3 l2_15 s_15) (kM := fun l2_20 l4_20 s_20 => m_X9_readTrial_158 64 l2_20 l4_20 s_20) 9 0 0 (tnx B N p2) zFuel zFuel s3 u3 (by omega) (by unfold zFuel; omega) (by unfold zFuel; omega) (by omega) (Nat.two_pow_pos nc) (by decide) (fun _ => k4) a32 b32 ((cS (S + 1) 0 (by omega) (by omega) (by omega)).1.trans hC.2.1.1) (fun k hk => (cS (S + 2) k (by omega) (by omega) (by omega)).2.trans (hC.2.2.1.1 k hk)) ((cU 64 18 (by unfold gSdM; omega)).1.trans hM.2.1.1) (fun k hk => (cU 71 k (by unfold gSdM; omega)).2.trans (hM.2.2.1.1 k hk))
  have ML : m_X9_readTrial 64 t = lp_X9_readTrial_81 64 (fun l2_20 l4_20 s_20 => m_X9_readTrial_158 64 l2_20 l4_20 s_20) zFuel w2 0 u3 := by
    simp only [m_X9_readTrial, b1, zcv_some, y1', d1, zcl_some, B3, z0, if_true, isName_eq b32, k4, one0, if_false]
  have fs4 : zOf (gShC S) s s4 := fs3.tr (g2.mono (fun o k hw => Or.inl hw))
  have fu4 : zOf gShM t u4 := fu3.tr (g3.mono (fun o k hw => Or.inl hw))
  rcases g1 with ⟨p', b', q1, q2, q3, q4, q5, q6⟩ | ⟨f, pl, q1, q2, q3, q4, q5, q6⟩
  rotate_left
  · exact ⟨0, s4, u4, CL.trans q5, ML.trans q6, Or.inr ⟨rfl, f, pl, q1, q2, q3, q4⟩, fs4, fu4⟩
  have pl3 := tnx_bd (B := B) w3.1
  have i1 : zI s4 (S + 1) 1 = zn nt := (g2 (S + 1) 1 (by unfold gPC; omega)).1.trans ((cS (S + 1) 1 (by omega) (by omega) (by omega)).1.trans hC.2.1.2.1)
  have m19 : zI u4 64 19 = zn nt := (g3 64 19 (by unfold gPM; omega)).1.trans ((cU 64 19 (by unfold gSdM; omega)).1.trans hM.2.1.2)
  have nf : ¬ 0 < zI u4 64 2 := by rw [q4.2.2.2.2.1]; decide
  have gg2 : ¬ zn nt < 0 := zn_neg (by omega)
  have gg3 : (zn nt).toNatClampNeg = nt := zn_cl (by omega)
  have gg4 : ¬ 8 ≤ nt := by omega
  have e5 : zOf (fun o j => (o = S + 4 ∧ j = nt) ∨ (o = S + 1 ∧ j = 1)) s4 (zsI (zsI s4 (S + 4) nt (zn b')) (S + 1) 1 (zn (nt + 1))) := (zOf.rf.sI (Or.inl ⟨rfl, rfl⟩)).sI (Or.inr ⟨rfl, rfl⟩)
  have e6 : zOf (fun o j => (o = 72 ∧ j = nt) ∨ (o = 68 ∧ j = nt) ∨ (o = 64 ∧ j = 19)) u4 (zsI (zsI (zsL u4 72 nt w2) 68 nt (zn b')) 64 19 (zn (nt + 1))) := ((zOf.rf.sL (Or.inl ⟨rfl, rfl⟩)).sI (Or.inr (Or.inl ⟨rfl, rfl⟩))).sI (Or.inr (Or.inr ⟨rfl, rfl⟩))
  have fC : ∀ o j, S ≤ o → o ≤ S + 6 → ¬ (o = S + 1 ∧ j = 1) → ¬ (o = S + 3 ∧ j = nt) → ¬ (o = S + 4 ∧ j = nt) → zI (zsI (zsI s4 (S + 4) nt (zn b')) (S + 1) 1 (zn (nt + 1))) o j = zI s o j ∧ zL (zsI (zsI s4 (S + 4) nt (zn b')) (S + 1) 1 (zn (nt + 1))) o j = zL s o j := fun o j h1 h2 h3 h4 h5 => by
    have q1 := e5 o j (by omega)
    have q2 := g2 o j (by unfold gPC; omega)
    have q3 := cS o j h1 h2 h4
    exact ⟨by rw [q1.1, q2.1, q3.1], by rw [q1.2.1, q2.2.1, q3.2]⟩
  have fM : ∀ o j, gSdM o j → ¬ (o = 72 ∧ j = nt) → ¬ (o = 68 ∧ j = nt) → ¬ (o = 64 ∧ j = 19) → zI (zsI (zsI (zsL u4 72 nt w2) 68 nt (zn b')) 64 19 (zn (nt + 1))) o j = zI t o j ∧ zL (zsI (zsI (zsL u4 72 nt w2) 68 nt (zn b')) 64 19 (zn (nt + 1))) o j = zL t o j := fun o j hg h3 h4 h5 => by
    have q1 := e6 o j (by omega)
    have q2 := g3 o j (by unfold gSdM at hg; unfold gPM; omega)
    have q3 := cU o j hg
    exact ⟨by rw [q1.1, q2.1, q3.1], by rw [q1.2.1, q2.2.1, q3.2]⟩
  obtain ⟨⟨A1, A2⟩, ⟨A3', A4, A5, A6⟩, ⟨A7, A8⟩, A9, A10⟩ := hC
  obtain ⟨⟨M1, M2⟩, ⟨M3, M4⟩, ⟨M5, M6⟩, M7, M8⟩ := hM
  refine ⟨1, zsI (zsI s4 (S + 4) nt (zn b')) (S + 1) 1 (zn (nt + 1)), zsI (zsI (zsL u4 72 nt w2) 68 nt (zn b')) 64 19 (zn (nt + 1)), ?_, ?_, Or.inl ⟨rfl, p', nc, nt + 1, tb, a, Wc, up Wt nt w0, up sh nt b', by omega, q3.of e5 (fun o j hw => by unfold gRdC; omega), q4.of e6 (fun o j hw => by unfold gRdM; omega), ⟨⟨?_, ?_⟩, ⟨?_, ?_, ?_, ?_⟩, ⟨fun k hk => ?_, fun k hk => ?_⟩, fun k hk => ?_, fun k hk => ?_⟩, ⟨⟨?_, fun k hk => ?_⟩, ⟨?_, ?_⟩, ⟨fun k hk => ?_, fun k hk => ?_⟩, fun k hk => ?_, fun k hk => ?_⟩, ⟨O1, by omega, O3, O4, nmL_up O5 hw0 w1, fun k hk => ?_, O7⟩⟩, fs4.tr (e5.mono (fun o j hw => Or.inr (by omega))), fu4.tr (e6.mono (fun o j hw => Or.inr (by unfold gSdM; omega)))⟩
  · rw [CL]
    refine Eq.trans q5 ?_
    have i1' : zI (zsI s4 (S + 4) nt (zn b')) (S + 1) 1 = zn nt := by rw [zI_sI, if_neg (by omega)]; exact i1
    simp only [m_X0_readTrial_144, i1, t4, n4, gg2, gg3, gg4, or_self, if_false, zlt_eq, i1', zn_succ]
  · rw [ML]
    refine Eq.trans q6 ?_
    have i1' : zI (zsL u4 72 nt w2) 64 19 = zn nt := by rw [zI_sL]; exact m19
    have i2' : zI (zsI (zsL u4 72 nt w2) 68 nt (zn b')) 64 19 = zn nt := by rw [zI_sI, if_neg (by omega)]; exact i1'
    simp only [m_X9_readTrial_158, nf, if_false, m19, zT_64_17, zT_64_13, zN_72, zN_68, gg2, gg3, gg4, or_self, zlt_eq, i1', i2', zn_succ]
  · exact (fC S 0 (by omega) (by omega) (by omega) (by omega) (by omega)).1.trans A1
  · exact (fC S 3 (by omega) (by omega) (by omega) (by omega) (by omega)).1.trans A2
  · exact (fC (S + 1) 0 (by omega) (by omega) (by omega) (by omega) (by omega)).1.trans A3'
  · rw [zI_sI, if_pos ⟨rfl, rfl⟩]
  · exact (fC (S + 1) 6 (by omega) (by omega) (by omega) (by omega) (by omega)).1.trans A5
  · exact (fC (S + 1) 7 (by omega) (by omega) (by omega) (by omega) (by omega)).1.trans A6
  · exact (fC (S + 2) k (by omega) (by omega) (by omega) (by omega) (by omega)).2.trans (A7 k hk)
  · by_cases hkn : k = nt
    · rw [hkn, up_eq, (e5 (S + 3) nt (by omega)).2.1, (g2 (S + 3) nt (by unfold gPC; omega)).2.1]; exact nm3
    · rw [up_ne _ _ (show k < nt by omega)]
      exact (fC (S + 3) k (by omega) (by omega) (by omega) (by omega) (by omega)).2.trans (A8 k (by omega))
  · by_cases hkn : k = nt
    · rw [hkn, up_eq, zI_sI, if_neg (by omega), zI_sI, if_pos ⟨rfl, rfl⟩]
    · rw [up_ne _ _ (show k < nt by omega)]
      exact (fC (S + 4) k (by omega) (by omega) (by omega) (by omega) (by omega)).1.trans (A9 k (by omega))
  · exact (fC (S + 6) k (by omega) (by omega) (by omega) (by omega) (by omega)).1.trans (A10 k hk)
  · exact (fM 64 20 (by unfold gSdM; omega) (by omega) (by omega) (by omega)).1.trans M1
  · exact (fM 70 k (by unfold gSdM; omega) (by omega) (by omega) (by omega)).1.trans (M2 k hk)
  · exact (fM 64 18 (by unfold gSdM; omega) (by omega) (by omega) (by omega)).1.trans M3
  · rw [zI_sI, if_pos ⟨rfl, rfl⟩]
  · exact (fM 71 k (by unfold gSdM; omega) (by omega) (by omega) (by omega)).2.trans (M5 k hk)
  · by_cases hkn : k = nt
    · rw [hkn, up_eq, zL_sI, zL_sI, zL_sL, if_pos ⟨rfl, rfl⟩, w6]
    · rw [up_ne _ _ (show k < nt by omega)]
      exact (fM 72 k (by unfold gSdM; omega) (by omega) (by omega) (by omega)).2.trans (M6 k (by omega))
  · by_cases hkn : k = nt
    · rw [hkn, up_eq, zI_sI, if_neg (by omega), zI_sI, if_pos ⟨rfl, rfl⟩]
    · rw [up_ne _ _ (show k < nt by omega)]
      exact (fM 68 k (by unfold gSdM; omega) (by omega) (by omega) (by omega)).1.trans (M7 k (by omega))
  · exact (fM 66 k (by unfold gSdM; omega) (by omega) (by omega) (by omega)).1.trans (M8 k hk)
  · by_cases hkn : k = nt
    · rw [hkn, up_eq]; exact q2
    · rw [up_ne _ _ (show k < nt by omega)]
      exact O6 k (by omega)
