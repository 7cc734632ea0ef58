/-! the shed: a line -/
theorem which_set {B : Nat → Nat} {N p : Nat} {t : zSt} (h : rkM B N false p t) {j : Nat} (hj : j = 0 ∨ (3 ≤ j ∧ j ≤ 10)) (hk : tkd B N false p = 256 + j) : m_X9_which 64 t = some (zn j, t) := by
  have w0 : m_X9_isWord 64 1650551916 t = _ := isWord_eq h (i := 0) (by omega)
  have w3 : m_X9_isWord 64 7499620 t = _ := isWord_eq h (i := 3) (by omega)
  have w4 : m_X9_isWord 64 2003399269 t = _ := isWord_eq h (i := 4) (by omega)
  have w5 : m_X9_isWord 64 1684106608 t = _ := isWord_eq h (i := 5) (by omega)
  have w6 : m_X9_isWord 64 491327153267 t = _ := isWord_eq h (i := 6) (by omega)
  have w7 : m_X9_isWord 64 2053468783 t = _ := isWord_eq h (i := 7) (by omega)
  have w8 : m_X9_isWord 64 427121010032 t = _ := isWord_eq h (i := 8) (by omega)
  have w9 : m_X9_isWord 64 2002874989 t = _ := isWord_eq h (i := 9) (by omega)
  have w10 : m_X9_isWord 64 1769107310 t = _ := isWord_eq h (i := 10) (by omega)
  rw [hk] at w0 w3 w4 w5 w6 w7 w8 w9 w10
  rcases (show j = 0 ∨ j = 3 ∨ j = 4 ∨ j = 5 ∨ j = 6 ∨ j = 7 ∨ j = 8 ∨ j = 9 ∨ j = 10 by omega) with rfl | rfl | rfl | rfl | rfl | rfl | rfl | rfl | rfl <;> simp [m_X9_which, w0, w3, w4, w5, w6, w7, w8, w9, w10, zcl_some] <;> rfl
theorem which_no {B : Nat → Nat} {N p : Nat} {t : zSt} (h : rkM B N false p t) (hk : tkd B N false p ≠ 256 ∧ (tkd B N false p < 259 ∨ 266 < tkd B N false p)) : m_X9_which 64 t = some (-1, t) := by
  have w0 : m_X9_isWord 64 1650551916 t = _ := isWord_eq h (i := 0) (by omega)
  have w3 : m_X9_isWord 64 7499620 t = _ := isWord_eq h (i := 3) (by omega)
  have w4 : m_X9_isWord 64 2003399269 t = _ := isWord_eq h (i := 4) (by omega)
  have w5 : m_X9_isWord 64 1684106608 t = _ := isWord_eq h (i := 5) (by omega)
  have w6 : m_X9_isWord 64 491327153267 t = _ := isWord_eq h (i := 6) (by omega)
  have w7 : m_X9_isWord 64 2053468783 t = _ := isWord_eq h (i := 7) (by omega)
  have w8 : m_X9_isWord 64 427121010032 t = _ := isWord_eq h (i := 8) (by omega)
  have w9 : m_X9_isWord 64 2002874989 t = _ := isWord_eq h (i := 9) (by omega)
  have w10 : m_X9_isWord 64 1769107310 t = _ := isWord_eq h (i := 10) (by omega)
  rw [if_neg (by omega)] at w0 w3 w4 w5 w6 w7 w8 w9 w10
  simp only [m_X9_which, w0, w3, w4, w5, w6, w7, w8, w9, w10, zcl_some, if_true]
theorem toldC {B : Nat → Nat} {N p : Nat} {s : zSt} (h : rkC B N false p s) {S : Nat} {k tb : Nat} (hk : k < 11) (htb : tb < 2048) (c3 : zI s S 3 = zn tb) (hb : tb.testBit k = true) : ∃ s', m_X5_readSetting S 3 (zn (256 + k)) s = some (0, s') ∧ flC (fc (tkd B N false p) 2) (tpl B N p) s' ∧ zOf gPC s s' := by
  obtain ⟨z1, z2, z3, z4⟩ := z256 ⟨k, hk⟩
  dsimp only at z1 z2 z3 z4
  have hs1 : ((zn tb >>> (zn k &&& 31)) &&& 1 = 1) = True := eq_true (by rw [zn_shr (by omega) (by omega), hb]; rfl)
  obtain ⟨s', a1, a2, a3⟩ := refC h 2
  have A1 : m_X3_refuse 3 2 s = some (0, s') := a1
  refine ⟨s', ?_, a2, a3⟩
  simp only [m_X5_readSetting, m_X5_readSetting_28, z1, z2, if_false, z3, if_true, c3, hs1, A1, zcl_some, true_or]
theorem line_set {S : Nat} {s : zSt} {j : Nat} (hj : 3 ≤ j ∧ j ≤ 10) (hz : zI s 3 4 = zn (256 + j)) : m_X5_readLine S 3 s = zcl (m_X5_readSetting S 3 (zn (256 + j)) s) (fun r s => m_X5_readLine_143 S 3 r s) := by
  unfold m_X5_readLine
  rw [hz]
  rcases (show j = 3 ∨ j = 4 ∨ j = 5 ∨ j = 6 ∨ j = 7 ∨ j = 8 ∨ j = 9 ∨ j = 10 by omega) with rfl | rfl | rfl | rfl | rfl | rfl | rfl | rfl
  · rw [if_neg (by decide), if_pos (by decide)]
  · rw [if_neg (by decide), if_neg (by decide), if_pos (by decide)]
  · rw [if_neg (by decide), if_neg (by decide), if_neg (by decide), if_pos (by decide)]
  · rw [if_neg (by decide), if_neg (by decide), if_neg (by decide), if_neg (by decide), if_pos (by decide)]
  · rw [if_neg (by decide), if_neg (by decide), if_neg (by decide), if_neg (by decide), if_neg (by decide), if_pos (by decide)]
  · rw [if_neg (by decide), if_neg (by decide), if_neg (by decide), if_neg (by decide), if_neg (by decide), if_neg (by decide), if_pos (by decide)]
  · rw [if_neg (by decide), if_neg (by decide), if_neg (by decide), if_neg (by decide), if_neg (by decide), if_neg (by decide), if_neg (by decide), if_pos (by decide)]
  · rw [if_neg (by decide), if_neg (by decide), if_neg (by decide), if_neg (by decide), if_neg (by decide), if_neg (by decide), if_neg (by decide), if_neg (by decide), if_pos (by decide)]
theorem line_step {B : Nat → Nat} {N p : Nat} {s t : zSt} (h : rkC B N false p s) (h' : rkM B N false p t) {S nc nt nl tb : Nat} (hS : isS S) {a : Nat → Int} {Wc Wt : Nat → List Nat} {sh : Nat → Nat} (hC : sdC S nc nt nl tb a Wc Wt sh s) (hM : sdM nc nt nl tb a Wc Wt sh t) (hO : sdO nc nt tb a Wc Wt sh) (hk0 : tkd B N false p ≠ 0) :
    ∃ r s1 t1, m_X5_readLine S 3 s = m_X5_readLine_143 S 3 r s1 ∧ (∀ rec kk, bd_X9_shed_51 64 rec kk t = m_X9_shed_148 64 rec kk t1) ∧ cOut B N p S nl r s1 t1 ∧ zOf (gShC S) s s1 ∧ zOf gShM t t1 := by
  obtain ⟨⟨-, S1, S2⟩, ⟨t1', t2', -⟩, ⟨n6, -⟩⟩ := hS.c3
  have hkl := h.lt
  have z0 : zI t 64 2 = 0 := h'.2.2.2.2.1
  have m0 : ¬ zI t 64 6 = 0 := fun x => hk0 ((msr_0 _).1 ((h'.so (k := 0) (by omega)).1 x))
  have w11 : m_X9_isWord 64 426836849509 t = _ := isWord_eq h' (i := 11) (by omega)
  have w12 : m_X9_isWord 64 500135715180 t = _ := isWord_eq h' (i := 12) (by omega)
  have one0 : ¬ (1 : Int32) = 0 := by decide
  have hz : zI s 3 4 = zn (tkd B N false p) := h.2.2.2.2.1.1
  have gP : ∀ {x y : zSt}, zOf gPC x y → zOf (gShC S) x y := fun e => e.mono (fun o j hw => Or.inl hw)
  have gQ : ∀ {x y : zSt}, zOf gPM x y → zOf gShM x y := fun e => e.mono (fun o j hw => Or.inl hw)
  -- a plain refusal
  have wrongly : (∀ s1, m_X3_refuse 3 2 s = some (0, s1) → m_X5_readLine S 3 s = some (0, s1)) → (∀ rec kk, bd_X9_shed_51 64 rec kk t = m_X9_shed_143 64 rec kk t) → ∃ r s1 t1, m_X5_readLine S 3 s = m_X5_readLine_143 S 3 r s1 ∧ (∀ rec kk, bd_X9_shed_51 64 rec kk t = m_X9_shed_148 64 rec kk t1) ∧ cOut B N p S nl r s1 t1 ∧ zOf (gShC S) s s1 ∧ zOf gShM t t1 := by
    intro x1 x2
    obtain ⟨s1, a1, a2, a3⟩ := refC h 2
    obtain ⟨u1, b1, b2, b3⟩ := wrM h' 2
    have B1 : m_X9_wrong 64 2 t = some u1 := b1
    refine ⟨0, s1, u1, ?_, fun rec kk => ?_, Or.inr ⟨rfl, _, _, fc_ne (by omega), fc_lt (by omega), a2, b2⟩, gP a3, gQ b3⟩
    · rw [x1 s1 a1]; simp only [m_X5_readLine_143, if_true]
    · rw [x2]; simp only [m_X9_shed_143, B1, zcv_some]
  by_cases hset : tkd B N false p = 256 ∨ (259 ≤ tkd B N false p ∧ tkd B N false p ≤ 266)
  · -- a setting
    obtain ⟨j, hj, hkj⟩ : ∃ j, (j = 0 ∨ (3 ≤ j ∧ j ≤ 10)) ∧ tkd B N false p = 256 + j := ⟨tkd B N false p - 256, by omega, by omega⟩
    have hj11 : j < 11 := by omega
    have hw := which_set h' hj hkj
    have g2 : ¬ zn j < 0 := zn_neg (by omega)
    have g3 : (zn j).toNatClampNeg = j := zn_cl (by omega)
    have g4 : ¬ 11 ≤ j := by omega
    rw [hkj] at hz
    by_cases hb : tb.testBit j = true
    · -- told already
      have x70 : ¬ zI t 70 j = 0 := by rw [hM.1.2 j hj11, hb]; decide
      obtain ⟨s1, a1, a2, a3⟩ := toldC h hj11 hO.2.2.1 hC.1.2 hb
      obtain ⟨u1, b1, b2, b3⟩ := wrM h' 2
      have B1 : m_X9_wrong 64 2 t = some u1 := b1
      refine ⟨0, s1, u1, ?_, fun rec kk => ?_, Or.inr ⟨rfl, _, _, fc_ne (by omega), fc_lt (by omega), a2, b2⟩, gP a3, gQ b3⟩
      · rcases hj with rfl | hj
        · have hz' : zI s 3 4 = 256 := hz
          have a1' : m_X5_readSetting S 3 256 s = some (0, s1) := a1
          simp only [m_X5_readLine, m_X5_readLine_95, m_X5_readLine_96, hz', if_true, a1', zcl_some]
        · rw [line_set hj hz, a1, zcl_some]
      · simp only [bd_X9_shed_51, z0, if_true, m0, if_false, hw, zcl_some, g2, g3, zT_64_15, zN_70, g4, or_self, x70, m_X9_shed_91, m_X9_shed_117, m_X9_shed_143, w11, w12, hkj, show ¬ 256 + j = 256 + 11 by omega, show ¬ 256 + j = 256 + 12 by omega, B1, zcv_some]
    · have hbf : tb.testBit j = false := by cases hh : tb.testBit j; rfl; exact absurd hh hb
      have x70 : zI t 70 j = 0 := by rw [hM.1.2 j hj11, hbf]; rfl
      obtain ⟨r, s1, a1, a2, a3, a4⟩ := setC h hS hj11 hO.2.2.1 hC.1.2 hbf
      obtain ⟨u1, b1, b2, b3, b4⟩ := setM h' (by omega) hj11 (by omega)
      have redM : ∀ rec kk, bd_X9_shed_51 64 rec kk t = zcv (m_X9_readTold_73 64 (zn j) u1) (fun s22 => m_X9_shed_148 64 rec kk s22) := fun rec kk => by
        simp only [bd_X9_shed_51, z0, if_true, m0, if_false, hw, zcl_some, g2, g3, zT_64_15, zN_70, g4, or_self, x70, b1]
      have fs1 : zOf (gShC S) s s1 := a4.mono (fun o j hw => hw.elim Or.inl (fun q => Or.inr (by omega)))
      have fu1 : zOf gShM t u1 := b4.mono (fun o j hw => hw.elim Or.inl (fun q => Or.inr (by unfold gSdM; omega)))
      have pl1 := nx_lt (B := B) (sm := false) h.1 hk0
      have pl2 := nS_le (B := B) (N := N) (k := j) (p := tnx B N p) (tnx_bd (B := B) h.1).2.1
      have htb' : tb ||| 2 ^ j < 2048 := or_lt (n := 11) hO.2.2.1 hj11
      rcases a2 with ⟨x1, x2, x3, x4⟩ | ⟨x1, x2, x3⟩
      · rcases b2 with ⟨-, y2, y3⟩ | ⟨y1, -⟩
        rotate_left
        · exact absurd x1 y1
        have hC1 := hC.set a4 (by omega) a3 x4
        have hM1 := hM.set b4 b3 y3
        have vb := vS_in x1
        rcases hj with rfl | hj
        · -- ball, then near and far
          obtain ⟨r2, s2, u2, c1, c2, c3, c4, c5⟩ := near_far x3 y2 hS
          have c2' : m_X9_readTold_73 64 (zn 0) u1 = some u2 := c2
          have hz' : zI s 3 4 = 256 := hz
          have a1' : m_X5_readSetting S 3 256 s = some (r, s1) := a1
          have fs2 : zOf (gShC S) s s2 := fs1.tr (c4.mono (fun o j hw => hw.elim Or.inl (fun q => Or.inr (by omega))))
          have fu2 : zOf gShM t u2 := fu1.tr (c5.mono (fun o j hw => hw.elim Or.inl (fun q => Or.inr (by unfold gSdM; omega))))
          refine ⟨r2, s2, u2, ?_, fun rec kk => by rw [redM, c2', zcv_some], ?_, fs2, fu2⟩
          · simp only [m_X5_readLine, m_X5_readLine_95, m_X5_readLine_96, hz', if_true, a1', x2, zcl_some, one0, if_false, c1]
            rcases c3 with ⟨q, -⟩ | ⟨q, -⟩
            · rw [q, if_neg one0]
            · rw [q, if_pos rfl]
          · rcases c3 with ⟨q, p', v1, v2, q1, q2, q3, q4, q5, q6⟩ | q
            · refine Or.inl ⟨q, p', nc, nt, tb ||| 2 ^ 0, up (up (up a 0 (vS B N 0 (tnx B N p))) 1 v1) 2 v2, Wc, Wt, sh, by omega, q2, q3, ?_, ?_, ⟨hO.1, hO.2.1, htb', hO.2.2.2.1, hO.2.2.2.2.1, hO.2.2.2.2.2.1, ?_⟩⟩
              · obtain ⟨⟨A1, A2⟩, ⟨A3, A4, A5, A6⟩, ⟨A7, A8⟩, A9, A10⟩ := hC1
                have f : ∀ o k, S ≤ o → o ≤ S + 6 → ¬ (o = S + 6 ∧ (k = 1 ∨ k = 2)) → zI s2 o k = zI s1 o k ∧ zL s2 o k = zL s1 o k := fun o k h1 h2 h3 => by
                  have := c4 o k (by unfold gPC; omega)
                  exact ⟨this.1, this.2.1⟩
                refine ⟨⟨(f S 0 (by omega) (by omega) (by omega)).1.trans A1, (f S 3 (by omega) (by omega) (by omega)).1.trans A2⟩, ⟨(f (S + 1) 0 (by omega) (by omega) (by omega)).1.trans A3, (f (S + 1) 1 (by omega) (by omega) (by omega)).1.trans A4, (f (S + 1) 6 (by omega) (by omega) (by omega)).1.trans A5, (f (S + 1) 7 (by omega) (by omega) (by omega)).1.trans A6⟩, ⟨fun k hk => (f (S + 2) k (by omega) (by omega) (by omega)).2.trans (A7 k hk), fun k hk => (f (S + 3) k (by omega) (by omega) (by omega)).2.trans (A8 k hk)⟩, fun k hk => (f (S + 4) k (by omega) (by omega) (by omega)).1.trans (A9 k hk), fun k hk => ?_⟩
                by_cases k2 : k = 2
                · rw [k2]; unfold up; rw [if_pos rfl]; exact q5.2
                · by_cases k1 : k = 1
                  · rw [k1]; unfold up; rw [if_neg (by omega), if_pos rfl]; exact q5.1
                  · rw [(f (S + 6) k (by omega) (by omega) (by omega)).1, A10 k hk]
                    conv => rhs; unfold up
                    rw [if_neg k2, if_neg k1]
                    rfl
              · obtain ⟨⟨M1, M2⟩, ⟨M3, M4⟩, ⟨M5, M6⟩, M7, M8⟩ := hM1
                have f : ∀ o k, gSdM o k → ¬ (o = 66 ∧ (k = 1 ∨ k = 2)) → zI u2 o k = zI u1 o k ∧ zL u2 o k = zL u1 o k := fun o k h1 h3 => by
                  have := c5 o k (by unfold gSdM at h1; unfold gPM; omega)
                  exact ⟨this.1, this.2.1⟩
                refine ⟨⟨(f 64 20 (by unfold gSdM; omega) (by omega)).1.trans M1, fun k hk => (f 70 k (by unfold gSdM; omega) (by omega)).1.trans (M2 k hk)⟩, ⟨(f 64 18 (by unfold gSdM; omega) (by omega)).1.trans M3, (f 64 19 (by unfold gSdM; omega) (by omega)).1.trans M4⟩, ⟨fun k hk => (f 71 k (by unfold gSdM; omega) (by omega)).2.trans (M5 k hk), fun k hk => (f 72 k (by unfold gSdM; omega) (by omega)).2.trans (M6 k hk)⟩, fun k hk => (f 68 k (by unfold gSdM; omega) (by omega)).1.trans (M7 k hk), fun k hk => ?_⟩
                by_cases k2 : k = 2
                · rw [k2]; unfold up; rw [if_pos rfl]; exact q6.2
                · by_cases k1 : k = 1
                  · rw [k1]; unfold up; rw [if_neg (by omega), if_pos rfl]; exact q6.1
                  · rw [(f 66 k (by unfold gSdM; omega) (by omega)).1, M8 k hk]
                    conv => rhs; unfold up
                    rw [if_neg k2, if_neg k1]
                    rfl
              · have v0 := vb.2 (by omega)
                have hs := hO.2.2.2.2.2.2
                unfold okSet at hs ⊢
                simp [up, Lk, Mk] at v0 ⊢
                omega
            · exact Or.inr q
        · refine ⟨r, s1, u1, by rw [line_set hj hz, a1, zcl_some], fun rec kk => ?_, Or.inl ⟨x2, nS B N j (tnx B N p), nc, nt, tb ||| 2 ^ j, up a j (vS B N j (tnx B N p)), Wc, Wt, sh, by omega, x3, y2, hC1, hM1, ⟨hO.1, hO.2.1, htb', hO.2.2.2.1, hO.2.2.2.2.1, hO.2.2.2.2.2.1, okSet_up hO.2.2.2.2.2.2 hj.1 hj11 vb⟩⟩, fs1, fu1⟩
          have hj0 : ¬ zn j = 0 := fun q => by have := (zn_inj (b := 0) (by omega) (by omega)).1 q; omega
          rw [redM]
          simp only [m_X9_readTold_73, hj0, if_false, zcv_some]
      · rcases b2 with ⟨y1, -, -⟩ | ⟨-, y2⟩
        · exact absurd y1 x1
        have hp := y2.pos fS_ne.1 fS_ne.2
        rcases hj with rfl | hj
        · have hz' : zI s 3 4 = 256 := hz
          have a1' : m_X5_readSetting S 3 256 s = some (r, s1) := a1
          have hpw : ∀ v, 0 < zI (zsI u1 66 1 v) 64 2 := fun v => by rw [zI_sI, if_neg (by omega)]; exact hp
          refine ⟨0, s1, zsI (zsI u1 66 1 0) 66 2 0, ?_, fun rec kk => ?_, Or.inr ⟨rfl, _, _, fS_ne.1, fS_ne.2, x3, ⟨by rw [zI_sI, if_neg (by omega), zI_sI, if_neg (by omega)]; exact y2.1, by rw [zI_sI, if_neg (by omega), zI_sI, if_neg (by omega)]; exact y2.2⟩⟩, fs1, (fu1.sI (Or.inr (by unfold gSdM; omega))).sI (Or.inr (by unfold gSdM; omega))⟩
          · simp only [m_X5_readLine, m_X5_readLine_95, m_X5_readLine_96, hz', if_true, a1', x2, zcl_some]
          · rw [redM]
            simp only [m_X9_readTold_73, show zn 0 = (0 : Int32) from rfl, if_true, wantF hp, zcv_some, toldF hp, zcl_some, tc_1, tc_2, zT_64_11, zN_66, show ¬ (1 : Int32) < 0 by decide, show ¬ (2 : Int32) < 0 by decide, show ¬ 11 ≤ 1 by decide, show ¬ 11 ≤ 2 by decide, or_self, if_false, zlt_eq, wantF (hpw 0), toldF (hpw 0)]
        · refine ⟨0, s1, u1, by rw [line_set hj hz, a1, zcl_some, x2], fun rec kk => ?_, Or.inr ⟨rfl, _, _, fS_ne.1, fS_ne.2, x3, y2⟩, fs1, fu1⟩
          have hj0 : ¬ zn j = 0 := fun q => by have := (zn_inj (b := 0) (by omega) (by omega)).1 q; omega
          rw [redM]
          simp only [m_X9_readTold_73, hj0, if_false, zcv_some]
  have e : ∀ k : Nat, k < 276 → (zI s 3 4 = zn k ↔ tkd B N false p = k) := fun k hk => h.kd (by omega)
  have e256 : zI s 3 4 = 256 ↔ tkd B N false p = 256 := e 256 (by omega)
  have e259 : zI s 3 4 = 259 ↔ tkd B N false p = 259 := e 259 (by omega)
  have e260 : zI s 3 4 = 260 ↔ tkd B N false p = 260 := e 260 (by omega)
  have e261 : zI s 3 4 = 261 ↔ tkd B N false p = 261 := e 261 (by omega)
  have e262 : zI s 3 4 = 262 ↔ tkd B N false p = 262 := e 262 (by omega)
  have e263 : zI s 3 4 = 263 ↔ tkd B N false p = 263 := e 263 (by omega)
  have e264 : zI s 3 4 = 264 ↔ tkd B N false p = 264 := e 264 (by omega)
  have e265 : zI s 3 4 = 265 ↔ tkd B N false p = 265 := e 265 (by omega)
  have e266 : zI s 3 4 = 266 ↔ tkd B N false p = 266 := e 266 (by omega)
  have e267 : zI s 3 4 = 267 ↔ tkd B N false p = 267 := e 267 (by omega)
  have e268 : zI s 3 4 = 268 ↔ tkd B N false p = 268 := e 268 (by omega)
  have hw := which_no h' (by omega)
  have redC : m_X5_readLine S 3 s = if tkd B N false p = 267 then zcl (m_X0_readCause (S + 1) 3 s) (fun r19 s18 => m_X5_readLine_143 S 3 r19 s18) else if tkd B N false p = 268 then zcl (m_X0_readTrial (S + 1) 3 s) (fun r15 s14 => m_X5_readLine_143 S 3 r15 s14) else zcl (m_X3_refuse 3 2 s) (fun r2 s1 => (if r2 = 0 ∨ r2 = 1 then some (r2, s1) else none)) := by
    simp only [m_X5_readLine, e256, e259, e260, e261, e262, e263, e264, e265, e266, e267, e268, t1']
    rw [if_neg (by omega), if_neg (by omega), if_neg (by omega), if_neg (by omega), if_neg (by omega), if_neg (by omega), if_neg (by omega), if_neg (by omega), if_neg (by omega)]
  have redM : ∀ rec kk, bd_X9_shed_51 64 rec kk t = m_X9_shed_91 64 rec kk t := fun rec kk => by
    simp only [bd_X9_shed_51, z0, if_true, m0, if_false, hw, zcl_some, show (-1 : Int32) < 0 by decide]
  by_cases h67 : tkd B N false p = 267
  · rw [if_pos h67] at redC
    have w11' : m_X9_isWord 64 426836849509 t = some (1, t) := by rw [w11, if_pos (by omega)]
    have w12' : m_X9_isWord 64 500135715180 t = some (0, t) := by rw [w12, if_neg (by omega)]
    by_cases h8 : nc < 8
    · have l8 : zn nc < 8 := (zn_lt (b := 8) (by omega) (by omega)).2 h8
      obtain ⟨r, s1, u1, a1, a2, a3, a4, a5⟩ := cause_step h h' hS hC hM hO h67 h8
      refine ⟨r, s1, u1, by rw [redC, a1, zcl_some], fun rec kk => ?_, a3, a4, a5⟩
      rw [redM]
      simp only [m_X9_shed_91, w11', zcl_some, one0, if_false, hM.2.1.1, l8, if_true, a2, zcv_some]
    · have l8 : ¬ zn nc < 8 := fun x => h8 ((zn_lt (b := 8) (by have := hO.1; omega) (by omega)).1 x)
      refine wrongly (fun s1 q => ?_) (fun rec kk => ?_)
      · rw [redC]
        simp only [m_X0_readCause, hC.2.1.1, l8, if_false, q, zcl_some, true_or, if_true, m_X5_readLine_143]
      · rw [redM]
        simp only [m_X9_shed_91, m_X9_shed_117, w11', w12', zcl_some, one0, if_false, hM.2.1.1, l8, if_true]
  rw [if_neg h67] at redC
  have w11' : m_X9_isWord 64 426836849509 t = some (0, t) := by rw [w11, if_neg (by omega)]
  by_cases h68 : tkd B N false p = 268
  · rw [if_pos h68] at redC
    have w12' : m_X9_isWord 64 500135715180 t = some (1, t) := by rw [w12, if_pos (by omega)]
    by_cases h8 : nt < 8
    · have l8 : zn nt < 8 := (zn_lt (b := 8) (by omega) (by omega)).2 h8
      obtain ⟨r, s1, u1, a1, a2, a3, a4, a5⟩ := trial_step h h' hS hC hM hO h68 h8
      refine ⟨r, s1, u1, by rw [redC, a1, zcl_some], fun rec kk => ?_, a3, a4, a5⟩
      rw [redM]
      simp only [m_X9_shed_91, m_X9_shed_117, w11', w12', zcl_some, one0, if_false, hM.2.1.2, l8, if_true, a2, zcv_some]
    · have l8 : ¬ zn nt < 8 := fun x => h8 ((zn_lt (b := 8) (by have := hO.2.1; omega) (by omega)).1 x)
      refine wrongly (fun s1 q => ?_) (fun rec kk => ?_)
      · rw [redC]
        simp only [m_X0_readTrial, hC.2.1.2.1, l8, if_false, q, zcl_some, true_or, if_true, m_X5_readLine_143]
      · rw [redM]
        simp only [m_X9_shed_91, m_X9_shed_117, w11', w12', zcl_some, one0, if_false, hM.2.1.2, l8, if_true]
  rw [if_neg h68] at redC
  have w12' : m_X9_isWord 64 500135715180 t = some (0, t) := by rw [w12, if_neg (by omega)]
  refine wrongly (fun s1 q => ?_) (fun rec kk => ?_)
  · rw [redC]
    simp only [q, zcl_some, true_or, if_true]
  · rw [redM]
    simp only [m_X9_shed_91, m_X9_shed_117, w11', w12', zcl_some, if_true]
