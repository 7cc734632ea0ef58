/-! the sum: a line -/
def suC (U l : Nat) (W : Nat → List Nat) (kd : Nat → Nat) (vl : Nat → Int32) (c u : Nat) (fs : Nat → Nat) (pr : Nat → Int32) (s : zSt) : Prop := xC U l W kd vl c u s ∧ ∀ i, i < l → zI s (U + 4) i = pr i ∧ zI s (U + 5) i = zn (fs i) ∧ zI s (U + 5) (i + 1) = zn (fs (i + 1))
def suM (l : Nat) (W : Nat → List Nat) (kd : Nat → Nat) (vl : Nat → Int32) (c u : Nat) (fs : Nat → Nat) (pr : Nat → Int32) (t : zSt) : Prop := (zI t 64 64 = zn l ∧ zI t 64 63 = zn u ∧ zI t 64 62 = zn c) ∧ nmM W l 93 t ∧ (∀ k, k < c → zI t 94 k = mkd (kd k) ∧ zI t 95 k = vl k) ∧ ∀ i, i < l → zI t 97 i = pr i ∧ zI t 96 i = zn (fs i) ∧ zI t 96 (i + 1) = zn (fs (i + 1))
def suO (l : Nat) (W : Nat → List Nat) (kd : Nat → Nat) (vl : Nat → Int32) (c u : Nat) (fs : Nat → Nat) : Prop := l ≤ 12 ∧ nmL W l ∧ u ≤ 60 ∧ c ≤ 2 * u ∧ fs l = c ∧ ∀ i, i < l → fs i ≤ fs (i + 1) ∧ fs (i + 1) ≤ c ∧ wfF kd vl i (fs (i + 1) - fs i) (fs i) 0
theorem wfF_congr {kd kd' : Nat → Nat} {vl vl' : Nat → Int32} {l : Nat} : ∀ (d i m : Nat), (∀ k, i ≤ k → k < i + d → kd' k = kd k ∧ vl' k = vl k) → wfF kd vl l d i m → wfF kd' vl' l d i m := by
  intro d
  induction d with
  | zero => intro i m _ h; exact h
  | succ d ih =>
    intro i m e h
    obtain ⟨q1, q2⟩ := e i (by omega) (by omega)
    obtain ⟨a1, a2, a3⟩ := h
    refine ⟨by rw [q1]; exact a1, by rw [q1, q2]; exact a2, ?_⟩
    rw [q1]
    by_cases hk : kd i < 2
    · rw [if_pos hk] at a3 ⊢
      exact ⟨a3.1, ih (i + 1) _ (fun k h1 h2 => e k (by omega) (by omega)) a3.2⟩
    · rw [if_neg hk] at a3 ⊢
      exact ⟨a3.1, ih (i + 1) _ (fun k h1 h2 => e k (by omega) (by omega)) a3.2⟩
def gSuC (U o j : Nat) : Prop := gPC o j ∨ (U ≤ o ∧ o ≤ U + 9)
def gSuM (o j : Nat) : Prop := gPM o j ∨ (o = 64 ∧ (j = 62 ∨ j = 63 ∨ j = 64 ∨ j = 67 ∨ j = 68)) ∨ (93 ≤ o ∧ o ≤ 97) ∨ o = 102
theorem sum_line {B : Nat → Nat} {N p : Nat} {s t : zSt} (h : rkC B N true p s) (h' : rkM B N true p t) {U l c u : Nat} (hU : isU U) {W : Nat → List Nat} {kd : Nat → Nat} {vl pr : Nat → Int32} {fs : Nat → Nat} (hC : suC U l W kd vl c u fs pr s) (hM : suM l W kd vl c u fs pr t) (hO : suO l W kd vl c u fs) (hk0 : tkd B N true p ≠ 0) (hN : N ≤ 800) :
    ∃ r s' t', m_X6_readLine U 3 s = some (r, s') ∧ m_X9_readLine 64 t = some t' ∧ ((r = 1 ∧ l < 12 ∧ ∃ (p' c' u' : Nat) (W' : Nat → List Nat) (kd' : Nat → Nat) (vl' pr' : Nat → Int32) (fs' : Nat → Nat), p < p' ∧ rkC B N true p' s' ∧ rkM B N true p' t' ∧ suC U (l + 1) W' kd' vl' c' u' fs' pr' s' ∧ suM (l + 1) W' kd' vl' c' u' fs' pr' t' ∧ suO (l + 1) W' kd' vl' c' u' fs') ∨ (r = 0 ∧ ∃ f pl, f ≠ 0 ∧ f < 100 ∧ flC f pl s' ∧ flM f pl t')) ∧ zOf (gSuC U) s s' ∧ zOf gSuM t t' := by
  have hUb := hU.lt
  obtain ⟨-, ⟨-, -, t4, t5, t6, -, -, -, -⟩, ⟨-, -, n3, n4, n5, -, -, -, -⟩⟩ := hU.c
  obtain ⟨O1, O2, O3, O4, O5, O6⟩ := hO
  have one0 : ¬ (1 : Int32) = 0 := by decide
  have z0 : zI t 64 2 = 0 := h'.2.2.2.2.1
  have nf : ¬ (0 : Int32) < 0 := by decide
  have fC : ∀ {x y : zSt}, zOf gPC x y → zOf (gSuC U) x y := fun e => e.mono (fun o j hw => Or.inl hw)
  have fM : ∀ {x y : zSt}, zOf gPM x y → zOf gSuM x y := fun e => e.mono (fun o j hw => Or.inl hw)
  by_cases hl : l < 12
  rotate_left
  · have hl12 : l = 12 := by omega
    subst hl12
    obtain ⟨s1, a1, a2, a3⟩ := refC h 2
    have A1 : m_X3_refuse 3 2 s = some (0, s1) := a1
    obtain ⟨u1, b1, b2, b3⟩ := wrM h' 2
    have B1 : m_X9_wrong 64 2 t = some u1 := b1
    have hp := b2.pos (fc_ne (by omega)) (fc_lt (by omega))
    refine ⟨0, s1, u1, ?_, ?_, Or.inr ⟨rfl, _, _, fc_ne (by omega), fc_lt (by omega), a2, b2⟩, fC a3, fM b3⟩
    · simp only [m_X6_readLine, hC.1.1, show ¬ zn 12 < 12 by decide, if_false, A1, zcl_some, true_or, if_true]
    · simp only [m_X9_readLine, m_X9_readLine_14, hM.1.1, show zn 12 = (12 : Int32) from rfl, if_true, B1, zcv_some, hp]
  have l12 : zn l < 12 := (zn_lt (b := 12) (by omega) (by omega)).2 hl
  have e12 : ¬ zn l = 12 := fun x => by have := (zn_inj (b := 12) (by omega) (by omega)).1 x; omega
  have g2 : ¬ zn l < 0 := zn_neg (by omega)
  have g3 : (zn l).toNatClampNeg = l := zn_cl (by omega)
  have g4 : ¬ 12 ≤ l := by omega
  have g5 : ¬ 13 ≤ l := by omega
  have g2' : ¬ zn (l + 1) < 0 := zn_neg (by omega)
  have g3' : (zn (l + 1)).toNatClampNeg = l + 1 := zn_cl (by omega)
  have g5' : ¬ 13 ≤ l + 1 := by omega
  -- its name
  obtain ⟨r1, s1, a1, a2, a3⟩ := newNameC h (o := U + 3) (n := l) n3 hl (by omega) (by omega) O2 hC.1.2.2.2.1
  have look : ∃ x : Bool, m_X9_readLine 64 t = m_X9_readLine_47 64 64 (zn x.toNat) t ∧ (tkd B N true p = 2 → (x = true ↔ ∃ k, k < l ∧ W k = twd B N p)) := by
    have e1 : zI t 64 6 = 1 ↔ (tkd B N true p = 2 ∨ 256 ≤ tkd B N true p) := (h'.so (k := 1) (by omega)).trans (msr_1 _)
    by_cases hs : tkd B N true p = 2 ∨ 256 ≤ tkd B N true p
    · by_cases h2 : tkd B N true p = 2
      · have hw := (tkd_w (Or.inl h2) (fun k hk => (h.2.1.2.2 k hk).1) h.1).1
        have l9 : zL t 64 9 = zq (c256 (twd B N p) : Int) := h'.2.2.2.1.2.2.2.2 (Or.inl h2)
        by_cases hx : ∃ k, k < l ∧ W k = twd B N p
        · obtain ⟨j, j1, j2⟩ := hx
          refine ⟨true, ?_, fun _ => ⟨fun _ => ⟨j, j1, j2⟩, fun _ => rfl⟩⟩
          simp only [m_X9_readLine, m_X9_readLine_14, hM.1.1, e12, if_false, z0, nf, e1, hs, if_true, l9, li_some O1 hM.1.1 O2 hM.2.1 hw j1 j2, zcl_some, show ¬ zn j < 0 from zn_neg (by omega)]
          rfl
        · refine ⟨false, ?_, fun _ => ⟨fun q => absurd q (by decide), fun q => absurd q hx⟩⟩
          simp only [m_X9_readLine, m_X9_readLine_14, m_X9_readLine_46, hM.1.1, e12, if_false, z0, nf, e1, hs, if_true, l9, li_none O1 hM.1.1 O2 hM.2.1 hw (fun k hk hh => hx ⟨k, hk, hh⟩), zcl_some, show (-1 : Int32) < 0 by decide]
          rfl
      · obtain ⟨v, hv⟩ := li_exists O1 hM.1.1 (zL t 64 9)
        by_cases hv0 : v < 0
        · refine ⟨false, ?_, fun q => absurd q h2⟩
          simp only [m_X9_readLine, m_X9_readLine_14, m_X9_readLine_46, hM.1.1, e12, if_false, z0, nf, e1, hs, if_true, hv, zcl_some, hv0]
          rfl
        · refine ⟨true, ?_, fun q => absurd q h2⟩
          simp only [m_X9_readLine, m_X9_readLine_14, hM.1.1, e12, if_false, z0, nf, e1, hs, if_true, hv, zcl_some, hv0]
          rfl
    · refine ⟨false, ?_, fun q => absurd (Or.inl q) hs⟩
      simp only [m_X9_readLine, m_X9_readLine_14, m_X9_readLine_46, hM.1.1, e12, if_false, z0, nf, e1, hs]
      rfl
  obtain ⟨x, hx, yk⟩ := look
  obtain ⟨w2, u1, d1, d2, d3⟩ := namedM h' x
  have fs1 : zOf (gSuC U) s s1 := a3.mono (fun o k hw => hw.elim Or.inl (fun q => Or.inr (by omega)))
  have fu1 : zOf gSuM t u1 := fM d3
  -- once a fault stands
  have faultRun : ∀ (v : zSt) (w : Int64) {f pl : Nat}, f ≠ 0 → f < 100 → flM f pl v → zI v 64 64 = zn l → ∃ v', zlt (zsI v 64 67 0) (fun s7 => zlt (zsI s7 64 68 0) (fun s8 => (if zI s8 64 64 < 0 ∨ zN (zT 64 53) ≤ Int32.toNatClampNeg (zI s8 64 64) then none else zlt (zsI s8 (zT 64 53) (Int32.toNatClampNeg (zI s8 64 64)) (zI s8 64 62)) (fun s9 => lp_X9_readLine_83 64 (fun l1_18 s_18 => m_X9_readLine_130 64 l1_18 s_18) zFuel w 1 s9)))) = some v' ∧ flM f pl v' ∧ zOf gSuM v v' := by
    intro v w f pl hf0 hf1 hv h64
    have i64 : zI (zsI (zsI v 64 67 0) 64 68 0) 64 64 = zn l := by rw [zI_sI, if_neg (by omega), zI_sI, if_neg (by omega)]; exact h64
    have e : zOf gSuM v (zsI (zsI (zsI v 64 67 0) 64 68 0) 96 l (zI (zsI (zsI v 64 67 0) 64 68 0) 64 62)) := ((zOf.rf.sI (Or.inr (Or.inl (by omega)))).sI (Or.inr (Or.inl (by omega)))).sI (Or.inr (Or.inr (Or.inl (by omega))))
    have hv2 : flM f pl (zsI (zsI (zsI v 64 67 0) 64 68 0) 96 l (zI (zsI (zsI v 64 67 0) 64 68 0) 64 62)) := ⟨by simp [zI_sI, zI_sL, zI_sR, zL_sI, zL_sL, zL_sR, zR_sI, zR_sL, zR_sR, hv.1], by simp [zI_sI, zI_sL, zI_sR, zL_sI, zL_sL, zL_sR, zR_sI, zR_sL, zR_sR, hv.2]⟩
    have hp := hv2.pos hf0 hf1
    refine ⟨_, ?_, hv2, e⟩
    simp only [zlt_eq, i64, zT_64_53, zN_96, g2, g3, g5, or_self, if_false]
    rw [lp83F hp (by unfold zFuel; omega)]
    simp only [m_X9_readLine_130, hp, if_true]
  have two : (∃ f pl, f ≠ 0 ∧ f < 100 ∧ r1 = 0 ∧ flC f pl s1 ∧ flM f pl u1) ∨ (tkd B N true p = 2 ∧ (∀ k, k < l → W k ≠ twd B N p) ∧ r1 = 1 ∧ rkC B N true (tnx B N p) s1 ∧ zL s1 (U + 3) l = zq (c27 (twd B N p) : Int) ∧ rkM B N true (tnx B N p) u1 ∧ w2 = zq (c256 (twd B N p) : Int)) := by
    rcases a2 with ⟨x1, x2, x3, x4, x5⟩ | ⟨x1, x2, x3, x4⟩ | ⟨x1, x3, x4⟩
    · rcases d2 with ⟨q1, q2, q3, q4⟩ | ⟨q1, q2, q3⟩ | ⟨q1, q3⟩
      · exact Or.inr ⟨x1, x2, x3, x4, x5, q3, q4⟩
      · obtain ⟨k, v1, v2⟩ := (yk x1).1 q2
        exact absurd v2 (x2 k v1)
      · exact absurd x1 q1
    · rcases d2 with ⟨q1, q2, q3, q4⟩ | ⟨q1, q2, q3⟩ | ⟨q1, q3⟩
      · rw [(yk x1).2 x2] at q2; exact absurd q2 (by decide)
      · exact Or.inl ⟨3, _, by omega, by omega, x3, x4, q3⟩
      · exact absurd x1 q1
    · rcases d2 with ⟨q1, q2, q3, q4⟩ | ⟨q1, q2, q3⟩ | ⟨q1, q3⟩
      · exact absurd q1 x1
      · exact absurd q1 x1
      · exact Or.inl ⟨_, _, fc_ne (by omega), fc_lt (by omega), x3, x4, q3⟩
  rcases two with ⟨f, pl, hf0, hf1, hr, hfc, hfm⟩ | ⟨k2, w1, e2, w3, w4, w5, w6⟩
  · have hp := hfm.pos hf0 hf1
    obtain ⟨v', q1, q2, q3⟩ := faultRun u1 w2 hf0 hf1 hfm ((d3 64 64 (by unfold gPM; omega)).1.trans hM.1.1)
    refine ⟨0, s1, v', ?_, ?_, Or.inr ⟨rfl, f, pl, hf0, hf1, hfc, q2⟩, fs1, fu1.tr q3⟩
    · simp only [m_X6_readLine, hC.1.1, l12, if_true, t4, a1, zcl_some, hr]
    · rw [hx]
      simp only [m_X9_readLine_47, d1, zcl_some, wantF hp, zcv_some]
      exact q1
  have hw0 : okW (twd B N p) := (tkd_w (Or.inl k2) (fun k hk => (h'.2.1.2.2 k hk).1) h'.1).1
  have pl1 := nx_lt (B := B) (sm := true) h.1 (by omega)
  generalize twd B N p = w0 at *
  generalize hp1 : tnx B N p = p1 at *
  -- is
  obtain ⟨s2, a21, a22, a23, a24⟩ := takeC w3 (k := 274) (by omega)
  have A2 : m_X3_take 3 274 s1 = _ := a21
  obtain ⟨u2, b21, b22, b23, b24⟩ := wantM w5 (i := 18) (by omega)
  have B2 : m_X9_want 64 26995 u1 = some u2 := b21
  have fs2 : zOf (gSuC U) s s2 := fs1.tr (fC a24)
  have fu2 : zOf gSuM t u2 := fu1.tr (fM b24)
  have u64 : zI u2 64 64 = zn l := (b24 64 64 (by unfold gPM; omega)).1.trans ((d3 64 64 (by unfold gPM; omega)).1.trans hM.1.1)
  by_cases k3 : tkd B N true p1 = 274
  rotate_left
  · obtain ⟨v', q1, q2, q3⟩ := faultRun u2 w2 (fc_ne (by omega)) (fc_lt (by omega)) (b23 k3) u64
    refine ⟨0, s2, v', ?_, ?_, Or.inr ⟨rfl, _, _, fc_ne (by omega), fc_lt (by omega), a23 k3, q2⟩, fs2, fu2.tr q3⟩
    · simp only [m_X6_readLine, hC.1.1, l12, if_true, t4, a1, zcl_some, e2, one0, if_false, A2, k3]
    · rw [hx]
      simp only [m_X9_readLine_47, d1, zcl_some, B2, zcv_some]
      exact q1
  replace a22 := a22 k3
  replace b22 := b22 k3
  have plN := tnx_bd (B := B) w3.1
  -- both set up the line
  have cS2 : ∀ o j, U ≤ o → ¬ (o = U + 3 ∧ j = l) → zI s2 o j = zI s o j ∧ zL s2 o j = zL s o j := fun o j h1 h2 => by
    have q1 := a24 o j (by unfold gPC; omega)
    have q2 := a3 o j (by unfold gPC; omega)
    exact ⟨q1.1.trans q2.1, q1.2.1.trans q2.2.1⟩
  have cU2 : ∀ o j, (o = 64 ∧ 10 ≤ j) ∨ 65 ≤ o → zI u2 o j = zI t o j ∧ zL u2 o j = zL t o j := fun o j h1 => by
    have q1 := b24 o j (by unfold gPM; omega)
    have q2 := d3 o j (by unfold gPM; omega)
    exact ⟨q1.1.trans q2.1, q1.2.1.trans q2.2.1⟩
  have e3 : zOf (fun o j => o = U + 5 ∧ j = l) s2 (zsI s2 (U + 5) l (zn c)) := zOf.rf.sI ⟨rfl, rfl⟩
  have rk3 := a22.of e3 (fun o j hw => by unfold gRdC; omega)
  have hX0 : xC U l W kd vl c u (zsI s2 (U + 5) l (zn c)) := by
    obtain ⟨q1, q2, q3, q4, q5⟩ := hC.1
    refine ⟨(e3 U 0 (by omega)).1.trans ((cS2 U 0 (by omega) (by omega)).1.trans q1), (e3 U 1 (by omega)).1.trans ((cS2 U 1 (by omega) (by omega)).1.trans q2), (e3 U 11 (by omega)).1.trans ((cS2 U 11 (by omega) (by omega)).1.trans q3), fun k hk => (e3 (U + 3) k (by omega)).2.1.trans ((cS2 (U + 3) k (by omega) (by omega)).2.trans (q4 k hk)), fun k hk => ?_⟩
    rw [(e3 (U + 6) k (by omega)).1, (e3 (U + 7) k (by omega)).1, (cS2 (U + 6) k (by omega) (by omega)).1, (cS2 (U + 7) k (by omega) (by omega)).1]
    exact q5 k hk
  have e4 : zOf (fun o j => (o = 64 ∧ (j = 67 ∨ j = 68)) ∨ (o = 96 ∧ j = l)) u2 (zsI (zsI (zsI u2 64 67 0) 64 68 0) 96 l (zn c)) := ((zOf.rf.sI (by omega)).sI (by omega)).sI (by omega)
  have rm3 := b22.of e4 (fun o j hw => by unfold gRdM; omega)
  have hY0 : xM l W kd vl c u [] 0 (zsI (zsI (zsI u2 64 67 0) 64 68 0) 96 l (zn c)) := by
    refine ⟨⟨(e4 64 64 (by omega)).1.trans u64, (e4 64 63 (by omega)).1.trans ((cU2 64 63 (by omega)).1.trans hM.1.2.1), (e4 64 62 (by omega)).1.trans ((cU2 64 62 (by omega)).1.trans hM.1.2.2)⟩, fun k hk => (e4 93 k (by omega)).2.1.trans ((cU2 93 k (by omega)).2.trans (hM.2.1 k hk)), fun k hk => ?_, ⟨by simp [zI_sI, zI_sL, zI_sR, zL_sI, zL_sL, zL_sR, zR_sI, zR_sL, zR_sR]; rfl, trivial⟩, by simp [zI_sI, zI_sL, zI_sR, zL_sI, zL_sL, zL_sR, zR_sI, zR_sL, zR_sR]; rfl⟩
    rw [(e4 94 k (by omega)).1, (e4 95 k (by omega)).1, (cU2 94 k (by omega)).1, (cU2 95 k (by omega)).1]
    exact hM.2.2.1 k hk
  have i64 : zI (zsI (zsI u2 64 67 0) 64 68 0) 64 64 = zn l := by rw [zI_sI, if_neg (by omega), zI_sI, if_neg (by omega)]; exact u64
  have i62 : zI (zsI (zsI u2 64 67 0) 64 68 0) 64 62 = zn c := by rw [zI_sI, if_neg (by omega), zI_sI, if_neg (by omega)]; exact (cU2 64 62 (by omega)).1.trans hM.1.2.2
  have ML : m_X9_readLine 64 t = lp_X9_readLine_83 64 (fun l1_18 s_18 => m_X9_readLine_130 64 l1_18 s_18) zFuel w2 1 (zsI (zsI (zsI u2 64 67 0) 64 68 0) 96 l (zn c)) := by
    rw [hx]
    simp only [m_X9_readLine_47, d1, zcl_some, B2, zcv_some, zlt_eq, i64, i62, zT_64_53, zN_96, g2, g3, g5, or_self, if_false]
  have c0 : zI s2 U 0 = zn l := (cS2 U 0 (by omega) (by omega)).1.trans hC.1.1
  have c11 : zI s2 U 11 = zn c := (cS2 U 11 (by omega) (by omega)).1.trans hC.1.2.2.1
  have CL : m_X6_readLine U 3 s = zcl (m_X6_readExpression 20 U 3 0 (zsI s2 (U + 5) l (zn c))) (fun r7 s6 => (if r7 = 0 then
        some (0, s6)
        else
        zcl (m_X3_take 3 275 s6) (fun r9 s8 => (if r9 = 0 then
          some (0, s8)
          else
          zcl (m_X3_takeSigned 3 (-9999) 9999 s8) (fun r11 s10 => (if r11 = 0 then
            some (0, s10)
            else
            (if zI s10 U 0 < 0 ∨ zN (U + 4) ≤ Int32.toNatClampNeg (zI s10 U 0) then none else zlt (zsI s10 (U + 4) (Int32.toNatClampNeg (zI s10 U 0)) (zI s10 3 8)) (fun s12 => zlt (zsI s12 U 0 ((zI s12 U 0) + 1)) (fun s13 => (if zI s13 U 0 < 0 ∨ zN (U + 5) ≤ Int32.toNatClampNeg (zI s13 U 0) then none else zlt (zsI s13 (U + 5) (Int32.toNatClampNeg (zI s13 U 0)) (zI s13 U 11)) (fun s14 => zcl (m_X3_take 3 59 s14) (fun r16 s15 => (if r16 = 0 ∨ r16 = 1 then some (r16, s15) else none))))))))))))) := by
    simp only [m_X6_readLine, hC.1.1, l12, if_true, t4, t5, t6, n5, a1, zcl_some, e2, one0, if_false, A2, k3, c0, g2, g3, g5, or_self, zlt_eq, c11]
  -- the expression
  obtain ⟨s4, v4, x1, x2, x3⟩ := expr_all (B := B) (N := N) (fs := c) hU O2 7 0 19 (by omega) (by omega) (tnx B N p1) c u 0 zFuel [] kd vl _ _ rk3 rm3 hX0 hY0 ⟨hl, O3, by omega, by omega, Nat.le_refl c, by rw [Nat.sub_self]; rfl⟩ rfl trivial (by unfold zFuel; omega)
  have x1' := x1
  have fs4 : zOf (gSuC U) s s4 := (fs2.tr (e3.mono (fun o j hw => Or.inr (by omega)))).tr (x2.mono (fun o j hw => hw.elim Or.inl (fun q => Or.inr (by unfold gXC at q; omega))))
  have fv4 : zOf gSuM t v4 := (fu2.tr (e4.mono (fun o j hw => Or.inr (by omega)))).tr (x3.mono (fun o j hw => hw.elim Or.inl (fun q => Or.inr (by unfold gXM at q; omega))))
  rcases x1 with ⟨p', c', e', u', mm', fM', L, kd', vl', y1, y2, y3, yc, y4, y5, y6, y7, y8, y9, y10, y11, y12, y13, y14, y15, y16⟩ | ⟨f', pl', y1, y2, y3, y4, y5, y6⟩
  rotate_left
  · have hp := y6.pos y1 y2
    have Y3 : m_X6_readExpression 20 U 3 0 (zsI s2 (U + 5) l (zn c)) = some (0, s4) := y3
    refine ⟨0, s4, v4, ?_, ?_, Or.inr ⟨rfl, f', pl', y1, y2, y5, y6⟩, fs4, fv4⟩
    · rw [CL, Y3, zcl_some, if_pos rfl]
    · rw [ML, y4]
      simp only [m_X9_readLine_130, hp, if_true]
  have Y5 : m_X6_readExpression 20 U 3 0 (zsI s2 (U + 5) l (zn c)) = some (1, s4) := y5
  rw [List.append_nil] at y10
  have d68 : zI v4 64 68 = zn 0 := y10.2.2.2.2
  have zz0 : zI v4 64 2 = 0 := y8.2.2.2.2.1
  obtain ⟨g, rfl⟩ : ∃ g, fM' = g + 1 := ⟨fM' - 1, by omega⟩
  obtain ⟨s5, a51, a52, a53, a54⟩ := takeC y7 (k := 275) (by omega)
  have A5 : m_X3_take 3 275 s4 = _ := a51
  obtain ⟨no1, no2, no3, no4⟩ := y16
  by_cases k5 : tkd B N true p' = 275
  rotate_left
  · obtain ⟨v5, q1, q2, q3⟩ := wrM y8 2
    have Q1 : m_X9_wrong 64 2 v4 = some v5 := q1
    have hp := q2.pos (fc_ne (by omega)) (fc_lt (by omega))
    refine ⟨0, s5, v5, ?_, ?_, Or.inr ⟨rfl, _, _, fc_ne (by omega), fc_lt (by omega), a53 k5, q2⟩, fs4.tr (fC a54), fv4.tr (fM q3)⟩
    · rw [CL, Y5, zcl_some, if_neg one0, A5, if_neg k5, zcl_some, if_pos rfl]
    · have s43 : zI v4 64 6 = 43 ↔ tkd B N true p' = 43 := (y8.so (k := 43) (by omega)).trans (msr_s (by omega) (by omega))
      have s45 : zI v4 64 6 = 45 ↔ tkd B N true p' = 45 := (y8.so (k := 45) (by omega)).trans (msr_s (by omega) (by omega))
      have s42 : zI v4 64 6 = 42 ↔ tkd B N true p' = 42 := (y8.so (k := 42) (by omega)).trans (msr_s (by omega) (by omega))
      have s47 : zI v4 64 6 = 47 ↔ tkd B N true p' = 47 := (y8.so (k := 47) (by omega)).trans (msr_s (by omega) (by omega))
      have no0 : ¬ 0 < zI v4 64 68 := by rw [d68]; decide
      rw [ML, y6, lp83S y8 d68 (by omega) (Or.inl k5)]
      simp only [m_X9_sign, m_X9_sign_57, m_X9_sign_105, m_X9_isOpen, s43, s45, s42, s47, no1, no2, no3, no4, if_false, no0, zcl_some, if_true, show (-1 : Int32) < 0 by decide, Q1, zcv_some, ite_self]
      rw [lp83F hp (by omega)]
      simp only [m_X9_readLine_130, hp, if_true]
  replace a52 := a52 k5
  -- prints
  have hlenL : (L ++ []).length ≤ 150 := by rw [List.append_nil]; omega
  have c'b : c' ≤ 120 := by have := y14.2.2.1; have := y14.2.1; omega
  obtain ⟨v5, q51, q52, q53⟩ := settleM (r := 0) (R := []) (by omega) trivial c'b (fun x hx => ⟨(y12 x hx).1, (y12 x hx).2, by omega⟩) (by rw [List.append_nil]; exact y10) y11 hlenL
  have Q5 : m_X9_settle 64 0 v4 = some v5 := q51
  have rm5 := y8.of q53 (fun o j hw => by unfold gXM at hw; unfold gRdM; omega)
  obtain ⟨v6, b61, b62, b63, b64⟩ := wantM rm5 (i := 19) (by omega)
  have B6 : m_X9_want 64 123636697429107 v5 = some v6 := b61
  replace b62 := b62 k5
  have ML2 : m_X9_readLine 64 t = m_X9_readLine_130 64 w2 v4 := by
    have w19 : m_X9_isWord 64 123636697429107 v4 = some (1, v4) := by
      have : m_X9_isWord 64 123636697429107 v4 = _ := isWord_eq y8 (i := 19) (by omega)
      rw [this, if_pos (by omega)]
    have no0 : ¬ 0 < zI v4 64 68 := by rw [d68]; decide
    rw [ML, y6]
    simp only [lp_X9_readLine_83, bd_X9_readLine_83, zz0, if_true, m_X9_isOpen, no0, if_false, zcl_some, w19, one0]
  have nf4 : ¬ 0 < zI v4 64 2 := by rw [zz0]; decide
  -- the printed number
  obtain ⟨r7, s7, a71, a72, a73⟩ := signedC a52 (b := 9999) (by omega)
  have A7 : m_X3_takeSigned 3 (-9999) 9999 s5 = some (r7, s7) := a71
  obtain ⟨v7, t7, b71, b72, b73⟩ := signedM b62 (b := 9999) (by omega)
  have B7 : m_X9_signed 64 (-9999) 9999 v6 = some (v7, t7) := b71
  have fs7 : zOf (gSuC U) s s7 := (fs4.tr (fC a54)).tr (fC a73)
  have ft7 : zOf gSuM t t7 := ((fv4.tr (q53.mono (fun o j hw => Or.inr (by unfold gXM at hw; omega)))).tr (fM b64)).tr (fM b73)
  rcases a72 with ⟨k7, r7e, w73, w74⟩ | ⟨k7, r7e, w73⟩
  rotate_left
  · rcases b72 with ⟨q1, -, -⟩ | ⟨-, q2⟩
    · exact absurd q1 k7
    have hp := q2.pos fcG_ne.1 fcG_ne.2
    have hz : ¬ zI t7 64 2 = 0 := fun hz => by rw [hz] at hp; exact absurd hp (by decide)
    refine ⟨0, s7, t7, ?_, ?_, Or.inr ⟨rfl, _, _, fcG_ne.1, fcG_ne.2, w73, q2⟩, fs7, ft7⟩
    · rw [CL, Y5, zcl_some, if_neg one0, A5, if_pos k5, zcl_some, if_neg one0, A7, r7e, zcl_some, if_pos rfl]
    · rw [ML2]
      simp only [m_X9_readLine_130, m_X9_readLine_183, nf4, if_false, Q5, zcv_some, B6, B7, zcl_some, hz, hp, if_true]
  rcases b72 with ⟨-, m7, v7e⟩ | ⟨q1, -⟩
  rotate_left
  · exact absurd k7 q1
  generalize hp7 : tnx B N (sgP B N true (tnx B N p')) = p7 at *
  have pp7 : p' ≤ p7 := by
    rw [← hp7]
    have q1 := tnx_bd (B := B) y7.1
    have q2 : tnx B N p' ≤ sgP B N true (tnx B N p') ∧ sgP B N true (tnx B N p') ≤ N := by
      unfold sgP
      have := tnx_bd (B := B) q1.2.1
      split <;> omega
    have q3 := tnx_bd (B := B) q2.2
    omega
  generalize hv : sgV B N true (tnx B N p') = val at *
  -- the class's last writes, then the semicolon
  have xC7 : xC U l W kd' vl' c' u' s7 := (y9.of a54 (by omega)).of a73 (by omega)
  have i0 : zI s7 U 0 = zn l := xC7.1
  have i11 : zI (zsI (zsI s7 (U + 4) l (zi val)) U 0 (zn (l + 1))) U 11 = zn c' := by rw [zI_sI, if_neg (by omega), zI_sI, if_neg (by omega)]; exact xC7.2.2.1
  have i0' : zI (zsI s7 (U + 4) l (zi val)) U 0 = zn l := by rw [zI_sI, if_neg (by omega)]; exact i0
  have i0'' : zI (zsI (zsI s7 (U + 4) l (zi val)) U 0 (zn (l + 1))) U 0 = zn (l + 1) := by rw [zI_sI, if_pos ⟨rfl, rfl⟩]
  have e8 : zOf (fun o j => (o = U + 4 ∧ j = l) ∨ (o = U ∧ j = 0) ∨ (o = U + 5 ∧ j = l + 1)) s7 (zsI (zsI (zsI s7 (U + 4) l (zi val)) U 0 (zn (l + 1))) (U + 5) (l + 1) (zn c')) := ((zOf.rf.sI (by omega)).sI (by omega)).sI (by omega)
  have rk8 := w73.of e8 (fun o j hw => by unfold gRdC; omega)
  obtain ⟨s9, a91, a92, a93, a94⟩ := takeC rk8 (k := 59) (by omega)
  have A9 : m_X3_take 3 59 (zsI (zsI (zsI s7 (U + 4) l (zi val)) U 0 (zn (l + 1))) (U + 5) (l + 1) (zn c')) = _ := a91
  have fs9 : zOf (gSuC U) s s9 := (fs7.tr (e8.mono (fun o j hw => Or.inr (by omega)))).tr (fC a94)
  have CLf : ∀ b : Int32, (b = 0 ∨ b = 1) → m_X3_take 3 59 (zsI (zsI (zsI s7 (U + 4) l (zi val)) U 0 (zn (l + 1))) (U + 5) (l + 1) (zn c')) = some (b, s9) → m_X6_readLine U 3 s = some (b, s9) := fun b hb hq => by
    rw [CL, Y5, zcl_some, if_neg one0, A5, if_pos k5, zcl_some, if_neg one0, A7, r7e, zcl_some, if_neg one0]
    simp only [i0, n4, n5, g2, g3, g4, g2', g3', g5', or_self, if_false, zlt_eq, w74, i0', zn_succ, i0'', i11, hq, zcl_some, hb, if_true]
  have e59 : zI t7 64 6 = 59 ↔ tkd B N true p7 = 59 := (m7.so (k := 59) (by omega)).trans (msr_s (by omega) (by omega))
  have zt7 : zI t7 64 2 = 0 := m7.2.2.2.2.1
  by_cases k9 : tkd B N true p7 = 59
  rotate_left
  · obtain ⟨t9, q1, q2, q3⟩ := wrM m7 2
    have Q1 : m_X9_wrong 64 2 t7 = some t9 := q1
    have hp := q2.pos (fc_ne (by omega)) (fc_lt (by omega))
    refine ⟨0, s9, t9, CLf 0 (Or.inl rfl) (by rw [A9, if_neg k9]), ?_, Or.inr ⟨rfl, _, _, fc_ne (by omega), fc_lt (by omega), a93 k9, q2⟩, fs9, ft7.tr (fM q3)⟩
    rw [ML2]
    simp only [m_X9_readLine_130, m_X9_readLine_183, nf4, if_false, Q5, zcv_some, B6, B7, zcl_some, zt7, if_true, e59, k9, Q1, hp]
  obtain ⟨t9, q91, q92, q93⟩ := tokM m7 (by omega)
  replace a92 := a92 k9
  have nf7 : ¬ (0 : Int32) < zI t7 64 2 := by rw [zt7]; decide
  have xM9 : xM l W kd' vl' c' u' [] 0 t9 := ((q52.of b64).of b73).of q93
  have j64 : zI t9 64 64 = zn l := xM9.1.1
  have e10 : zOf (fun o j => (o = 93 ∧ j = l) ∨ (o = 97 ∧ j = l) ∨ (o = 64 ∧ j = 64) ∨ (o = 96 ∧ j = l + 1)) t9 (zsI (zsI (zsI (zsL t9 93 l (zq (c256 w0 : Int))) 97 l (zi val)) 64 64 (zn (l + 1))) 96 (l + 1) (zn c')) := (((zOf.rf.sL (by omega)).sI (by omega)).sI (by omega)).sI (by omega)
  have oldS : ∀ o j, U ≤ o → (o = U + 3 ∨ o = U + 4 ∨ o = U + 5) → j < l → zI s9 o j = zI s o j ∧ zL s9 o j = zL s o j := fun o j h1 h2 h3 => by
    have r1 := a94 o j (by unfold gPC; omega)
    have r2 := e8 o j (by omega)
    have r3 := a73 o j (by unfold gPC; omega)
    have r4 := a54 o j (by unfold gPC; omega)
    have r5 := x2 o j (by unfold gEC gPC gXC; omega)
    have r6 := e3 o j (by omega)
    have r7 := cS2 o j (by omega) (by omega)
    exact ⟨by rw [r1.1, r2.1, r3.1, r4.1, r5.1, r6.1, r7.1], by rw [r1.2.1, r2.2.1, r3.2.1, r4.2.1, r5.2.1, r6.2.1, r7.2]⟩
  have s95 : zI s9 (U + 5) l = zn c := by
    rw [(a94 (U + 5) l (by unfold gPC; omega)).1, (e8 (U + 5) l (by omega)).1, (a73 (U + 5) l (by unfold gPC; omega)).1, (a54 (U + 5) l (by unfold gPC; omega)).1, (x2 (U + 5) l (by unfold gEC gPC gXC; omega)).1, zI_sI, if_pos ⟨rfl, rfl⟩]
  have oldT : ∀ o j, (o = 97 ∨ o = 96) → j < l → zI t9 o j = zI t o j := fun o j h1 h2 => by
    have r1 := q93 o j (by unfold gPM; omega)
    have r2 := b73 o j (by unfold gPM; omega)
    have r3 := b64 o j (by unfold gPM; omega)
    have r4 := q53 o j (by unfold gXM; omega)
    have r5 := x3 o j (by unfold gEM gPM gXM; omega)
    have r6 := e4 o j (by omega)
    have r7 := cU2 o j (by omega)
    rw [r1.1, r2.1, r3.1, r4.1, r5.1, r6.1, r7.1]
  have t96 : zI t9 96 l = zn c := by
    rw [(q93 96 l (by unfold gPM; omega)).1, (b73 96 l (by unfold gPM; omega)).1, (b64 96 l (by unfold gPM; omega)).1, (q53 96 l (by unfold gXM; omega)).1, (x3 96 l (by unfold gEM gPM gXM; omega)).1, zI_sI, if_pos ⟨rfl, rfl⟩]
  have fsl : ∀ i, i < l → up fs (l + 1) c' i = fs i ∧ up fs (l + 1) c' (i + 1) = fs (i + 1) := fun i hi => ⟨up_ne _ _ (by omega), up_ne _ _ (by omega)⟩
  have fsl0 : up fs (l + 1) c' l = c := (up_ne _ _ (by omega)).trans O5
  have nm9 : zL s9 (U + 3) l = zq (c27 w0 : Int) := by
    rw [(a94 (U + 3) l (by unfold gPC; omega)).2.1, (e8 (U + 3) l (by omega)).2.1, (a73 (U + 3) l (by unfold gPC; omega)).2.1, (a54 (U + 3) l (by unfold gPC; omega)).2.1, (x2 (U + 3) l (by unfold gEC gPC gXC; omega)).2.1, (e3 (U + 3) l (by omega)).2.1, (a24 (U + 3) l (by unfold gPC; omega)).2.1]; exact w4
  refine ⟨1, s9, zsI (zsI (zsI (zsL t9 93 l (zq (c256 w0 : Int))) 97 l (zi val)) 64 64 (zn (l + 1))) 96 (l + 1) (zn c'), CLf 1 (Or.inr rfl) (by rw [A9, if_pos k9]), ?_, Or.inl ⟨rfl, hl, tnx B N p7, c', u', up W l w0, kd', vl', up pr l (zi val), up fs (l + 1) c', ?_, a92, q92.of e10 (fun o j hw => by unfold gRdM; omega), ⟨⟨?_, ?_, ?_, fun k hk => ?_, fun k hk => ?_⟩, fun i hi => ?_⟩, ⟨⟨?_, ?_, ?_⟩, fun k hk => ?_, fun k hk => ?_, fun i hi => ?_⟩, ⟨by omega, nmL_up O2 hw0 w1, y14.2.1, by have := y14.2.2.1; omega, up_eq _ _ _, fun i hi => ?_⟩⟩, fs9, (ft7.tr (fM q93)).tr (e10.mono (fun o j hw => Or.inr (by omega)))⟩
  · rw [ML2]
    have j62 : zI (zsI (zsI (zsL t9 93 l (zq (c256 w0 : Int))) 97 l (zi val)) 64 64 (zn (l + 1))) 64 62 = zn c' := by rw [zI_sI, if_neg (by omega), zI_sI, if_neg (by omega), zI_sL]; exact xM9.1.2.2
    have j64' : zI (zsL t9 93 l (zq (c256 w0 : Int))) 64 64 = zn l := by rw [zI_sL]; exact j64
    have j64'' : zI (zsI (zsL t9 93 l (zq (c256 w0 : Int))) 97 l (zi val)) 64 64 = zn l := by rw [zI_sI, if_neg (by omega)]; exact j64'
    have j64''' : zI (zsI (zsI (zsL t9 93 l (zq (c256 w0 : Int))) 97 l (zi val)) 64 64 (zn (l + 1))) 64 64 = zn (l + 1) := by rw [zI_sI, if_pos ⟨rfl, rfl⟩]
    simp only [m_X9_readLine_130, m_X9_readLine_183, nf4, if_false, Q5, zcv_some, B6, B7, zcl_some, zt7, if_true, e59, k9, nf, q91, j64, zT_64_50, zT_64_54, zT_64_53, zN_93, zN_97, zN_96, g2, g3, g4, or_self, zlt_eq, w6, v7e, j64', j64'', zn_succ, j64''', g2', g3', g5', j62]
  · have := tnx_bd (B := B) m7.1
    have q1 := tnx_bd (B := B) a22.1
    omega
  · rw [(a94 U 0 (by unfold gPC; omega)).1, zI_sI, if_neg (by omega), zI_sI, if_pos ⟨rfl, rfl⟩]
  · rw [(a94 U 1 (by unfold gPC; omega)).1, (e8 U 1 (by omega)).1]; exact xC7.2.1
  · rw [(a94 U 11 (by unfold gPC; omega)).1, (e8 U 11 (by omega)).1]; exact xC7.2.2.1
  · by_cases hkl : k = l
    · rw [hkl, up_eq]; exact nm9
    · rw [up_ne _ _ (show k < l by omega), (oldS (U + 3) k (by omega) (by omega) (by omega)).2]; exact hC.1.2.2.2.1 k (by omega)
  · rw [(a94 (U + 6) k (by unfold gPC; omega)).1, (e8 (U + 6) k (by omega)).1, (a94 (U + 7) k (by unfold gPC; omega)).1, (e8 (U + 7) k (by omega)).1]
    exact xC7.2.2.2.2 k hk
  · by_cases hil : i = l
    · subst hil
      rw [up_eq, up_eq, fsl0]
      refine ⟨?_, s95, ?_⟩
      · rw [(a94 (U + 4) i (by unfold gPC; omega)).1, zI_sI, if_neg (by omega), zI_sI, if_neg (by omega), zI_sI, if_pos ⟨rfl, rfl⟩]
      · rw [(a94 (U + 5) (i + 1) (by unfold gPC; omega)).1, zI_sI, if_pos ⟨rfl, rfl⟩]
    · have hi' : i < l := by omega
      obtain ⟨r1, r2, r3⟩ := hC.2 i hi'
      rw [up_ne _ _ hi', (fsl i hi').1, (fsl i hi').2]
      refine ⟨(oldS (U + 4) i (by omega) (by omega) hi').1.trans r1, (oldS (U + 5) i (by omega) (by omega) hi').1.trans r2, ?_⟩
      by_cases hi1 : i + 1 = l
      · rw [hi1, s95, O5]
      · exact (oldS (U + 5) (i + 1) (by omega) (by omega) (by omega)).1.trans r3
  · rw [zI_sI, if_neg (by omega), zI_sI, if_pos ⟨rfl, rfl⟩]
  · rw [(e10 64 63 (by omega)).1]; exact xM9.1.2.1
  · rw [(e10 64 62 (by omega)).1]; exact xM9.1.2.2
  · by_cases hkl : k = l
    · rw [hkl, up_eq, zL_sI, zL_sI, zL_sI, zL_sL, if_pos ⟨rfl, rfl⟩]
    · rw [up_ne _ _ (show k < l by omega), (e10 93 k (by omega)).2.1]; exact xM9.2.1 k (by omega)
  · rw [(e10 94 k (by omega)).1, (e10 95 k (by omega)).1]; exact xM9.2.2.1 k hk
  · by_cases hil : i = l
    · subst hil
      rw [up_eq, up_eq, fsl0]
      refine ⟨?_, ?_, ?_⟩
      · rw [zI_sI, if_neg (by omega), zI_sI, if_neg (by omega), zI_sI, if_pos ⟨rfl, rfl⟩]
      · rw [(e10 96 i (by omega)).1]; exact t96
      · rw [zI_sI, if_pos ⟨rfl, rfl⟩]
    · have hi' : i < l := by omega
      obtain ⟨r1, r2, r3⟩ := hM.2.2.2 i hi'
      rw [up_ne _ _ hi', (fsl i hi').1, (fsl i hi').2]
      refine ⟨((e10 97 i (by omega)).1.trans (oldT 97 i (by omega) hi')).trans r1, ((e10 96 i (by omega)).1.trans (oldT 96 i (by omega) hi')).trans r2, ?_⟩
      by_cases hi1 : i + 1 = l
      · rw [hi1, (e10 96 l (by omega)).1, t96, O5]
      · exact ((e10 96 (i + 1) (by omega)).1.trans (oldT 96 (i + 1) (by omega) (by omega))).trans r3
  · by_cases hil : i = l
    · subst hil
      rw [up_eq, fsl0]
      refine ⟨by omega, Nat.le_refl _, ?_⟩
      have m1 : mm' = 1 := by simpa using y15
      have := wP_wf (c' - c) 0 mm' y14.2.2.2.2.2 (by rw [m1]; rfl)
      rw [Nat.add_zero] at this
      exact this
    · have hi' : i < l := by omega
      obtain ⟨r1, r2, r3⟩ := O6 i hi'
      rw [(fsl i hi').1, (fsl i hi').2]
      exact ⟨r1, by omega, wfF_congr _ _ _ (fun k h1 h2 => y4 k (by omega)) r3⟩
