def gEC (U o j : Nat) : Prop := gPC o j ∨ gXC U o j
def gEM (o j : Nat) : Prop := gPM o j ∨ gXM o j
def noSg (k : Nat) : Prop := k ≠ 43 ∧ k ≠ 45 ∧ k ≠ 42 ∧ k ≠ 47
def sameTo (c : Nat) (kd kd' : Nat → Nat) (vl vl' : Nat → Int32) : Prop := ∀ k, k < c → kd' k = kd k ∧ vl' k = vl k
/-- an expression at a depth: what both come to -/
def EX (B : Nat → Nat) (N U l fs : Nat) (W : Nat → List Nat) (fr : Nat → Nat → Int32 → zSt → Option (Int32 × zSt)) (D : Nat) : Prop := ∀ (p c u mm fM : Nat) (K : List Nat) (kd : Nat → Nat) (vl : Nat → Int32) (s t : zSt), rkC B N true p s → rkM B N true p t → xC U l W kd vl c u s → xM l W kd vl c u K D t → xO l fs kd vl c u mm → mm + D = K.length → stopR 0 K → N - p + 2 ≤ fM →
  ∃ s' t', ((∃ (p' c' e' u' mm' fM' : Nat) (L : List Nat) (kd' : Nat → Nat) (vl' : Nat → Int32), p < p' ∧ N - p' + 2 ≤ fM' ∧ u < u' ∧ c ≤ c' ∧ sameTo c kd kd' vl vl' ∧ fr U 3 (zn D) s = some (1, s') ∧ (∀ kk w, lp_X9_readLine_83 64 kk fM w 1 t = lp_X9_readLine_83 64 kk fM' w 0 t') ∧ rkC B N true p' s' ∧ rkM B N true p' t' ∧ xC U l W kd' vl' c' u' s' ∧ xM l W kd' vl' e' u' (L ++ K) D t' ∧ pmt kd' vl' c' e' L ∧ (∀ x ∈ L, 2 ≤ x ∧ x ≤ 5) ∧ L.length ≤ 2 ∧ xO l fs kd' vl' c' u' mm' ∧ mm' + D = K.length + 1 ∧ noSg (tkd B N true p')) ∨ (∃ f pl, f ≠ 0 ∧ f < 100 ∧ fr U 3 (zn D) s = some (0, s') ∧ (∀ kk w, lp_X9_readLine_83 64 kk fM w 1 t = kk w t') ∧ flC f pl s' ∧ flM f pl t')) ∧ zOf (gEC U) s s' ∧ zOf gEM t t'
def UXo (B : Nat → Nat) (N U l fs : Nat) (W : Nat → List Nat) (fr : Nat → Nat → Int32 → zSt → Option (Int32 × zSt)) (D p c u fM : Nat) (K : List Nat) (kd : Nat → Nat) (vl : Nat → Int32) (s t : zSt) : Prop := ∃ s' t', ((∃ (p' c' u' mm' fM' : Nat) (kd' : Nat → Nat) (vl' : Nat → Int32), p < p' ∧ N - p' + 2 ≤ fM' ∧ u < u' ∧ c ≤ c' ∧ sameTo c kd kd' vl vl' ∧ fr U 3 (zn D) s = some (1, s') ∧ (∀ kk w, lp_X9_readLine_83 64 kk fM w 1 t = lp_X9_readLine_83 64 kk fM' w 0 t') ∧ rkC B N true p' s' ∧ rkM B N true p' t' ∧ xC U l W kd' vl' c' u' s' ∧ xM l W kd' vl' c' u' K D t' ∧ xO l fs kd' vl' c' u' mm' ∧ mm' + D = K.length + 1) ∨ (∃ f pl, f ≠ 0 ∧ f < 100 ∧ fr U 3 (zn D) s = some (0, s') ∧ (∀ kk w, lp_X9_readLine_83 64 kk fM w 1 t = kk w t') ∧ flC f pl s' ∧ flM f pl t')) ∧ zOf (gEC U) s s' ∧ zOf gEM t t'
/-- a unit at a depth -/
def UX (B : Nat → Nat) (N U l fs : Nat) (W : Nat → List Nat) (fr : Nat → Nat → Int32 → zSt → Option (Int32 × zSt)) (D : Nat) : Prop := ∀ (p c u mm fM : Nat) (K : List Nat) (kd : Nat → Nat) (vl : Nat → Int32) (s t : zSt), rkC B N true p s → rkM B N true p t → xC U l W kd vl c u s → xM l W kd vl c u K D t → xO l fs kd vl c u mm → mm + D = K.length → N - p + 2 ≤ fM →
  UXo B N U l fs W fr D p c u fM K kd vl s t
theorem lp83F {t : zSt} (h : 0 < zI t 64 2) {kk : Int64 → zSt → Option zSt} {f : Nat} (hf : 1 ≤ f) (w : Int64) (x : Int32) : lp_X9_readLine_83 64 kk f w x t = kk w t := by
  have hz : ¬ zI t 64 2 = 0 := fun hz => by rw [hz] at h; exact absurd h (by decide)
  obtain ⟨f, rfl⟩ : ∃ g, f = g + 1 := ⟨f - 1, by omega⟩
  simp only [lp_X9_readLine_83, bd_X9_readLine_83, hz, if_false]
theorem lp83U {t : zSt} (h : zI t 64 2 = 0) {kk : Int64 → zSt → Option zSt} {f : Nat} (w : Int64) : lp_X9_readLine_83 64 kk (f + 1) w 1 t = zcl (m_X9_unit 64 t) (fun r s => lp_X9_readLine_83 64 kk f w r s) := by
  simp only [lp_X9_readLine_83, bd_X9_readLine_83, m_X9_readLine_111, m_X9_readLine_126, h, if_true, show ¬ (1 : Int32) = 0 by decide, if_false]
theorem xO.opd {l fs : Nat} {kd : Nat → Nat} {vl : Nat → Int32} {c u mm : Nat} (h : xO l fs kd vl c u mm) (hu : u < 60) {x : Nat} {v : Int32} (hx : x < 2) (hv : x = 1 → ∃ r, r < l ∧ v = zn r) : xO l fs (up kd c x) (up vl c v) (c + 1) (u + 1) (mm + 1) := by
  obtain ⟨h1, h2, h3, h4, h5, h6⟩ := h
  refine ⟨h1, by omega, by omega, by omega, by omega, ?_⟩
  rw [show c + 1 - fs = (c - fs) + 1 by omega]
  have ec : fs + (c - fs) = c := by omega
  refine ⟨mm, wP_congr (c - fs) mm (fun k hk => ⟨up_ne _ _ (by omega), up_ne _ _ (by omega)⟩) h6, ?_, ?_, ?_⟩
  · rw [ec, up_eq]; omega
  · rw [ec, up_eq, up_eq]; exact hv
  · rw [ec, up_eq, if_pos hx]; omega
theorem xO.sgn {l fs : Nat} {kd : Nat → Nat} {vl : Nat → Int32} {c u mm : Nat} (h : xO l fs kd vl c u mm) (hm : 2 ≤ mm) {x : Nat} {v : Int32} (hx : 2 ≤ x ∧ x ≤ 5) : xO l fs (up kd c x) (up vl c v) (c + 1) u (mm - 1) := by
  obtain ⟨h1, h2, h3, h4, h5, h6⟩ := h
  refine ⟨h1, by omega, by omega, by omega, by omega, ?_⟩
  rw [show c + 1 - fs = (c - fs) + 1 by omega]
  have ec : fs + (c - fs) = c := by omega
  refine ⟨mm, wP_congr (c - fs) mm (fun k hk => ⟨up_ne _ _ (by omega), up_ne _ _ (by omega)⟩) h6, ?_, ?_, ?_⟩
  · rw [ec, up_eq]; omega
  · rw [ec, up_eq]; intro hh; omega
  · rw [ec, up_eq, if_neg (by omega)]; omega
theorem sameTo_up {c c' : Nat} {kd : Nat → Nat} {vl : Nat → Int32} (h : c ≤ c') (x : Nat) (v : Int32) : sameTo c kd (up kd c' x) vl (up vl c' v) := fun k hk => ⟨up_ne _ _ (by omega), up_ne _ _ (by omega)⟩
theorem sameTo.tr {c c' : Nat} {kd kd' kd'' : Nat → Nat} {vl vl' vl'' : Nat → Int32} (h : sameTo c kd kd' vl vl') (h' : sameTo c' kd' kd'' vl' vl'') (hc : c ≤ c') : sameTo c kd kd'' vl vl'' := fun k hk => ⟨(h' k (by omega)).1.trans (h k hk).1, (h' k (by omega)).2.trans (h k hk).2⟩
theorem xM.up {l : Nat} {W : Nat → List Nat} {kd kd' : Nat → Nat} {vl vl' : Nat → Int32} {e u : Nat} {st : List Nat} {D : Nat} {t : zSt} (h : xM l W kd vl e u st D t) (hs : sameTo e kd kd' vl vl') : xM l W kd' vl' e u st D t := ⟨h.1, h.2.1, fun k hk => by rw [(hs k hk).1, (hs k hk).2]; exact h.2.2.1 k hk, h.2.2.2⟩
/-- units go up in both -/
theorem xC.un {U l : Nat} {W : Nat → List Nat} {kd : Nat → Nat} {vl : Nat → Int32} {c u : Nat} {s : zSt} (h : xC U l W kd vl c u s) : xC U l W kd vl c (u + 1) (zsI s U 1 (zn (u + 1))) := by
  obtain ⟨a1, a2, a3, a4, a5⟩ := h
  refine ⟨by rw [zI_sI, if_neg (by omega)]; exact a1, by rw [zI_sI, if_pos ⟨rfl, rfl⟩], by rw [zI_sI, if_neg (by omega)]; exact a3, fun k hk => a4 k hk, fun k hk => ?_⟩
  rw [zI_sI, if_neg (by omega), zI_sI, if_neg (by omega)]
  exact a5 k hk
theorem xM.un {l : Nat} {W : Nat → List Nat} {kd : Nat → Nat} {vl : Nat → Int32} {e u : Nat} {st : List Nat} {D : Nat} {t : zSt} (h : xM l W kd vl e u st D t) : xM l W kd vl e (u + 1) st D (zsI t 64 63 (zn (u + 1))) := by
  obtain ⟨⟨a1, a2, a3⟩, b1, b2, ⟨c1, c2⟩, d1⟩ := h
  refine ⟨⟨by rw [zI_sI, if_neg (by omega)]; exact a1, by rw [zI_sI, if_pos ⟨rfl, rfl⟩], by rw [zI_sI, if_neg (by omega)]; exact a3⟩, fun k hk => b1 k hk, fun k hk => ?_, ⟨by rw [zI_sI, if_neg (by omega)]; exact c1, c2.of (fun k _ => by rw [zI_sI, if_neg (by omega)])⟩, by rw [zI_sI, if_neg (by omega)]; exact d1⟩
  rw [zI_sI, if_neg (by omega), zI_sI, if_neg (by omega)]
  exact b2 k hk
theorem unit_step {B : Nat → Nat} {N U l fs : Nat} {W : Nat → List Nat} (hU : isU U) (hL : nmL W l) {fr : Nat → Nat → Int32 → zSt → Option (Int32 × zSt)} {D : Nat} (hD : D ≤ 7) (hE : D < 7 → EX B N U l fs W fr (D + 1)) : UX B N U l fs W (f_X6_readUnit fr) D := by
  intro p c u mm fM K kd vl s t h h' hC hM hO hmm hfM
  obtain ⟨-, ⟨-, -, t4, -, -, -, -, -, -⟩, ⟨-, -, n3, -, -, -, -, -, -⟩⟩ := hU.c
  have hUb := hU.lt
  obtain ⟨f, rfl⟩ : ∃ g, fM = g + 1 := ⟨fM - 1, by omega⟩
  have one0 : ¬ (1 : Int32) = 0 := by decide
  have z0 : zI t 64 2 = 0 := h'.2.2.2.2.1
  have nf : ¬ (0 : Int32) < 0 := by decide
  have hkl := h.lt
  have e40 : zI s 3 4 = 40 ↔ tkd B N true p = 40 := h.kd (k := 40) (by omega)
  have e3 : zI s 3 4 = 3 ↔ tkd B N true p = 3 := h.kd (k := 3) (by omega)
  have e2 : zI s 3 4 = 2 ↔ tkd B N true p = 2 := h.kd (k := 2) (by omega)
  have m40 : zI t 64 6 = 40 ↔ tkd B N true p = 40 := (h'.so (k := 40) (by omega)).trans (msr_s (by omega) (by omega))
  have m2 : zI t 64 6 = 2 ↔ tkd B N true p = 3 := (h'.so (k := 2) (by omega)).trans (msr_2 _)
  have u60 : zn u < 60 ↔ u < 60 := zn_lt (b := 60) (by have := hO.2.1; omega) (by omega)
  have v60 : zn u = 60 ↔ u = 60 := zn_inj (b := 60) (by have := hO.2.1; omega) (by omega)
  have d6 : (6 : Int32) < zn D ↔ 6 < D := zn_lt (a := 6) (by omega) (by omega)
  have d7 : zn D < 7 ↔ D < 7 := zn_lt (b := 7) (by omega) (by omega)
  have hu60 := hO.2.1
  have gP : ∀ {x y : zSt}, zOf gPC x y → zOf (gEC U) x y := fun e => e.mono (fun o j hw => Or.inl hw)
  have gQ : ∀ {x y : zSt}, zOf gPM x y → zOf gEM x y := fun e => e.mono (fun o j hw => Or.inl hw)
  -- a refusal with code 2
  have wrong2 : (∀ s1, m_X3_refuse 3 2 s = some (0, s1) → f_X6_readUnit fr U 3 (zn D) s = some (0, s1)) → (∃ x, m_X9_unit 64 t = m_X9_unit_53 64 x t) → UXo B N U l fs W (f_X6_readUnit fr) D p c u (f + 1) K kd vl s t := fun x1 x2 => by
    obtain ⟨s1, a1, a2, a3⟩ := refC h 2
    obtain ⟨u1, b1, b2, b3⟩ := wrM h' 2
    have B1 : m_X9_wrong 64 2 t = some u1 := b1
    have hp := b2.pos (fc_ne (by omega)) (fc_lt (by omega))
    obtain ⟨x, hx⟩ := x2
    refine ⟨s1, u1, Or.inr ⟨_, _, fc_ne (by omega), fc_lt (by omega), x1 s1 a1, fun kk w => ?_, a2, b2⟩, gP a3, gQ b3⟩
    rw [lp83U z0, hx]
    simp only [m_X9_unit_53, m_X9_unit_81, B1, zcv_some, hp, if_true, zcl_some]
    exact lp83F hp (by omega) w 1
  by_cases hop : tkd B N true p = 40
  · -- an opening
    by_cases hbad : u = 60 ∨ 6 < D
    · refine wrong2 (fun s1 q => ?_) ⟨0, ?_⟩
      · simp only [f_X6_readUnit, m_X6_readUnit_14, m_X6_readUnit_41, m_X6_readUnit_60, e40, hop, if_true, one0, if_false, hC.2.1, u60, d6]
        by_cases hu : u < 60
        · simp only [hu, if_true, show 6 < D by omega, q, zcl_some, true_or]
        · simp only [hu, if_false, q, zcl_some, true_or, if_true]
      · simp only [m_X9_unit, m_X9_unit_26, isName_eq h', hop, show ¬ (40 : Nat) = 2 by decide, if_false, zcl_some, m2, show ¬ (40 : Nat) = 3 by decide, m40, if_true, hM.1.2.1, v60, hM.2.2.2.2, d7]
        by_cases hu : u = 60
        · simp only [hu, if_true]
        · simp only [hu, if_false, show ¬ D < 7 by omega]
    · have hu : u < 60 := by omega
      have hD7 : D < 7 := by omega
      -- both open
      have hC1 := hC.un
      have ec : zOf (fun o j => o = U ∧ j = 1) s (zsI s U 1 (zn (u + 1))) := zOf.rf.sI ⟨rfl, rfl⟩
      obtain ⟨s1, a1, a2, a3⟩ := advC (h.of ec (fun o j hw => by unfold gRdC; omega))
      have hC2 := hC1.of a3 (by omega)
      have hM1 := hM.un
      have em : zOf (fun o j => (o = 64 ∧ (j = 63 ∨ j = 67 ∨ j = 68)) ∨ o = 102) t (zsI (zsI (zsI (zsI t 64 63 (zn (u + 1))) 102 K.length 30) 64 67 (zn (K.length + 1))) 64 68 (zn (D + 1))) := (((zOf.rf.sI (by omega)).sI (by omega)).sI (by omega)).sI (by omega)
      obtain ⟨t1, b1, b2, b3⟩ := tokM (h'.of em (fun o j hw => by unfold gRdM; omega)) (by omega)
      have hKl : K.length ≤ 67 := by have := hO.2.2.2.1; omega
      have hM2 : xM l W kd vl c (u + 1) (6 :: K) (D + 1) (zsI (zsI (zsI (zsI t 64 63 (zn (u + 1))) 102 K.length 30) 64 67 (zn (K.length + 1))) 64 68 (zn (D + 1))) := by
        obtain ⟨⟨q1, q2, q3⟩, q4, q5, ⟨q6, q7⟩, q8⟩ := hM
        refine ⟨⟨(em 64 64 (by omega)).1.trans q1, ?_, (em 64 62 (by omega)).1.trans q3⟩, fun k hk => (em 93 k (by omega)).2.1.trans (q4 k hk), fun k hk => ?_, ⟨?_, ?_, q7.of (fun k hk => ?_)⟩, ?_⟩
        · simp [zI_sI, zI_sL, zI_sR, zL_sI, zL_sL, zL_sR, zR_sI, zR_sL, zR_sR]
        · rw [(em 94 k (by omega)).1, (em 95 k (by omega)).1]; exact q5 k hk
        · simp [zI_sI, zI_sL, zI_sR, zL_sI, zL_sL, zL_sR, zR_sI, zR_sL, zR_sR]
        · simp [zI_sI, zI_sL, zI_sR, zL_sI, zL_sL, zL_sR, zR_sI, zR_sL, zR_sR]; rfl
        · have : ¬ k = K.length := by omega
          simp [zI_sI, zI_sL, zI_sR, zL_sI, zL_sL, zL_sR, zR_sI, zR_sL, zR_sR, this]
        · simp [zI_sI, zI_sL, zI_sR, zL_sI, zL_sL, zL_sR, zR_sI, zR_sL, zR_sR]
      have hM3 := hM2.of b3
      have pl := nx_lt (B := B) (sm := true) h.1 (by omega)
      have plN := (tnx_bd (B := B) h.1).2.1
      have unitM : m_X9_unit 64 t = some (1, t1) := by
        have i67 : zI (zsI t 64 63 (zn (u + 1))) 64 67 = zn K.length := by rw [zI_sI, if_neg (by omega)]; exact hM.2.2.2.1.1
        have i6 : zI (zsI t 64 63 (zn (u + 1))) 64 6 = 40 := by rw [zI_sI, if_neg (by omega)]; exact m40.2 hop
        have i67' : zI (zsI (zsI t 64 63 (zn (u + 1))) 102 K.length 30) 64 67 = zn K.length := by rw [zI_sI, if_neg (by omega)]; exact i67
        have i68 : zI (zsI (zsI (zsI t 64 63 (zn (u + 1))) 102 K.length 30) 64 67 (zn (K.length + 1))) 64 68 = zn D := by rw [zI_sI, if_neg (by omega), zI_sI, if_neg (by omega), zI_sI, if_neg (by omega)]; exact hM.2.2.2.2
        have g2 : ¬ zn K.length < 0 := zn_neg (by omega)
        have g3 : (zn K.length).toNatClampNeg = K.length := zn_cl (by omega)
        have g4 : ¬ 200 ≤ K.length := by omega
        simp only [m_X9_unit, m_X9_unit_26, m_X9_unit_61, m_X9_unit_81, isName_eq h', hop, show ¬ (40 : Nat) = 2 by decide, if_false, zcl_some, m2, show ¬ (40 : Nat) = 3 by decide, m40, if_true, hM.1.2.1, v60, show ¬ u = 60 by omega, hM.2.2.2.2, d7, hD7, z0, nf, zlt_eq, zn_succ, i6, i67, i67', i68, zT_64_59, zN_102, g2, g3, g4, or_self, b1, zcv_some]
      obtain ⟨s2, t2, x1, x2, x3⟩ := hE hD7 (tnx B N p) c (u + 1) mm f (6 :: K) kd vl s1 t1 a2 b2 hC2 hM3 ⟨hO.1, by omega, by have := hO.2.2.1; omega, by have := hO.2.2.2.1; omega, hO.2.2.2.2.1, hO.2.2.2.2.2⟩ (by rw [List.length_cons]; omega) (Or.inl rfl) (by omega)
      have fs1 : zOf (gEC U) s s1 := (ec.mono (fun o j hw => Or.inr (by unfold gXC; omega))).tr (gP a3)
      have ft1 : zOf gEM t t1 := (em.mono (fun o j hw => Or.inr (by unfold gXM; omega))).tr (gQ b3)
      have redC : f_X6_readUnit fr U 3 (zn D) s = zcl (fr U 3 (zn (D + 1)) s1) (fun r10 s9 => (if r10 = 0 then some (0, s9) else zcl (m_X3_take 3 41 s9) (fun r12 s11 => (if r12 = 0 then some (0, s11) else some (1, s11))))) := by
        simp only [f_X6_readUnit, m_X6_readUnit_14, m_X6_readUnit_41, m_X6_readUnit_66, e40, hop, if_true, one0, if_false, hC.2.1, u60, hu, d6, show ¬ 6 < D by omega, zlt_eq, zn_succ, a1, zcv_some]
      rcases x1 with ⟨p', c', e', u', mm', fM', L, kd', vl', y1, y2, y3, yc, y4, y5, y6, y7, y8, y9, y10, y11, y12, y13, y14, y15, y16⟩ | ⟨f', pl', y1, y2, y3, y4, y5, y6⟩
      rotate_left
      · refine ⟨s2, t2, Or.inr ⟨f', pl', y1, y2, ?_, fun kk w => ?_, y5, y6⟩, fs1.tr x2, ft1.tr x3⟩
        · rw [redC, y3, zcl_some, if_pos rfl]
        · rw [lp83U z0, unitM, zcl_some]; exact y4 kk w
      obtain ⟨s3, c1, c2, c3, c4⟩ := takeC y7 (k := 41) (by omega)
      have C1 : m_X3_take 3 41 s2 = _ := c1
      have zz0 : zI t2 64 2 = 0 := y8.2.2.2.2.1
      obtain ⟨g, rfl⟩ : ∃ g, fM' = g + 1 := ⟨fM' - 1, by omega⟩
      have s41 : zI t2 64 6 = 41 ↔ tkd B N true p' = 41 := (y8.so (k := 41) (by omega)).trans (msr_s (by omega) (by omega))
      have s43 : zI t2 64 6 = 43 ↔ tkd B N true p' = 43 := (y8.so (k := 43) (by omega)).trans (msr_s (by omega) (by omega))
      have s45 : zI t2 64 6 = 45 ↔ tkd B N true p' = 45 := (y8.so (k := 45) (by omega)).trans (msr_s (by omega) (by omega))
      have s42 : zI t2 64 6 = 42 ↔ tkd B N true p' = 42 := (y8.so (k := 42) (by omega)).trans (msr_s (by omega) (by omega))
      have s47 : zI t2 64 6 = 47 ↔ tkd B N true p' = 47 := (y8.so (k := 47) (by omega)).trans (msr_s (by omega) (by omega))
      obtain ⟨no1, no2, no3, no4⟩ := y16
      have op1 : (0 : Int32) < zI t2 64 68 := by rw [y10.2.2.2.2]; exact (zn_lt (a := 0) (by omega) (by omega)).2 (by omega)
      have stepM : ∀ kk w, lp_X9_readLine_83 64 kk (g + 1) w 0 t2 = zcl (m_X9_sign_57 64 (-1) t2) (fun r s => lp_X9_readLine_83 64 kk g w r s) := fun kk w => by
        simp only [lp_X9_readLine_83, bd_X9_readLine_83, m_X9_readLine_111, m_X9_readLine_126, m_X9_sign, zz0, if_true, m_X9_isOpen, op1, zcl_some, one0, if_false, s43, s45, s42, s47, no1, no2, no3, no4]
      by_cases h41 : tkd B N true p' = 41
      · have hlen : (L ++ 6 :: K).length ≤ 150 := by rw [List.length_append, List.length_cons]; omega
        obtain ⟨t3, v1, v2, v3⟩ := settleM (r := 0) (by omega) (R := 6 :: K) (Or.inl rfl) (by have := y14.2.2.1; have := y14.2.1; omega) (fun x hx => ⟨(y12 x hx).1, (y12 x hx).2, by omega⟩) y10 y11 hlen
        have V1 : m_X9_settle 64 0 t2 = some t3 := v1
        have rk3 := y8.of v3 (fun o j hw => by unfold gXM at hw; unfold gRdM; omega)
        have e3' : zOf (fun o j => o = 64 ∧ (j = 67 ∨ j = 68)) t3 (zsI (zsI t3 64 67 (zn K.length)) 64 68 (zn D)) := (zOf.rf.sI (by omega)).sI (by omega)
        obtain ⟨t4', w1, w2, w3⟩ := tokM (rk3.of e3' (fun o j hw => by unfold gRdM; omega)) (by omega)
        have hM4 : xM l W kd' vl' c' u' K D (zsI (zsI t3 64 67 (zn K.length)) 64 68 (zn D)) := by
          obtain ⟨⟨q1, q2, q3⟩, q4, q5, ⟨q6, q7⟩, q8⟩ := v2
          refine ⟨⟨(e3' 64 64 (by omega)).1.trans q1, (e3' 64 63 (by omega)).1.trans q2, (e3' 64 62 (by omega)).1.trans q3⟩, fun k hk => (e3' 93 k (by omega)).2.1.trans (q4 k hk), fun k hk => ?_, ⟨by rw [zI_sI, if_neg (by omega), zI_sI, if_pos ⟨rfl, rfl⟩], q7.2.of (fun k hk => (e3' 102 k (by omega)).1)⟩, by rw [zI_sI, if_pos ⟨rfl, rfl⟩]⟩
          rw [(e3' 94 k (by omega)).1, (e3' 95 k (by omega)).1]; exact q5 k hk
        have pl3 := nx_lt (B := B) (sm := true) y7.1 (by omega)
        have pl3N := (tnx_bd (B := B) y7.1).2.1
        refine ⟨s3, t4', Or.inl ⟨tnx B N p', c', u', mm', g, kd', vl', by omega, by omega, by omega, yc, y4, ?_, fun kk w => ?_, c2 h41, w2, y9.of c4 (by omega), hM4.of w3, y14, by rw [List.length_cons] at y15; omega⟩, (fs1.tr x2).tr (gP c4), (((ft1.tr x3).tr (v3.mono (fun o j hw => Or.inr hw))).tr (e3'.mono (fun o j hw => Or.inr (by unfold gXM; omega)))).tr (gQ w3)⟩
        · rw [redC, y5, zcl_some, if_neg one0, C1, if_pos h41, zcl_some, if_neg one0]
        · rw [lp83U z0, unitM, zcl_some, y6 kk w, stepM]
          have i67 : zI t3 64 67 = zn (K.length + 1) := v2.2.2.2.1.1
          have i68 : zI (zsI t3 64 67 (zn K.length)) 64 68 = zn (D + 1) := by rw [zI_sI, if_neg (by omega)]; exact v2.2.2.2.2
          simp only [m_X9_sign_57, s41, h41, if_true, m_X9_isOpen, op1, zcl_some, one0, if_false, V1, zcv_some, i67, zn_pred, zlt_eq, i68, w1]
      · obtain ⟨t3, v1, v2, v3⟩ := wrM y8 2
        have V1 : m_X9_wrong 64 2 t2 = some t3 := v1
        have hp := v2.pos (fc_ne (by omega)) (fc_lt (by omega))
        refine ⟨s3, t3, Or.inr ⟨_, _, fc_ne (by omega), fc_lt (by omega), ?_, fun kk w => ?_, c3 h41, v2⟩, (fs1.tr x2).tr (gP c4), (ft1.tr x3).tr (gQ v3)⟩
        · rw [redC, y5, zcl_some, if_neg one0, C1, if_neg h41, zcl_some, if_pos rfl]
        · rw [lp83U z0, unitM, zcl_some, y6 kk w, stepM]
          simp only [m_X9_sign_57, m_X9_sign_105, s41, h41, if_false, show (-1 : Int32) < 0 by decide, if_true, V1, zcv_some, zcl_some]
          exact lp83F hp (by omega) w 0
  -- no opening
  have redC0 : f_X6_readUnit fr U 3 (zn D) s = m_X6_readUnit_14 fr U 3 (zn D) 0 s := by
    simp only [f_X6_readUnit, e40, hop, if_false]
  by_cases hnn : tkd B N true p = 3 ∨ tkd B N true p = 2
  rotate_left
  · refine wrong2 (fun s1 q => ?_) ⟨0, ?_⟩
    · rw [redC0]
      simp only [m_X6_readUnit_14, if_true, e3, e2, show ¬ tkd B N true p = 3 by omega, show ¬ tkd B N true p = 2 by omega, if_false, q, zcl_some, true_or]
    · simp only [m_X9_unit, isName_eq h', show ¬ tkd B N true p = 2 by omega, if_false, zcl_some, m2, show ¬ tkd B N true p = 3 by omega, m40, hop, if_true]
  have redC1 : f_X6_readUnit fr U 3 (zn D) s = m_X6_readUnit_41 fr U 3 (zn D) 0 s := by
    rw [redC0]
    simp only [m_X6_readUnit_14, if_true, e3, e2]
    by_cases x : tkd B N true p = 3
    · rw [if_pos x]
    · rw [if_neg x, if_pos (by omega)]
  have redM1 : m_X9_unit 64 t = m_X9_unit_26 64 (if tkd B N true p = 2 then 1 else 0) t := by
    simp only [m_X9_unit, isName_eq h', zcl_some, m2, m40, hop, if_false]
    by_cases x : tkd B N true p = 3
    · rw [if_pos x]
    · rw [if_neg x, if_pos (show tkd B N true p = 2 by omega), if_neg one0]
  by_cases hu : u = 60
  · refine wrong2 (fun s1 q => ?_) ⟨if tkd B N true p = 2 then 1 else 0, ?_⟩
    · rw [redC1]
      simp only [m_X6_readUnit_41, m_X6_readUnit_60, hC.2.1, u60, show ¬ u < 60 by omega, if_false, q, zcl_some, true_or, if_true]
    · rw [redM1]
      simp only [m_X9_unit_26, hM.1.2.1, eq_true (v60.2 hu), if_true]
  have hu6 : u < 60 := by omega
  have redC2 : f_X6_readUnit fr U 3 (zn D) s = m_X6_readUnit_66 fr U 3 (zn D) 0 s := by
    rw [redC1]
    simp only [m_X6_readUnit_41, hC.2.1, u60, hu6, if_true]
  have redM2 : m_X9_unit 64 t = m_X9_unit_61 64 (if tkd B N true p = 2 then 1 else 0) t := by
    rw [redM1]
    simp only [m_X9_unit_26, hM.1.2.1, v60, hu, if_false, m40, hop]
  have ec : zOf (fun o j => o = U ∧ j = 1) s (zsI s U 1 (zn (u + 1))) := zOf.rf.sI ⟨rfl, rfl⟩
  have em : zOf (fun o j => o = 64 ∧ j = 63) t (zsI t 64 63 (zn (u + 1))) := zOf.rf.sI ⟨rfl, rfl⟩
  have hcl : c < 120 := by have := hO.2.2.1; omega
  have pl := nx_lt (B := B) (sm := true) h.1 (by omega)
  have plN := (tnx_bd (B := B) h.1).2.1
  -- an operand, in both
  have good : ∀ (x : Nat) (v : Int32), x < 2 → (x = 1 → ∃ r, r < l ∧ v = zn r) → (∀ s1 s2, m_X6_addStep U (ckd x) v (zsI s U 1 (zn (u + 1))) = some s1 → m_X3_advance 3 s1 = some s2 → f_X6_readUnit fr U 3 (zn D) s = some (1, s2)) → (∀ t1 t2, m_X9_note 64 (mkd x) v (zsI t 64 63 (zn (u + 1))) = some t1 → m_X9_token 64 t1 = some t2 → m_X9_unit 64 t = some (0, t2)) → UXo B N U l fs W (f_X6_readUnit fr) D p c u (f + 1) K kd vl s t := by
    intro x v hx hv q1 q2
    obtain ⟨s1, a1, a2, a3⟩ := addStepC hU hC.un hcl x v
    have rk1 := (h.of ec (fun o j hw => by unfold gRdC; omega)).of a3 (fun o j hw => by unfold gXC at hw; unfold gRdC; omega)
    obtain ⟨s2, b1, b2, b3⟩ := advC rk1
    have hMu := (hM.un).up (kd' := up kd c x) (vl' := up vl c v) (sameTo_up (Nat.le_refl c) x v)
    obtain ⟨t1, c1, c2, c3⟩ := noteM hMu (by omega) (x := x) (v := v) (up_eq _ _ _) (up_eq _ _ _)
    have rm1 := (h'.of em (fun o j hw => by unfold gRdM; omega)).of c3 (fun o j hw => by unfold gRdM; omega)
    obtain ⟨t2, d1, d2, d3⟩ := tokM rm1 (by omega)
    refine ⟨s2, t2, Or.inl ⟨tnx B N p, c + 1, u + 1, mm + 1, f, up kd c x, up vl c v, pl, by omega, by omega, by omega, sameTo_up (Nat.le_refl c) x v, q1 s1 s2 a1 b1, fun kk w => ?_, b2, d2, a2.of b3 (by omega), c2.of d3, hO.opd hu6 hx hv, by omega⟩, ((ec.mono (fun o j hw => Or.inr (by unfold gXC; omega))).tr (a3.mono (fun o j hw => Or.inr hw))).tr (gP b3), ((em.mono (fun o j hw => Or.inr (by unfold gXM; omega))).tr (c3.mono (fun o j hw => Or.inr (by unfold gXM; omega)))).tr (gQ d3)⟩
    rw [lp83U z0, q2 t1 t2 c1 d1, zcl_some]
  by_cases h3 : tkd B N true p = 3
  · -- a number
    obtain ⟨n1, nb⟩ := h.nu h3
    obtain ⟨m1, -⟩ := h'.nu h3
    have nn : ¬ zn (tnu B N p) = -1 := zn_ne1 (by omega)
    refine good 0 (zn (tnu B N p)) (by omega) (fun q => by omega) (fun s1 s2 q1 q2 => ?_) (fun t1 t2 q1 q2 => ?_)
    · have i4 : zI (zsI s U 1 (zn (u + 1))) 3 4 = 3 := by rw [zI_sI, if_neg (by omega)]; exact e3.2 h3
      have i6 : zI (zsI s U 1 (zn (u + 1))) 3 6 = zn (tnu B N p) := by rw [zI_sI, if_neg (by omega)]; exact n1
      have q1' : m_X6_addStep U 3 (zn (tnu B N p)) (zsI s U 1 (zn (u + 1))) = some s1 := q1
      rw [redC2]
      simp only [m_X6_readUnit_66, m_X6_readUnit_140, hC.2.1, zn_succ, zlt_eq, if_true, i4, i6, nn, if_false, q1', zcv_some, q2]
    · have i6 : ¬ zI (zsI t 64 63 (zn (u + 1))) 64 6 = 40 := by rw [zI_sI, if_neg (by omega), m40]; omega
      have i8 : zI (zsI t 64 63 (zn (u + 1))) 64 8 = zn (tnu B N p) := by rw [zI_sI, if_neg (by omega)]; exact m1
      have q1' : m_X9_note 64 0 (zn (tnu B N p)) (zsI t 64 63 (zn (u + 1))) = some t1 := q1
      rw [redM2]
      simp only [m_X9_unit_61, m_X9_unit_81, m_X9_unit_156, m_X9_unit_175, show ¬ tkd B N true p = 2 by omega, if_false, if_true, z0, nf, hM.1.2.1, zn_succ, zlt_eq, i6, i8, q1', zcv_some, q2]
  · have h2 : tkd B N true p = 2 := by omega
    have hw := (tkd_w (Or.inl h2) (fun k hk => (h.2.1.2.2 k hk).1) h.1).1
    have l7 : zL s 3 7 = zq (c27 (twd B N p) : Int) := h.2.2.2.2.1.2.2.2.2 h2
    have l9 : zL t 64 9 = zq (c256 (twd B N p) : Int) := h'.2.2.2.1.2.2.2.2 (Or.inl h2)
    have hl12 : l < 12 := hO.1
    have i4 : zI (zsI s U 1 (zn (u + 1))) 3 4 = 2 := by rw [zI_sI, if_neg (by omega)]; exact e2.2 h2
    have i0 : zI (zsI s U 1 (zn (u + 1))) U 0 = zn l := by rw [zI_sI, if_neg (by omega)]; exact hC.1
    have i7 : zL (zsI s U 1 (zn (u + 1))) 3 7 = zq (c27 (twd B N p) : Int) := l7
    have i6 : ¬ zI (zsI t 64 63 (zn (u + 1))) 64 6 = 40 := by rw [zI_sI, if_neg (by omega), m40]; omega
    have i9 : zL (zsI t 64 63 (zn (u + 1))) 64 9 = zq (c256 (twd B N p) : Int) := l9
    have n43 : ¬ (2 : Int32) = 3 := by decide
    rcases indexOf_eq (o := U + 3) n3 (show l ≤ 12 by omega) (by omega) hL (s := zsI s U 1 (zn (u + 1))) hC.un.2.2.2.1 hw with ⟨j, j1, j2, j3⟩ | ⟨j1, j2⟩
    · have lo1 := li_some (t := t) (show l ≤ 12 by omega) hM.1.1 hL hM.2.1 hw j1 j2
      have lo2 := li_some (t := zsI t 64 63 (zn (u + 1))) (show l ≤ 12 by omega) hM.un.1.1 hL hM.un.2.1 hw j1 j2
      have jn : ¬ zn j < 0 := zn_neg (by omega)
      refine good 1 (zn j) (by omega) (fun _ => ⟨j, j1, rfl⟩) (fun s1 s2 q1 q2 => ?_) (fun t1 t2 q1 q2 => ?_)
      · have q1' : m_X6_addStep U 2 (zn j) (zsI s U 1 (zn (u + 1))) = some s1 := q1
        rw [redC2]
        simp only [m_X6_readUnit_66, m_X6_readUnit_140, hC.2.1, zn_succ, zlt_eq, if_true, i4, n43, if_false, t4, i0, i7, j3, zcl_some, zn_ne1 (show j < 2147483648 by omega), q1', zcv_some, q2]
      · have q1' : m_X9_note 64 1 (zn j) (zsI t 64 63 (zn (u + 1))) = some t1 := q1
        rw [redM2]
        simp only [m_X9_unit_61, m_X9_unit_81, m_X9_unit_156, m_X9_unit_175, h2, if_true, one0, if_false, l9, lo1, zcl_some, jn, z0, nf, hM.1.2.1, zn_succ, zlt_eq, i6, i9, lo2, q1', zcv_some, q2]
    · have lo1 := li_none (t := t) (show l ≤ 12 by omega) hM.1.1 hL hM.2.1 hw j1
      obtain ⟨s1, a1, a2, a3⟩ := refC (h.of ec (fun o j hw => by unfold gRdC; omega)) 5
      have A1 : m_X3_refuse 3 5 (zsI s U 1 (zn (u + 1))) = some (0, s1) := a1
      obtain ⟨t1, b1, b2, b3⟩ := wrM h' 5
      have B1 : m_X9_wrong 64 5 t = some t1 := b1
      have hp := b2.pos (fc_ne (by omega)) (fc_lt (by omega))
      refine ⟨s1, t1, Or.inr ⟨_, _, fc_ne (by omega), fc_lt (by omega), ?_, fun kk w => ?_, a2, b2⟩, (ec.mono (fun o j hw => Or.inr (by unfold gXC; omega))).tr (gP a3), gQ b3⟩
      · rw [redC2]
        simp only [m_X6_readUnit_66, m_X6_readUnit_140, hC.2.1, zn_succ, zlt_eq, if_true, i4, n43, if_false, t4, i0, i7, j2, zcl_some, A1, true_or]
      · rw [lp83U z0, redM2]
        simp only [m_X9_unit_61, m_X9_unit_81, h2, if_true, one0, if_false, l9, lo1, zcl_some, show (-1 : Int32) < 0 by decide, B1, zcv_some, hp]
        exact lp83F hp (by omega) w 1
