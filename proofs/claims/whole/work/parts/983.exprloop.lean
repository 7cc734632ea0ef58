def ls (x : Nat) : List Nat := if x = 0 then [] else [x]
def sgc (x : Nat) : Int32 := if x = 0 then 0 else ckd x
theorem pmt_app {kd kd' : Nat → Nat} {vl vl' : Nat → Int32} {c c' : Nat} {L' : List Nat} : ∀ (L : List Nat) (e : Nat), pmt kd vl c e L → sameTo c kd kd' vl vl' → pmt kd' vl' c' c L' → pmt kd' vl' c' e (L ++ L') := by
  intro L
  induction L with
  | nil => intro e h _ h'; have : e = c := h; subst this; exact h'
  | cons x L ih =>
    intro e h hs h'
    have hl := pmt_le (x :: L) e h
    rw [List.length_cons] at hl
    obtain ⟨q1, q2⟩ := hs e (by omega)
    exact ⟨q1.trans h.1, q2.trans h.2.1, ih (e + 1) h.2.2 hs h'⟩
theorem ls_len (x : Nat) : (ls x).length ≤ 1 := by unfold ls; split <;> simp
theorem addSignC {U : Nat} (hU : isU U) {l fs : Nat} {W : Nat → List Nat} {kd : Nat → Nat} {vl : Nat → Int32} {c u mm : Nat} {s : zSt} (h : xC U l W kd vl c u s) (hO : xO l fs kd vl c u mm) {x : Nat} (hx : x = 0 ∨ (2 ≤ x ∧ x ≤ 5)) (hm : (ls x).length + 1 ≤ mm) : ∃ s' kd1 vl1 c1 mm1, m_X6_addSignStep U (sgc x) s = some s' ∧ xC U l W kd1 vl1 c1 u s' ∧ sameTo c kd kd1 vl vl1 ∧ c ≤ c1 ∧ xO l fs kd1 vl1 c1 u mm1 ∧ pmt kd1 vl1 c1 c (ls x) ∧ mm1 + (ls x).length = mm ∧ zOf (gXC U) s s' := by
  rcases hx with rfl | hx
  · refine ⟨s, kd, vl, c, mm, ?_, h, fun k _ => ⟨rfl, rfl⟩, Nat.le_refl c, hO, rfl, rfl, zOf.rf⟩
    simp only [m_X6_addSignStep, sgc, if_true]
  · have x0 : ¬ x = 0 := by omega
    have el : ls x = [x] := by unfold ls; rw [if_neg x0]
    have es : sgc x = ckd x := by unfold sgc; rw [if_neg x0]
    rw [el] at hm ⊢
    simp only [List.length_cons, List.length_nil] at hm
    obtain ⟨s', a1, a2, a3⟩ := addStepC hU h (by have := hO.2.2.1; have := hO.2.1; omega) x 0
    have nz : ¬ ckd x = 0 := by rcases (show x = 2 ∨ x = 3 ∨ x = 4 ∨ x = 5 by omega) with rfl | rfl | rfl | rfl <;> decide
    refine ⟨s', up kd c x, up vl c 0, c + 1, mm - 1, ?_, a2, sameTo_up (Nat.le_refl c) x 0, by omega, hO.sgn (by omega) hx, ⟨up_eq _ _ _, up_eq _ _ _, rfl⟩, by simp only [List.length_cons, List.length_nil]; omega, a3⟩
    rw [es]
    simp only [m_X6_addSignStep, nz, if_false, a1, zcv_some]
theorem lp83S {B : Nat → Nat} {N p : Nat} {t : zSt} (h : rkM B N true p t) {D : Nat} (hd : zI t 64 68 = zn D) (hD : D ≤ 7) (hk : tkd B N true p ≠ 275 ∨ 0 < D) {kk : Int64 → zSt → Option zSt} {f : Nat} (w : Int64) : lp_X9_readLine_83 64 kk (f + 1) w 0 t = zcl (m_X9_sign 64 t) (fun r s => lp_X9_readLine_83 64 kk f w r s) := by
  have z0 : zI t 64 2 = 0 := h.2.2.2.2.1
  have w19 : m_X9_isWord 64 123636697429107 t = _ := isWord_eq h (i := 19) (by omega)
  have l0 : (0 : Int32) < zn D ↔ 0 < D := zn_lt (a := 0) (by omega) (by omega)
  by_cases hd0 : 0 < D
  · simp only [lp_X9_readLine_83, bd_X9_readLine_83, m_X9_readLine_111, m_X9_readLine_126, z0, if_true, m_X9_isOpen, hd, l0, hd0, zcl_some, show ¬ (1 : Int32) = 0 by decide, if_false]
  · have hk' : ¬ tkd B N true p = 256 + 19 := by omega
    rw [if_neg hk'] at w19
    simp only [lp_X9_readLine_83, bd_X9_readLine_83, m_X9_readLine_111, m_X9_readLine_126, z0, if_true, m_X9_isOpen, hd, l0, hd0, zcl_some, if_false, w19]
theorem wsM.push {t t' : zSt} {K : List Nat} {x : Nat} (h : wsM t K) (h1 : zI t' 102 K.length = wcd x) (h2 : ∀ k, k < K.length → zI t' 102 k = zI t 102 k) : wsM t' (x :: K) := ⟨h1, h.of h2⟩
/-- the model's sign: settle, push, go on -/
theorem signM {B : Nat → Nat} {N p : Nat} {t : zSt} (h : rkM B N true p t) {x : Nat} (hx : 2 ≤ x ∧ x ≤ 5) (hk : zn (tkd B N true p) = ckd x) {l : Nat} {W : Nat → List Nat} {kd : Nat → Nat} {vl : Nat → Int32} {e c u D : Nat} {L R : List Nat} (hM : xM l W kd vl e u (L ++ R) D t) (hL : ∀ y ∈ L, 2 ≤ y ∧ y ≤ 5 ∧ rkn x ≤ rkn y) (hR : stopR (rkn x) R) (hp : pmt kd vl c e L) (hlen : (L ++ R).length ≤ 140) (hc : c ≤ 120) : ∃ t', m_X9_sign 64 t = some (1, t') ∧ rkM B N true (tnx B N p) t' ∧ xM l W kd vl c u (x :: R) D t' ∧ zOf gEM t t' := by
  have hkl := h.lt
  have s41 : zI t 64 6 = 41 ↔ tkd B N true p = 41 := (h.so (k := 41) (by omega)).trans (msr_s (by omega) (by omega))
  have s43 : zI t 64 6 = 43 ↔ tkd B N true p = 43 := (h.so (k := 43) (by omega)).trans (msr_s (by omega) (by omega))
  have s45 : zI t 64 6 = 45 ↔ tkd B N true p = 45 := (h.so (k := 45) (by omega)).trans (msr_s (by omega) (by omega))
  have s42 : zI t 64 6 = 42 ↔ tkd B N true p = 42 := (h.so (k := 42) (by omega)).trans (msr_s (by omega) (by omega))
  have s47 : zI t 64 6 = 47 ↔ tkd B N true p = 47 := (h.so (k := 47) (by omega)).trans (msr_s (by omega) (by omega))
  have key : m_X9_sign 64 t = m_X9_sign_105 64 (mkd x) t ∧ tkd B N true p ≠ 1 := by
    rcases (show x = 2 ∨ x = 3 ∨ x = 4 ∨ x = 5 by omega) with rfl | rfl | rfl | rfl
    · have k : tkd B N true p = 43 := (zn_inj (b := 43) (by omega) (by omega)).1 hk
      refine ⟨?_, by omega⟩
      simp only [m_X9_sign, m_X9_sign_57, s43, s41, k, if_true, show ¬ (43 : Nat) = 41 by decide, if_false]; rfl
    · have k : tkd B N true p = 45 := (zn_inj (b := 45) (by omega) (by omega)).1 hk
      refine ⟨?_, by omega⟩
      simp only [m_X9_sign, m_X9_sign_57, s43, s45, s41, k, if_true, show ¬ (45 : Nat) = 41 by decide, show ¬ (45 : Nat) = 43 by decide, if_false]; rfl
    · have k : tkd B N true p = 42 := (zn_inj (b := 42) (by omega) (by omega)).1 hk
      refine ⟨?_, by omega⟩
      simp only [m_X9_sign, m_X9_sign_57, s43, s45, s42, s41, k, if_true, show ¬ (42 : Nat) = 41 by decide, show ¬ (42 : Nat) = 43 by decide, show ¬ (42 : Nat) = 45 by decide, if_false]; rfl
    · have k : tkd B N true p = 47 := (zn_inj (b := 47) (by omega) (by omega)).1 hk
      refine ⟨?_, by omega⟩
      simp only [m_X9_sign, m_X9_sign_57, s43, s45, s42, s47, s41, k, if_true, show ¬ (47 : Nat) = 41 by decide, show ¬ (47 : Nat) = 43 by decide, show ¬ (47 : Nat) = 45 by decide, show ¬ (47 : Nat) = 42 by decide, if_false]; rfl
  have rb := rkn_bd x
  obtain ⟨t1, a1, a2, a3⟩ := settleM (r := rkn x) (by omega) hR hc hL hM hp (by omega)
  have hw : wcd x = mkd x := by unfold wcd; rw [if_neg (by omega)]
  have rw' := rank_wcd ⟨x, by omega⟩ hx.1 t
  dsimp only at rw'
  rw [hw] at rw'
  have nn : ¬ mkd x < 0 := by rcases (show x = 2 ∨ x = 3 ∨ x = 4 ∨ x = 5 by omega) with rfl | rfl | rfl | rfl <;> decide
  have rk1 := h.of a3 (fun o j hw => by unfold gXM at hw; unfold gRdM; omega)
  have hRl : R.length ≤ 140 := by rw [List.length_append] at hlen; omega
  have i67 : zI t1 64 67 = zn R.length := a2.2.2.2.1.1
  have g2 : ¬ zn R.length < 0 := zn_neg (by omega)
  have g3 : (zn R.length).toNatClampNeg = R.length := zn_cl (by omega)
  have g4 : ¬ 200 ≤ R.length := by omega
  have e2 : zOf (fun o j => (o = 102 ∧ j = R.length) ∨ (o = 64 ∧ j = 67)) t1 (zsI (zsI t1 102 R.length (mkd x)) 64 67 (zn (R.length + 1))) := (zOf.rf.sI (Or.inl ⟨rfl, rfl⟩)).sI (Or.inr ⟨rfl, rfl⟩)
  obtain ⟨t3, b1, b2, b3⟩ := tokM (rk1.of e2 (fun o j hw => by unfold gRdM; omega)) key.2
  have hM2 : xM l W kd vl c u (x :: R) D (zsI (zsI t1 102 R.length (mkd x)) 64 67 (zn (R.length + 1))) := by
    obtain ⟨⟨q1, q2, q3⟩, q4, q5, ⟨q6, q7⟩, q8⟩ := a2
    refine ⟨⟨(e2 64 64 (by omega)).1.trans q1, (e2 64 63 (by omega)).1.trans q2, (e2 64 62 (by omega)).1.trans q3⟩, fun k hk => (e2 93 k (by omega)).2.1.trans (q4 k hk), fun k hk => ?_, ⟨by rw [zI_sI, if_pos ⟨rfl, rfl⟩]; rfl, q7.push ?_ (fun k hk => (e2 102 k (by omega)).1)⟩, (e2 64 68 (by omega)).1.trans q8⟩
    · rw [(e2 94 k (by omega)).1, (e2 95 k (by omega)).1]; exact q5 k hk
    · rw [zI_sI, if_neg (by omega), zI_sI, if_pos ⟨rfl, rfl⟩, hw]
  refine ⟨t3, ?_, b2, hM2.of b3, ((a3.mono (fun o j hw => Or.inr hw)).tr (e2.mono (fun o j hw => Or.inr (by unfold gXM; omega)))).tr (b3.mono (fun o j hw => Or.inl hw))⟩
  have i67' : zI (zsI t1 102 R.length (mkd x)) 64 67 = zn R.length := by rw [zI_sI, if_neg (by omega)]; exact i67
  rw [key.1]
  simp only [m_X9_sign_105, nn, if_false, rw', zcl_some, a1, zcv_some, i67, zT_64_59, zN_102, g2, g3, g4, or_self, zlt_eq, i67', zn_succ, b1]
def EXo (B : Nat → Nat) (N U l fs : Nat) (W : Nat → List Nat) (X : Option (Int32 × zSt)) (D p c u fM : Nat) (K : List Nat) (kd : Nat → Nat) (vl : Nat → Int32) (s t : zSt) : Prop := ∃ s' t', ((∃ (p' c' e' u' mm' fM' : Nat) (L : List Nat) (kd' : Nat → Nat) (vl' : Nat → Int32), p < p' ∧ N - p' + 2 ≤ fM' ∧ u < u' ∧ c ≤ c' ∧ sameTo c kd kd' vl vl' ∧ X = some (1, s') ∧ (∀ kk w, lp_X9_readLine_83 64 kk fM w 1 t = lp_X9_readLine_83 64 kk fM' w 0 t') ∧ rkC B N true p' s' ∧ rkM B N true p' t' ∧ xC U l W kd' vl' c' u' s' ∧ xM l W kd' vl' e' u' (L ++ K) D t' ∧ pmt kd' vl' c' e' L ∧ (∀ x ∈ L, 2 ≤ x ∧ x ≤ 5) ∧ L.length ≤ 2 ∧ xO l fs kd' vl' c' u' mm' ∧ mm' + D = K.length + 1 ∧ noSg (tkd B N true p')) ∨ (∃ f pl, f ≠ 0 ∧ f < 100 ∧ X = some (0, s') ∧ (∀ kk w, lp_X9_readLine_83 64 kk fM w 1 t = kk w t') ∧ flC f pl s' ∧ flM f pl t')) ∧ zOf (gEC U) s s' ∧ zOf gEM t t'
theorem expr_lp {B : Nat → Nat} {N U l fs : Nat} {W : Nat → List Nat} (hU : isU U) {fr : Nat → Nat → Int32 → zSt → Option (Int32 × zSt)} {D : Nat} (hD : D ≤ 7) (hX : UX B N U l fs W fr D) : ∀ (d n p c u mm fC fM a m : Nat) (K : List Nat) (kd : Nat → Nat) (vl : Nat → Int32) (s t : zSt), n + d = 61 → d < fC → n ≤ u → (a = 0 ∨ a = 2 ∨ a = 3) → (m = 0 ∨ m = 4 ∨ m = 5) → rkC B N true p s → rkM B N true p t → xC U l W kd vl c u s → xM l W kd vl c u (ls m ++ (ls a ++ K)) D t → xO l fs kd vl c u mm → mm + D = (ls m ++ (ls a ++ K)).length → stopR 0 K → D ≤ K.length → N - p + 2 ≤ fM → EXo B N U l fs W (lp_X6_readExpression_8 fr U 3 (zn D) fC (sgc a) (sgc m) (zn n) s) D p c u fM K kd vl s t := by
  have hUb := hU.lt
  have one0 : ¬ (1 : Int32) = 0 := by decide
  have gP : ∀ {x y : zSt}, zOf gPC x y → zOf (gEC U) x y := fun e => e.mono (fun o j hw => Or.inl hw)
  have gX : ∀ {x y : zSt}, zOf (gXC U) x y → zOf (gEC U) x y := fun e => e.mono (fun o j hw => Or.inr hw)
  intro d
  induction d with
  | zero =>
    intro n p c u mm fC fM a m K kd vl s t hn _ hnu _ _ _ _ _ _ hO
    have := hO.2.1
    omega
  | succ d ih =>
    intro n p c u mm fC fM a m K kd vl s t hn hfC hnu ha hm h h' hC hM hO hmm hK hDK hfM
    obtain ⟨fC, rfl⟩ : ∃ g, fC = g + 1 := ⟨fC - 1, by omega⟩
    have l60 : ¬ (60 : Int32) < zn n := fun q => by have := (zn_lt (a := 60) (by omega) (by omega)).1 q; omega
    obtain ⟨s1, t1, x1, x2, x3⟩ := hX p c u mm fM _ kd vl s t h h' hC hM hO hmm hfM
    rcases x1 with ⟨p', c', u', mm', fM', kd', vl', y1, y2, y3, yc, y4, y5, y6, y7, y8, y9, y10, y11, y12⟩ | ⟨f', pl', y1, y2, y3, y4, y5, y6⟩
    rotate_left
    · refine ⟨s1, t1, Or.inr ⟨f', pl', y1, y2, ?_, y4, y5, y6⟩, x2, x3⟩
      simp only [lp_X6_readExpression_8, bd_X6_readExpression_8, l60, if_false, y3, zcl_some, if_true]
    -- what was to be multiplied
    have ll1 := ls_len m
    have ll2 := ls_len a
    rw [List.length_append, List.length_append] at y12 hmm
    obtain ⟨s3, kd1, vl1, c1, mm1, b1, b2, b3, b4, b5, b6, b7, b8⟩ := addSignC hU y9 y11 (x := m) (by omega) (by omega)
    have rk3 := y7.of b8 (fun o j hw => by unfold gXC at hw; unfold gRdC; omega)
    have hkl := y7.lt
    have hz : zI s3 3 4 = zn (tkd B N true p') := rk3.2.2.2.2.1.1
    have e42 : zI s3 3 4 = 42 ↔ tkd B N true p' = 42 := rk3.kd (k := 42) (by omega)
    have e47 : zI s3 3 4 = 47 ↔ tkd B N true p' = 47 := rk3.kd (k := 47) (by omega)
    have hM1 := y10.up b3
    have hlenM : (ls m ++ (ls a ++ K)).length ≤ 140 := by rw [List.length_append, List.length_append]; have := y11.2.2.2.1; have := y11.2.1; omega
    have c1b : c1 ≤ 120 := by have := b5.2.2.1; have := b5.2.1; omega
    have d68 : zI t1 64 68 = zn D := y10.2.2.2.2
    have hma : ∀ y ∈ ls m, y = m ∧ (m = 4 ∨ m = 5) := fun y hy => by
      unfold ls at hy
      by_cases m0 : m = 0
      · rw [if_pos m0] at hy; cases hy
      · rw [if_neg m0] at hy
        exact ⟨List.mem_singleton.1 hy, by omega⟩
    have haa : ∀ y ∈ ls a, y = a ∧ (a = 2 ∨ a = 3) := fun y hy => by
      unfold ls at hy
      by_cases m0 : a = 0
      · rw [if_pos m0] at hy; cases hy
      · rw [if_neg m0] at hy
        exact ⟨List.mem_singleton.1 hy, by omega⟩
    have stK : ∀ r, stopR r K := fun r => by
      cases K with
      | nil => trivial
      | cons z K' =>
        rcases hK with q | ⟨_, _, q⟩
        · exact Or.inl q
        · omega
    by_cases htm : tkd B N true p' = 42 ∨ tkd B N true p' = 47
    · obtain ⟨x, hx45, hkx⟩ : ∃ x, (x = 4 ∨ x = 5) ∧ zn (tkd B N true p') = ckd x := by
        rcases htm with q | q
        · exact ⟨4, Or.inl rfl, by rw [q]; rfl⟩
        · exact ⟨5, Or.inr rfl, by rw [q]; rfl⟩
      have r22 : rkn x = 22 := by rcases hx45 with rfl | rfl <;> rfl
      have stA : stopR (rkn x) (ls a ++ K) := by
        rw [r22]
        unfold ls
        by_cases a0 : a = 0
        · rw [if_pos a0]; exact stK 22
        · rw [if_neg a0]
          refine Or.inr ⟨by omega, by omega, ?_⟩
          rcases (show a = 2 ∨ a = 3 by omega) with rfl | rfl <;> decide
      obtain ⟨t3, v1, v2, v3, v4⟩ := signM y8 (x := x) (by omega) hkx hM1 (fun y hy => by
        obtain ⟨q1, q2⟩ := hma y hy
        rw [r22, q1]
        refine ⟨by omega, by omega, ?_⟩
        rcases q2 with rfl | rfl <;> decide) stA b6 hlenM c1b
      obtain ⟨g, rfl⟩ : ∃ g, fM' = g + 1 := ⟨fM' - 1, by omega⟩
      obtain ⟨s4, w1, w2, w3⟩ := advC rk3
      have pl := nx_lt (B := B) (sm := true) y7.1 (by omega)
      have plN := (tnx_bd (B := B) y7.1).2.1
      have lsx : ls x = [x] := by unfold ls; rw [if_neg (by omega)]
      have sgx : sgc x = ckd x := by unfold sgc; rw [if_neg (by omega)]
      have nextO := ih (n + 1) (tnx B N p') c1 u' mm1 fC g a x K kd1 vl1 s4 t3 (by omega) (by omega) (by omega) ha (by omega) w2 v2 (b2.of w3 (by omega)) (by rw [lsx]; exact v3) b5 (by rw [lsx, List.length_append, List.length_append]; simp only [List.length_cons, List.length_nil]; omega) hK hDK (by omega)
      have redC : lp_X6_readExpression_8 fr U 3 (zn D) (fC + 1) (sgc a) (sgc m) (zn n) s = lp_X6_readExpression_8 fr U 3 (zn D) fC (sgc a) (sgc x) (zn (n + 1)) s4 := by
        simp only [lp_X6_readExpression_8, bd_X6_readExpression_8, m_X6_readExpression_53, m_X6_readExpression_92, l60, if_false, y5, zcl_some, one0, b1, zcv_some, e42, e47]
        rw [hz, hkx, ← sgx]
        by_cases q : tkd B N true p' = 42
        · rw [if_pos q]; simp only [w1, zcv_some, zn_succ]
        · rw [if_neg q, if_pos (by omega)]; simp only [w1, zcv_some, zn_succ]
      have redM : ∀ kk w, lp_X9_readLine_83 64 kk fM w 1 t = lp_X9_readLine_83 64 kk g w 1 t3 := fun kk w => by
        rw [y6, lp83S y8 d68 hD (Or.inl (by omega)), v1, zcl_some]
      obtain ⟨s5, t5, z1, z2, z3⟩ := nextO
      refine ⟨s5, t5, ?_, ((x2.tr (gX b8)).tr (gP w3)).tr z2, (x3.tr v4).tr z3⟩
      have sT : sameTo c kd kd1 vl vl1 := y4.tr b3 yc
      rcases z1 with ⟨p2, c2, e2, u2, mm2, fM2, L, kd2, vl2, q1, q2, q3, qc, q4, q5, q6, q7⟩ | ⟨f', pl', q1, q2, q3, q4, q5⟩
      · exact Or.inl ⟨p2, c2, e2, u2, mm2, fM2, L, kd2, vl2, by omega, q2, by omega, by omega, sT.tr q4 (by omega), redC.trans q5, fun kk w => (redM kk w).trans (q6 kk w), q7⟩
      · exact Or.inr ⟨f', pl', q1, q2, redC.trans q3, fun kk w => (redM kk w).trans (q4 kk w), q5⟩
    -- what was to be added
    have e43 : zI s3 3 4 = 43 ↔ tkd B N true p' = 43 := rk3.kd (k := 43) (by omega)
    obtain ⟨s5, kd2, vl2, c2, mm2, d1, d2, d3, d4, d5, d6, d7, d8⟩ := addSignC hU b2 b5 (x := a) (by omega) (by omega)
    have rk5 := rk3.of d8 (fun o j hw => by unfold gXC at hw; unfold gRdC; omega)
    have hz5 : zI s5 3 4 = zn (tkd B N true p') := rk5.2.2.2.2.1.1
    have e43' : zI s5 3 4 = 43 ↔ tkd B N true p' = 43 := rk5.kd (k := 43) (by omega)
    have e45' : zI s5 3 4 = 45 ↔ tkd B N true p' = 45 := rk5.kd (k := 45) (by omega)
    have hpm : pmt kd2 vl2 c2 c' (ls m ++ ls a) := pmt_app (ls m) c' b6 d3 d6
    have s12 : sameTo c' kd' kd2 vl' vl2 := b3.tr d3 b4
    have sT : sameTo c kd kd2 vl vl2 := y4.tr s12 yc
    have hM2 := y10.up s12
    have c2b : c2 ≤ 120 := by have := d5.2.2.1; have := d5.2.1; omega
    have red1 : lp_X6_readExpression_8 fr U 3 (zn D) (fC + 1) (sgc a) (sgc m) (zn n) s = (if tkd B N true p' = 43 then m_X6_readExpression_87 fr U 3 (zn D) (fun l3 l4 l5 s => lp_X6_readExpression_8 fr U 3 (zn D) fC l3 l4 l5 s) 0 (zn n) s5 else if tkd B N true p' = 45 then m_X6_readExpression_87 fr U 3 (zn D) (fun l3 l4 l5 s => lp_X6_readExpression_8 fr U 3 (zn D) fC l3 l4 l5 s) 0 (zn n) s5 else some (1, s5)) := by
      simp only [lp_X6_readExpression_8, bd_X6_readExpression_8, l60, if_false, y5, zcl_some, one0, b1, zcv_some, e42, e47, show ¬ tkd B N true p' = 42 by omega, show ¬ tkd B N true p' = 47 by omega, d1, e43', e45']
    by_cases hpm' : tkd B N true p' = 43 ∨ tkd B N true p' = 45
    · obtain ⟨x, hx23, hkx⟩ : ∃ x, (x = 2 ∨ x = 3) ∧ zn (tkd B N true p') = ckd x := by
        rcases hpm' with q | q
        · exact ⟨2, Or.inl rfl, by rw [q]; rfl⟩
        · exact ⟨3, Or.inr rfl, by rw [q]; rfl⟩
      have r20 : rkn x = 20 := by rcases hx23 with rfl | rfl <;> rfl
      have hM2' : xM l W kd2 vl2 c' u' ((ls m ++ ls a) ++ K) D t1 := by rw [List.append_assoc]; exact hM2
      obtain ⟨t3, v1, v2, v3, v4⟩ := signM y8 (x := x) (by omega) hkx hM2' (fun y hy => by
        rw [r20]
        rcases List.mem_append.1 hy with q | q
        · obtain ⟨q1, q2⟩ := hma y q
          rw [q1]
          refine ⟨by omega, by omega, ?_⟩
          rcases q2 with rfl | rfl <;> decide
        · obtain ⟨q1, q2⟩ := haa y q
          rw [q1]
          refine ⟨by omega, by omega, ?_⟩
          rcases q2 with rfl | rfl <;> decide) (stK _) hpm (by rw [List.append_assoc]; exact hlenM) c2b
      obtain ⟨g, rfl⟩ : ∃ g, fM' = g + 1 := ⟨fM' - 1, by omega⟩
      obtain ⟨s6, w1, w2, w3⟩ := advC rk5
      have pl := nx_lt (B := B) (sm := true) y7.1 (by omega)
      have plN := (tnx_bd (B := B) y7.1).2.1
      have lsx : ls x = [x] := by unfold ls; rw [if_neg (by omega)]
      have sgx : sgc x = ckd x := by unfold sgc; rw [if_neg (by omega)]
      have nextO := ih (n + 1) (tnx B N p') c2 u' mm2 fC g x 0 K kd2 vl2 s6 t3 (by omega) (by omega) (by omega) (by omega) (Or.inl rfl) w2 v2 (d2.of w3 (by omega)) (by rw [lsx]; exact v3) d5 (by rw [lsx]; simp [ls]; omega) hK hDK (by omega)
      have redC : lp_X6_readExpression_8 fr U 3 (zn D) (fC + 1) (sgc a) (sgc m) (zn n) s = lp_X6_readExpression_8 fr U 3 (zn D) fC (sgc x) (sgc 0) (zn (n + 1)) s6 := by
        rw [red1]
        have q87 : m_X6_readExpression_87 fr U 3 (zn D) (fun l3 l4 l5 s => lp_X6_readExpression_8 fr U 3 (zn D) fC l3 l4 l5 s) 0 (zn n) s5 = lp_X6_readExpression_8 fr U 3 (zn D) fC (sgc x) (sgc 0) (zn (n + 1)) s6 := by
          simp only [m_X6_readExpression_87, m_X6_readExpression_92, w1, zcv_some, zn_succ]
          rw [hz5, hkx, ← sgx]
          rfl
        by_cases q : tkd B N true p' = 43
        · rw [if_pos q]; exact q87
        · rw [if_neg q, if_pos (by omega)]; exact q87
      have redM : ∀ kk w, lp_X9_readLine_83 64 kk fM w 1 t = lp_X9_readLine_83 64 kk g w 1 t3 := fun kk w => by
        rw [y6, lp83S y8 d68 hD (Or.inl (by omega)), v1, zcl_some]
      obtain ⟨s7, t7, z1, z2, z3⟩ := nextO
      refine ⟨s7, t7, ?_, (((x2.tr (gX b8)).tr (gX d8)).tr (gP w3)).tr z2, (x3.tr v4).tr z3⟩
      rcases z1 with ⟨p2, c3, e2, u2, mm3, fM2, L, kd3, vl3, q1, q2, q3, qc, q4, q5, q6, q7⟩ | ⟨f', pl', q1, q2, q3, q4, q5⟩
      · exact Or.inl ⟨p2, c3, e2, u2, mm3, fM2, L, kd3, vl3, by omega, q2, by omega, by omega, sT.tr q4 (by omega), redC.trans q5, fun kk w => (redM kk w).trans (q6 kk w), q7⟩
      · exact Or.inr ⟨f', pl', q1, q2, redC.trans q3, fun kk w => (redM kk w).trans (q4 kk w), q5⟩
    · refine ⟨s5, t1, Or.inl ⟨p', c2, c', u', mm2, fM', ls m ++ ls a, kd2, vl2, y1, y2, y3, by omega, sT, ?_, y6, rk5, y8, d2, by rw [List.append_assoc]; exact hM2, hpm, fun y hy => ?_, by rw [List.length_append]; omega, d5, by omega, ⟨by omega, by omega, by omega, by omega⟩⟩, (x2.tr (gX b8)).tr (gX d8), x3⟩
      · rw [red1, if_neg (by omega), if_neg (by omega)]
      · rcases List.mem_append.1 hy with q | q
        · obtain ⟨q1, q2⟩ := hma y q; omega
        · obtain ⟨q1, q2⟩ := haa y q; omega
/-- every depth -/
theorem expr_all {B : Nat → Nat} {N U l fs : Nat} {W : Nat → List Nat} (hU : isU U) (hL : nmL W l) : ∀ (d D g : Nat), D + d = 7 → d ≤ g → EX B N U l fs W (m_X6_readExpression (g + 1)) D := by
  intro d
  induction d with
  | zero =>
    intro D g hD hg
    have hX : UX B N U l fs W (f_X6_readUnit (m_X6_readExpression g)) D := unit_step hU hL (by omega) (fun q => by omega)
    intro p c u mm fM K kd vl s t h h' hC hM hO hmm hK hfM
    have := expr_lp hU (show D ≤ 7 by omega) hX 61 0 p c u mm zFuel fM 0 0 K kd vl s t (by omega) (by unfold zFuel; omega) (by omega) (Or.inl rfl) (Or.inl rfl) h h' hC hM hO hmm hK (by omega) hfM
    exact this
  | succ d ih =>
    intro D g hD hg
    obtain ⟨g, rfl⟩ : ∃ g', g = g' + 1 := ⟨g - 1, by omega⟩
    have hX : UX B N U l fs W (f_X6_readUnit (m_X6_readExpression (g + 1))) D := unit_step hU hL (by omega) (fun _ => ih (D + 1) g (by omega) (by omega))
    intro p c u mm fM K kd vl s t h h' hC hM hO hmm hK hfM
    have := expr_lp hU (show D ≤ 7 by omega) hX 61 0 p c u mm zFuel fM 0 0 K kd vl s t (by omega) (by unfold zFuel; omega) (by omega) (Or.inl rfl) (Or.inl rfl) h h' hC hM hO hmm hK (by omega) hfM
    exact this
