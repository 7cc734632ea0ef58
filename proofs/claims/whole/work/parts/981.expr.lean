/-! the sum: an expression, read down and settled -/
def wcd (x : Nat) : Int32 := if x = 6 then 30 else mkd x
def rkn (x : Nat) : Nat := if x = 2 ∨ x = 3 then 20 else 22
def wsM (t : zSt) : List Nat → Prop
  | [] => True
  | x :: K => zI t 102 K.length = wcd x ∧ wsM t K
theorem wsM.of {t t' : zSt} : ∀ {K : List Nat}, wsM t K → (∀ k, k < K.length → zI t' 102 k = zI t 102 k) → wsM t' K := by
  intro K
  induction K with
  | nil => intro _ _; trivial
  | cons x K ih =>
    intro h e
    exact ⟨(e K.length (by rw [List.length_cons]; omega)).trans h.1, ih h.2 (fun k hk => e k (by rw [List.length_cons]; omega))⟩
def wP (kd : Nat → Nat) (vl : Nat → Int32) (l fs : Nat) : Nat → Nat → Prop
  | 0, m => m = 0
  | j + 1, m => ∃ m0, wP kd vl l fs j m0 ∧ kd (fs + j) < 6 ∧ (kd (fs + j) = 1 → ∃ r, r < l ∧ vl (fs + j) = zn r) ∧ (if kd (fs + j) < 2 then m0 < 60 ∧ m = m0 + 1 else 2 ≤ m0 ∧ m = m0 - 1)
theorem wP_wf {kd : Nat → Nat} {vl : Nat → Int32} {l fs : Nat} : ∀ (j d m : Nat), wP kd vl l fs j m → wfF kd vl l d (fs + j) m → wfF kd vl l (j + d) fs 0 := by
  intro j
  induction j with
  | zero =>
    intro d m h1 h2
    have : m = 0 := h1
    subst this
    rw [Nat.zero_add]
    exact h2
  | succ j ih =>
    intro d m h1 h2
    obtain ⟨m0, a1, a2, a3, a4⟩ := h1
    have : wfF kd vl l (d + 1) (fs + j) m0 := by
      refine ⟨a2, a3, ?_⟩
      by_cases hk : kd (fs + j) < 2
      · rw [if_pos hk] at a4 ⊢
        exact ⟨a4.1, by rw [← a4.2]; exact h2⟩
      · rw [if_neg hk] at a4 ⊢
        exact ⟨a4.1, by rw [← a4.2]; exact h2⟩
    have := ih (d + 1) m0 a1 this
    rw [show j + 1 + d = j + (d + 1) by omega]
    exact this
theorem wP_congr {kd kd' : Nat → Nat} {vl vl' : Nat → Int32} {l fs : Nat} : ∀ (j m : Nat), (∀ k, k < fs + j → kd' k = kd k ∧ vl' k = vl k) → wP kd vl l fs j m → wP kd' vl' l fs j m := by
  intro j
  induction j with
  | zero => intro m _ h; exact h
  | succ j ih =>
    intro m e h
    obtain ⟨m0, a1, a2, a3, a4⟩ := h
    obtain ⟨q1, q2⟩ := e (fs + j) (by omega)
    exact ⟨m0, ih m0 (fun k hk => e k (by omega)) a1, by rw [q1]; exact a2, by rw [q1, q2]; exact a3, by rw [q1]; exact a4⟩
def xC (U l : Nat) (W : Nat → List Nat) (kd : Nat → Nat) (vl : Nat → Int32) (c u : Nat) (s : zSt) : Prop := zI s U 0 = zn l ∧ zI s U 1 = zn u ∧ zI s U 11 = zn c ∧ nmC W l (U + 3) s ∧ ∀ k, k < c → zI s (U + 6) k = ckd (kd k) ∧ zI s (U + 7) k = vl k
def xM (l : Nat) (W : Nat → List Nat) (kd : Nat → Nat) (vl : Nat → Int32) (e u : Nat) (st : List Nat) (D : Nat) (t : zSt) : Prop := (zI t 64 64 = zn l ∧ zI t 64 63 = zn u ∧ zI t 64 62 = zn e) ∧ nmM W l 93 t ∧ (∀ k, k < e → zI t 94 k = mkd (kd k) ∧ zI t 95 k = vl k) ∧ (zI t 64 67 = zn st.length ∧ wsM t st) ∧ zI t 64 68 = zn D
def xO (l fs : Nat) (kd : Nat → Nat) (vl : Nat → Int32) (c u mm : Nat) : Prop := l < 12 ∧ u ≤ 60 ∧ c + mm ≤ 2 * u ∧ mm ≤ u ∧ fs ≤ c ∧ wP kd vl l fs (c - fs) mm
theorem xC.of {U l : Nat} {W : Nat → List Nat} {kd : Nat → Nat} {vl : Nat → Int32} {c u : Nat} {s s' : zSt} (h : xC U l W kd vl c u s) (e : zOf gPC s s') (hU : 5 ≤ U) : xC U l W kd vl c u s' := by
  obtain ⟨a1, a2, a3, a4, a5⟩ := h
  refine ⟨(e U 0 (by unfold gPC; omega)).1.trans a1, (e U 1 (by unfold gPC; omega)).1.trans a2, (e U 11 (by unfold gPC; omega)).1.trans a3, fun k hk => (e (U + 3) k (by unfold gPC; omega)).2.1.trans (a4 k hk), fun k hk => ?_⟩
  rw [(e (U + 6) k (by unfold gPC; omega)).1, (e (U + 7) k (by unfold gPC; omega)).1]
  exact a5 k hk
theorem xM.of {l : Nat} {W : Nat → List Nat} {kd : Nat → Nat} {vl : Nat → Int32} {e u : Nat} {st : List Nat} {D : Nat} {t t' : zSt} (h : xM l W kd vl e u st D t) (q : zOf gPM t t') : xM l W kd vl e u st D t' := by
  obtain ⟨⟨a1, a2, a3⟩, b1, b2, ⟨c1, c2⟩, d1⟩ := h
  refine ⟨⟨(q 64 64 (by unfold gPM; omega)).1.trans a1, (q 64 63 (by unfold gPM; omega)).1.trans a2, (q 64 62 (by unfold gPM; omega)).1.trans a3⟩, fun k hk => (q 93 k (by unfold gPM; omega)).2.1.trans (b1 k hk), fun k hk => ?_, ⟨(q 64 67 (by unfold gPM; omega)).1.trans c1, c2.of (fun k _ => (q 102 k (by unfold gPM; omega)).1)⟩, (q 64 68 (by unfold gPM; omega)).1.trans d1⟩
  rw [(q 94 k (by unfold gPM; omega)).1, (q 95 k (by unfold gPM; omega)).1]
  exact b2 k hk
/-- a step more: the class's -/
def gXC (U o j : Nat) : Prop := (o = U ∧ (j = 1 ∨ j = 11)) ∨ o = U + 6 ∨ o = U + 7
theorem addStepC {U : Nat} (hU : isU U) {l : Nat} {W : Nat → List Nat} {kd : Nat → Nat} {vl : Nat → Int32} {c u : Nat} {s : zSt} (h : xC U l W kd vl c u s) (hc : c < 120) (x : Nat) (v : Int32) : ∃ s', m_X6_addStep U (ckd x) v s = some s' ∧ xC U l W (up kd c x) (up vl c v) (c + 1) u s' ∧ zOf (gXC U) s s' := by
  obtain ⟨-, ⟨-, -, -, -, -, t7, t8, -, -⟩, ⟨-, -, -, -, -, n6, n7, -, -⟩⟩ := hU.c
  obtain ⟨a1, a2, a3, a4, a5⟩ := h
  have g1 : zn c < 120 := (zn_lt (b := 120) (by omega) (by omega)).2 hc
  have g2 : ¬ zn c < 0 := zn_neg (by omega)
  have g3 : (zn c).toNatClampNeg = c := zn_cl (by omega)
  have g4 : ¬ 120 ≤ c := by omega
  have i1 : zI (zsI s (U + 6) c (ckd x)) U 11 = zn c := by rw [zI_sI, if_neg (by omega)]; exact a3
  have i2 : zI (zsI (zsI s (U + 6) c (ckd x)) (U + 7) c v) U 11 = zn c := by rw [zI_sI, if_neg (by omega)]; exact i1
  have e : zOf (fun o j => (o = U + 6 ∧ j = c) ∨ (o = U + 7 ∧ j = c) ∨ (o = U ∧ j = 11)) s (zsI (zsI (zsI s (U + 6) c (ckd x)) (U + 7) c v) U 11 (zn (c + 1))) := ((zOf.rf.sI (by omega)).sI (by omega)).sI (by omega)
  refine ⟨zsI (zsI (zsI s (U + 6) c (ckd x)) (U + 7) c v) U 11 (zn (c + 1)), ?_, ⟨(e U 0 (by omega)).1.trans a1, (e U 1 (by omega)).1.trans a2, by rw [zI_sI, if_pos ⟨rfl, rfl⟩], fun k hk => (e (U + 3) k (by omega)).2.1.trans (a4 k hk), fun k hk => ?_⟩, e.mono (fun o j hw => by unfold gXC; omega)⟩
  · simp only [m_X6_addStep, a3, g1, if_true, t7, t8, n6, n7, g2, g3, g4, or_self, if_false, zlt_eq, i1, i2, zn_succ]
  · by_cases hkc : k = c
    · rw [hkc, up_eq, up_eq]
      rw [zI_sI, if_neg (by omega), zI_sI, if_neg (by omega), zI_sI, if_pos ⟨rfl, rfl⟩, zI_sI, if_neg (by omega), zI_sI, if_pos ⟨rfl, rfl⟩]
      exact ⟨rfl, rfl⟩
    · rw [up_ne _ _ (show k < c by omega), up_ne _ _ (show k < c by omega), (e (U + 6) k (by omega)).1, (e (U + 7) k (by omega)).1]
      exact a5 k (by omega)
/-- a note more: the model's -/
def gXM (o j : Nat) : Prop := (o = 64 ∧ (j = 62 ∨ j = 63 ∨ j = 67 ∨ j = 68)) ∨ o = 94 ∨ o = 95 ∨ o = 102
theorem noteM {l : Nat} {W : Nat → List Nat} {kd : Nat → Nat} {vl : Nat → Int32} {e u : Nat} {st : List Nat} {D : Nat} {t : zSt} (h : xM l W kd vl e u st D t) (he : e < 200) {x : Nat} {v : Int32} (hx : kd e = x) (hv : vl e = v) : ∃ t', m_X9_note 64 (mkd x) v t = some t' ∧ xM l W kd vl (e + 1) u st D t' ∧ zOf (fun o j => o = 94 ∨ o = 95 ∨ (o = 64 ∧ j = 62)) t t' := by
  obtain ⟨⟨a1, a2, a3⟩, b1, b2, ⟨c1, c2⟩, d1⟩ := h
  have g2 : ¬ zn e < 0 := zn_neg (by omega)
  have g3 : (zn e).toNatClampNeg = e := zn_cl (by omega)
  have g4 : ¬ 300 ≤ e := by omega
  have i1 : zI (zsI t 94 e (mkd x)) 64 62 = zn e := by rw [zI_sI, if_neg (by omega)]; exact a3
  have i2 : zI (zsI (zsI t 94 e (mkd x)) 95 e v) 64 62 = zn e := by rw [zI_sI, if_neg (by omega)]; exact i1
  have q : zOf (fun o j => (o = 94 ∧ j = e) ∨ (o = 95 ∧ j = e) ∨ (o = 64 ∧ j = 62)) t (zsI (zsI (zsI t 94 e (mkd x)) 95 e v) 64 62 (zn (e + 1))) := ((zOf.rf.sI (by omega)).sI (by omega)).sI (by omega)
  refine ⟨zsI (zsI (zsI t 94 e (mkd x)) 95 e v) 64 62 (zn (e + 1)), ?_, ⟨⟨(q 64 64 (by omega)).1.trans a1, (q 64 63 (by omega)).1.trans a2, by rw [zI_sI, if_pos ⟨rfl, rfl⟩]⟩, fun k hk => (q 93 k (by omega)).2.1.trans (b1 k hk), fun k hk => ?_, ⟨(q 64 67 (by omega)).1.trans c1, c2.of (fun k _ => (q 102 k (by omega)).1)⟩, (q 64 68 (by omega)).1.trans d1⟩, q.mono (fun o j hw => by omega)⟩
  · simp only [m_X9_note, a3, zT_64_51, zT_64_52, zN_94, zN_95, g2, g3, g4, or_self, if_false, zlt_eq, i1, i2, zn_succ]
  · by_cases hkc : k = e
    · rw [hkc, hx, hv, zI_sI, if_neg (by omega), zI_sI, if_neg (by omega), zI_sI, if_pos ⟨rfl, rfl⟩, zI_sI, if_neg (by omega), zI_sI, if_pos ⟨rfl, rfl⟩]
      exact ⟨rfl, rfl⟩
    · rw [(q 94 k (by omega)).1, (q 95 k (by omega)).1]
      exact b2 k (by omega)
theorem upperM {l : Nat} {W : Nat → List Nat} {kd : Nat → Nat} {vl : Nat → Int32} {e u : Nat} {st : List Nat} {D : Nat} {t : zSt} (h : xM l W kd vl e u st D t) (hs : st.length ≤ 150) : m_X9_upper 64 t = some (match st with | [] => 30 | x :: _ => wcd x, t) := by
  obtain ⟨-, -, -, ⟨c1, c2⟩, -⟩ := h
  cases st with
  | nil =>
    have : zI t 64 67 = 0 := c1
    simp only [m_X9_upper, this, if_true]
  | cons x K =>
    rw [List.length_cons] at c1 hs
    have hz : ¬ zn (K.length + 1) = 0 := fun hh => by have := (zn_inj (b := 0) (by omega) (by omega)).1 hh; omega
    have g2 : ¬ zn K.length < 0 := zn_neg (by omega)
    have g3 : (zn K.length).toNatClampNeg = K.length := zn_cl (by omega)
    have g4 : ¬ 200 ≤ K.length := by omega
    simp only [m_X9_upper, c1, hz, if_false, zn_pred, zT_64_59, zN_102, g2, g3, g4, or_self, c2.1]
theorem wcd_30 : ∀ x : Fin 6, 2 ≤ x.val → ¬ wcd x.val = 30 := by decide
theorem rank_wcd : ∀ x : Fin 6, 2 ≤ x.val → ∀ s : zSt, m_X9_rank (wcd x.val) s = some (zn (rkn x.val), s) := by
  intro x hx s
  rcases (show x.val = 2 ∨ x.val = 3 ∨ x.val = 4 ∨ x.val = 5 by omega) with h | h | h | h <;> rw [h] <;> rfl
def stopR (r : Nat) (R : List Nat) : Prop := match R with
  | [] => True
  | x :: _ => x = 6 ∨ (2 ≤ x ∧ x ≤ 5 ∧ rkn x < r)
def pmt (kd : Nat → Nat) (vl : Nat → Int32) (c : Nat) : Nat → List Nat → Prop
  | e, [] => e = c
  | e, x :: L => kd e = x ∧ vl e = 0 ∧ pmt kd vl c (e + 1) L
theorem pmt_le {kd : Nat → Nat} {vl : Nat → Int32} {c : Nat} : ∀ (L : List Nat) (e : Nat), pmt kd vl c e L → e + L.length = c := by
  intro L
  induction L with
  | nil => intro e h; exact h
  | cons x L ih => intro e h; have := ih (e + 1) h.2.2; rw [List.length_cons]; omega
theorem rkn_bd (x : Nat) : rkn x = 20 ∨ rkn x = 22 := by unfold rkn; split; exact Or.inl rfl; exact Or.inr rfl
theorem settle_lp {l : Nat} {W : Nat → List Nat} {kd : Nat → Nat} {vl : Nat → Int32} {c u r : Nat} {R : List Nat} {D : Nat} (hr : r ≤ 22) (hR : stopR r R) (hc : c ≤ 120) : ∀ (L : List Nat) (e f : Nat) (t : zSt), (∀ x ∈ L, 2 ≤ x ∧ x ≤ 5 ∧ r ≤ rkn x) → xM l W kd vl e u (L ++ R) D t → pmt kd vl c e L → (L ++ R).length ≤ 150 → L.length < f → ∃ t', lp_X9_settle_0 64 (zn r) f t = some t' ∧ xM l W kd vl c u R D t' ∧ zOf gXM t t' := by
  intro L
  induction L with
  | nil =>
    intro e f t _ h hp hlen hf
    obtain ⟨f, rfl⟩ : ∃ g, f = g + 1 := ⟨f - 1, by omega⟩
    have he : e = c := hp
    subst he
    have hu := upperM h hlen
    refine ⟨t, ?_, h, zOf.rf⟩
    simp only [List.nil_append] at hu
    cases R with
    | nil => simp only [lp_X9_settle_0, bd_X9_settle_0, hu, zcl_some, if_true]
    | cons x R' =>
      rcases hR with h6 | ⟨x1, x2, x3⟩
      · subst h6
        simp only [lp_X9_settle_0, bd_X9_settle_0, hu, zcl_some, show wcd 6 = 30 from rfl, if_true]
      · have w1 := wcd_30 ⟨x, by omega⟩ x1
        have w2 := rank_wcd ⟨x, by omega⟩ x1 t
        dsimp only at w1 w2
        have lt : zn (rkn x) < zn r := by rw [zn_lt (by omega) (by omega)]; exact x3
        simp only [lp_X9_settle_0, bd_X9_settle_0, hu, zcl_some, w1, if_false, w2, lt, if_true]
  | cons x L ih =>
    intro e f t hL h hp hlen hf
    obtain ⟨f, rfl⟩ : ∃ g, f = g + 1 := ⟨f - 1, by omega⟩
    obtain ⟨x1, x2, x3⟩ := hL x (List.mem_cons_self ..)
    have hu := upperM h hlen
    simp only [List.cons_append] at hu
    have w1 := wcd_30 ⟨x, by omega⟩ x1
    have w2 := rank_wcd ⟨x, by omega⟩ x1 t
    dsimp only at w1 w2
    have lt : ¬ zn (rkn x) < zn r := by have := rkn_bd x; rw [zn_lt (by omega) (by omega)]; omega
    have hw : wcd x = mkd x := by unfold wcd; rw [if_neg (by omega)]
    have hlen' : (L ++ R).length + 1 ≤ 150 := by simpa [List.length_append] using (show (x :: L ++ R).length ≤ 150 from hlen)
    have hpl := pmt_le (x :: L) e hp
    rw [List.length_cons] at hpl
    -- pop
    have e1 : zOf (fun o j => o = 64 ∧ j = 67) t (zsI t 64 67 (zn (L ++ R).length)) := zOf.rf.sI ⟨rfl, rfl⟩
    have h67 : zI t 64 67 = zn ((L ++ R).length + 1) := h.2.2.2.1.1
    have hx : zI t 102 (L ++ R).length = wcd x := h.2.2.2.1.2.1
    have h1 : xM l W kd vl e u (L ++ R) D (zsI t 64 67 (zn (L ++ R).length)) := by
      obtain ⟨⟨a1, a2, a3⟩, b1, b2, ⟨c1, c2⟩, d1⟩ := h
      refine ⟨⟨(e1 64 64 (by omega)).1.trans a1, (e1 64 63 (by omega)).1.trans a2, (e1 64 62 (by omega)).1.trans a3⟩, fun k hk => (e1 93 k (by omega)).2.1.trans (b1 k hk), fun k hk => ?_, ⟨by rw [zI_sI, if_pos ⟨rfl, rfl⟩], c2.2.of (fun k _ => (e1 102 k (by omega)).1)⟩, (e1 64 68 (by omega)).1.trans d1⟩
      rw [(e1 94 k (by omega)).1, (e1 95 k (by omega)).1]
      exact b2 k hk
    obtain ⟨t2, n1, n2, n3⟩ := noteM h1 (by omega) hp.1 hp.2.1
    obtain ⟨t3, k1, k2, k3⟩ := ih (e + 1) f t2 (fun y hy => hL y (List.mem_cons_of_mem _ hy)) n2 hp.2.2 (by omega) (by rw [List.length_cons] at hf; omega)
    refine ⟨t3, ?_, k2, ((e1.mono (fun o j hw => by unfold gXM; omega)).tr (n3.mono (fun o j hw => by unfold gXM; omega))).tr k3⟩
    have g2 : ¬ zn (L ++ R).length < 0 := zn_neg (by omega)
    have g3 : (zn (L ++ R).length).toNatClampNeg = (L ++ R).length := zn_cl (by omega)
    have g4 : ¬ 200 ≤ (L ++ R).length := by omega
    have i67 : zI (zsI t 64 67 (zn (L ++ R).length)) 64 67 = zn (L ++ R).length := by rw [zI_sI, if_pos ⟨rfl, rfl⟩]
    have i102 : zI (zsI t 64 67 (zn (L ++ R).length)) 102 (L ++ R).length = mkd x := by rw [(e1 102 _ (by omega)).1, hx, hw]
    simp only [lp_X9_settle_0, bd_X9_settle_0, hu, zcl_some, w1, if_false, w2, lt, h67, zn_pred, zlt_eq, i67, zT_64_59, zN_102, g2, g3, g4, or_self, i102, n1, zcv_some]
    exact k1
theorem settleM {l : Nat} {W : Nat → List Nat} {kd : Nat → Nat} {vl : Nat → Int32} {c u r : Nat} {R : List Nat} {D : Nat} (hr : r ≤ 22) (hR : stopR r R) (hc : c ≤ 120) {L : List Nat} {e : Nat} {t : zSt} (hL : ∀ x ∈ L, 2 ≤ x ∧ x ≤ 5 ∧ r ≤ rkn x) (h : xM l W kd vl e u (L ++ R) D t) (hp : pmt kd vl c e L) (hlen : (L ++ R).length ≤ 150) : ∃ t', m_X9_settle 64 (zn r) t = some t' ∧ xM l W kd vl c u R D t' ∧ zOf gXM t t' := settle_lp hr hR hc L e zFuel t hL h hp hlen (by rw [List.length_append] at hlen; unfold zFuel; omega)
