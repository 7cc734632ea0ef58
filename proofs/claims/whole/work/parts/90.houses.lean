/-! reading begins, and all houses -/
def gOpC (o k : Nat) : Prop := o = 3 ∧ 2 ≤ k ∧ k ≤ 11
def gOpM (o k : Nat) : Prop := o = 64 ∧ 1 ≤ k ∧ k ≤ 10
theorem gPC_Op {o k : Nat} (h : gPC o k) : gOpC o k := by unfold gPC at h; unfold gOpC; omega
theorem gPM_Op {o k : Nat} (h : gPM o k) : gOpM o k := by unfold gPM at h; unfold gOpM; omega
theorem openC {B : Nat → Nat} {N : Nat} {s : zSt} (hT : tpC B N s) (hK : kwC s) (sm : Bool) : ∃ s', m_X3_open 3 (zn sm.toNat) s = some s' ∧ rkC B N sm 0 s' ∧ zOf gOpC s s' := by
  have h01 : zn sm.toNat = 0 ∨ zn sm.toNat = 1 := by cases sm; exact Or.inl rfl; exact Or.inr rfl
  have e : zOf gOpC s (zsI (zsI (zsI (zsI s 3 2 (zn sm.toNat)) 3 3 0) 3 10 0) 3 11 (-1)) := (((zOf.rf.sI (by unfold gOpC; omega)).sI (by unfold gOpC; omega)).sI (by unfold gOpC; omega)).sI (by unfold gOpC; omega)
  obtain ⟨s', a1, a2, a3⟩ := advance_eq (sm := sm) (p := 0) (hT.of (fun o k ho => (e o k (by unfold gOpC; omega)).1)) (fun i hi => (e 4 i (by unfold gOpC; omega)).2.1.trans (hK i hi)) (by simp [zI_sI, zI_sL, zI_sR, zL_sI, zL_sL, zL_sR, zR_sI, zR_sL, zR_sR]) (by omega) (by simp [zI_sI, zI_sL, zI_sR, zL_sI, zL_sL, zL_sR, zR_sI, zR_sL, zR_sR]; rfl)
  have e2 : zOf gOpC s s' := e.tr (a3.mono (fun o k h => by unfold gAdv at h; unfold gOpC; omega))
  refine ⟨s', ?_, ⟨by omega, hT.of (fun o k ho => (e2 o k (by unfold gOpC; omega)).1), fun i hi => (e2 4 i (by unfold gOpC; omega)).2.1.trans (hK i hi), ?_, a2, ?_, ?_⟩, e2⟩
  · simp only [m_X3_open, h01, if_true, zlt_eq, a1, zcv_some]
  · rw [(a3 3 2 (by unfold gAdv; omega)).1]; simp [zI_sI, zI_sL, zI_sR, zL_sI, zL_sL, zL_sR, zR_sI, zR_sL, zR_sR]
  · rw [(a3 3 10 (by unfold gAdv; omega)).1]; simp [zI_sI, zI_sL, zI_sR, zL_sI, zL_sL, zL_sR, zR_sI, zR_sL, zR_sR]
  · rw [(a3 3 11 (by unfold gAdv; omega)).1]; simp [zI_sI, zI_sL, zI_sR, zL_sI, zL_sL, zL_sR, zR_sI, zR_sL, zR_sR]
theorem startM {B : Nat → Nat} {N : Nat} {t : zSt} (h8 : N ≤ 800) (h1 : zI t 64 1 = zn N) (hB : ∀ k, k < N → B k < 256 ∧ zI t 65 k = zn (B k)) (sm : Bool) : ∃ t', m_X9_start 64 (zn sm.toNat) t = some t' ∧ rkM B N sm 0 t' ∧ zI t' 64 1 = 0 ∧ zOf gOpM t t' := by
  have h01 : zn sm.toNat = 0 ∨ zn sm.toNat = 1 := by cases sm; exact Or.inl rfl; exact Or.inr rfl
  have e : zOf gOpM t (zsI (zsI (zsI (zsI (zsI (zsI t 64 10 (zn sm.toNat)) 64 5 (zn N)) 64 1 0) 64 4 0) 64 2 0) 64 3 (-1)) := (((((zOf.rf.sI (by unfold gOpM; omega)).sI (by unfold gOpM; omega)).sI (by unfold gOpM; omega)).sI (by unfold gOpM; omega)).sI (by unfold gOpM; omega)).sI (by unfold gOpM; omega)
  have hT : tpM B N (zsI (zsI (zsI (zsI (zsI (zsI t 64 10 (zn sm.toNat)) 64 5 (zn N)) 64 1 0) 64 4 0) 64 2 0) 64 3 (-1)) := ⟨h8, by simp [zI_sI, zI_sL, zI_sR, zL_sI, zL_sL, zL_sR, zR_sI, zR_sL, zR_sR], fun k hk => ⟨(hB k hk).1, (e 65 k (by unfold gOpM; omega)).1.trans (hB k hk).2⟩⟩
  obtain ⟨t', a1, a2, a3⟩ := token_eq (sm := sm) (p := 0) hT (by simp [zI_sI, zI_sL, zI_sR, zL_sI, zL_sL, zL_sR, zR_sI, zR_sL, zR_sR]) (by omega) (by simp [zI_sI, zI_sL, zI_sR, zL_sI, zL_sL, zL_sR, zR_sI, zR_sL, zR_sR]; rfl)
  have e2 : zOf gOpM t t' := e.tr (a3.mono (fun o k h => by unfold gTok at h; unfold gOpM; omega))
  refine ⟨t', ?_, ⟨by omega, hT.of (a3 64 5 (by unfold gTok; omega)).1 (fun k => (a3 65 k (by unfold gTok; omega)).1), ?_, a2, ?_, ?_⟩, ?_, e2⟩
  · have x1 : zI (zsI t 64 10 (zn sm.toNat)) 64 1 = zn N := by simp [zI_sI, zI_sL, zI_sR, zL_sI, zL_sL, zL_sR, zR_sI, zR_sL, zR_sR, h1]
    simp only [m_X9_start, h01, if_true, zlt_eq, x1, a1, zcv_some]
  · rw [(a3 64 10 (by unfold gTok; omega)).1]; simp [zI_sI, zI_sL, zI_sR, zL_sI, zL_sL, zL_sR, zR_sI, zR_sL, zR_sR]
  · rw [(a3 64 2 (by unfold gTok; omega)).1]; simp [zI_sI, zI_sL, zI_sR, zL_sI, zL_sL, zL_sR, zR_sI, zR_sL, zR_sR]
  · rw [(a3 64 3 (by unfold gTok; omega)).1]; simp [zI_sI, zI_sL, zI_sR, zL_sI, zL_sL, zL_sR, zR_sI, zR_sL, zR_sR]
  · rw [(a3 64 1 (by unfold gTok; omega)).1]; simp [zI_sI, zI_sL, zI_sR, zL_sI, zL_sL, zL_sR, zR_sI, zR_sL, zR_sR]
theorem hs_lp {B : Nat → Nat} {N H : Nat} (hH : isH H) : ∀ (d i p fC fM : Nat) (s t : zSt) (W P Q : Nat → List Nat) (sy sp : Nat → Nat), i + d = 13 → d < fC → d < fM → 0 < d → rkC B N false p s → rkM B N false p t → hsC H i W P Q sy sp s → hsM i W P Q sy sp t → hsO i W P Q sy sp →
    ∃ r s' t', lp_X2_read_7 H 3 fC (zn i) s = some (r, s') ∧ (∀ kk, lp_X9_houses_10 64 kk fM t = kk t') ∧ ((r = 1 ∧ ∃ n W' P' Q' sy' sp', hsC H n W' P' Q' sy' sp' s' ∧ hsM n W' P' Q' sy' sp' t' ∧ hsO n W' P' Q' sy' sp' ∧ (zI s' 3 10 = 0 ∧ zI s' 3 11 = -1) ∧ (zI t' 64 2 = 0 ∧ zI t' 64 3 = -1)) ∨ (r = 0 ∧ ∃ f pl, f ≠ 0 ∧ f < 100 ∧ flC f pl s' ∧ flM f pl t')) ∧ zOf (gHoC H) s s' ∧ zOf gHoM t t' := by
  have hH5 : 5 ≤ H := by rcases hH with rfl | rfl <;> omega
  intro d
  induction d with
  | zero => intro i p fC fM s t W P Q sy sp _ _ _ h; omega
  | succ d ih =>
    intro i p fC fM s t W P Q sy sp hi hfC hfM _ h h' hC hM hO
    obtain ⟨fC, rfl⟩ : ∃ g, fC = g + 1 := ⟨fC - 1, by omega⟩
    obtain ⟨fM, rfl⟩ : ∃ g, fM = g + 1 := ⟨fM - 1, by omega⟩
    have l12 : ¬ (12 : Int32) < zn i := fun x => by have := (zn_lt (a := 12) (by omega) (by omega)).1 x; omega
    have e0 : zI s 3 4 = 0 ↔ tkd B N false p = 0 := h.kd (k := 0) (by omega)
    have m0 : zI t 64 6 = 0 ↔ tkd B N false p = 0 := (h'.so (k := 0) (by omega)).trans (msr_0 _)
    have z0 : zI t 64 2 = 0 := h'.2.2.2.2.1
    by_cases hk : tkd B N false p = 0
    · refine ⟨1, s, t, ?_, fun kk => ?_, Or.inl ⟨rfl, i, W, P, Q, sy, sp, hC, hM, hO, h.2.2.2.2.2, h'.2.2.2.2⟩, zOf.rf, zOf.rf⟩
      · simp only [lp_X2_read_7, bd_X2_read_7, l12, if_false, e0, hk, if_true]
      · simp only [lp_X9_houses_10, bd_X9_houses_10, z0, m0, hk, if_true]
    · obtain ⟨r, s1, t1, a1, a2, a3, a4, a5⟩ := house_step h h' hH hC hM hO hk
      rcases a3 with ⟨hr, hn, p', W', P', Q', sy', sp', b1, b2, b3, b4, b5, b6, b7, b8, b9, b10, b11⟩ | ⟨hr, f, pl, hf0, hf1, hfc, hfm⟩
      · have c0 : zI s1 H 0 + 1 = zn (i + 1) := by rw [b4.1, zn_succ]
        have e1 : zOf (fun o k => o = H ∧ k = 0) s1 (zsI s1 H 0 (zn (i + 1))) := zOf.rf.sI ⟨rfl, rfl⟩
        have hC2 : hsC H (i + 1) W' P' Q' sy' sp' (zsI s1 H 0 (zn (i + 1))) := by
          refine ⟨by rw [zI_sI, if_pos ⟨rfl, rfl⟩], fun k hk => ?_, fun k hk => ?_⟩
          · rw [(e1 (H + 1) k (by omega)).2.1]
            by_cases hki : k = i
            · rw [hki]; exact b7
            · exact b4.2.1 k (by omega)
          · rw [(e1 (H + 2) k (by omega)).2.1, (e1 (H + 3) k (by omega)).2.1, (e1 (H + 4) k (by omega)).1, (e1 (H + 5) k (by omega)).1]
            by_cases hki : k = i
            · rw [hki]; exact ⟨b8, b9, b10, b11⟩
            · exact b4.2.2 k (by omega)
        obtain ⟨r2, s2, t2, c1, c2, c3, c4, c5⟩ := ih (i + 1) p' fC fM _ t1 W' P' Q' sy' sp' (by omega) (by omega) (by omega) (by omega) (b2.of e1 (fun o k hw => by unfold gRdC; omega)) b3 hC2 b5 b6
        refine ⟨r2, s2, t2, ?_, fun kk => ?_, c3, (a4.tr (e1.mono (fun o k hw => Or.inr (by omega)))).tr c4, a5.tr c5⟩
        · simp only [lp_X2_read_7, bd_X2_read_7, l12, if_false, e0, hk, a1, zcl_some, hr, show ¬ (1 : Int32) = 0 by decide, zlt_eq, c0, zn_succ]
          exact c1
        · simp only [lp_X9_houses_10, bd_X9_houses_10, z0, m0, hk, if_true, if_false, a2, zcv_some]
          exact c2 kk
      · have hp := hfm.pos hf0 hf1
        have hz : ¬ zI t1 64 2 = 0 := fun hz => by rw [hz] at hp; exact absurd hp (by decide)
        refine ⟨0, s1, t1, ?_, fun kk => ?_, Or.inr ⟨rfl, f, pl, hf0, hf1, hfc, hfm⟩, a4, a5⟩
        · simp only [lp_X2_read_7, bd_X2_read_7, l12, if_false, e0, hk, a1, zcl_some, hr, if_true]
        · obtain ⟨fM, rfl⟩ : ∃ g, fM = g + 1 := ⟨fM - 1, by omega⟩
          simp only [lp_X9_houses_10, bd_X9_houses_10, z0, m0, hk, if_true, if_false, a2, zcv_some, hz]
theorem hcp_lp {n : Nat} (hn : n ≤ 12) : ∀ (d i f : Nat) (t : zSt), i + d = n → d < f → zI t 64 49 = zn n → (∀ k, k < i → zI t 91 k = zI t 89 k ∧ zI t 92 k = zI t 90 k ∧ zL t 87 k = zL t 85 k ∧ zL t 88 k = zL t 86 k) → ∃ t', lp_X9_houses_50 64 f (zn i) t = some (zn n, t') ∧ (∀ k, k < n → zI t' 91 k = zI t 89 k ∧ zI t' 92 k = zI t 90 k ∧ zL t' 87 k = zL t 85 k ∧ zL t' 88 k = zL t 86 k) ∧ zOf (fun o _ => o = 91 ∨ o = 92 ∨ o = 87 ∨ o = 88) t t' := by
  intro d
  induction d with
  | zero =>
    intro i f t hi hf c0 hk
    obtain ⟨f, rfl⟩ : ∃ g, f = g + 1 := ⟨f - 1, by omega⟩
    have h1 : ¬ zn i < zn n := by rw [zn_lt (by omega) (by omega)]; omega
    refine ⟨t, ?_, fun k hk1 => hk k (by omega), zOf.rf⟩
    simp only [lp_X9_houses_50, bd_X9_houses_50, c0, h1, if_false]
  | succ d ih =>
    intro i f t hi hf c0 hk
    obtain ⟨f, rfl⟩ : ∃ g, f = g + 1 := ⟨f - 1, by omega⟩
    have h1 : zn i < zn n := by rw [zn_lt (by omega) (by omega)]; omega
    have h2 : ¬ zn i < 0 := zn_neg (by omega)
    have h3 : (zn i).toNatClampNeg = i := zn_cl (by omega)
    have h4 : ¬ 12 ≤ i := by omega
    have e : zOf (fun o k => (o = 91 ∨ o = 92 ∨ o = 87 ∨ o = 88) ∧ k = i) t (zsL (zsL (zsI (zsI t 91 i (zI t 89 i)) 92 i (zI t 90 i)) 87 i (zL t 85 i)) 88 i (zL t 86 i)) := (((zOf.rf.sI (by omega)).sI (by omega)).sL (by omega)).sL (by omega)
    have st : ∀ k, k < i + 1 → zI (zsL (zsL (zsI (zsI t 91 i (zI t 89 i)) 92 i (zI t 90 i)) 87 i (zL t 85 i)) 88 i (zL t 86 i)) 91 k = zI t 89 k ∧ zI (zsL (zsL (zsI (zsI t 91 i (zI t 89 i)) 92 i (zI t 90 i)) 87 i (zL t 85 i)) 88 i (zL t 86 i)) 92 k = zI t 90 k ∧ zL (zsL (zsL (zsI (zsI t 91 i (zI t 89 i)) 92 i (zI t 90 i)) 87 i (zL t 85 i)) 88 i (zL t 86 i)) 87 k = zL t 85 k ∧ zL (zsL (zsL (zsI (zsI t 91 i (zI t 89 i)) 92 i (zI t 90 i)) 87 i (zL t 85 i)) 88 i (zL t 86 i)) 88 k = zL t 86 k := by
      intro k hk1
      by_cases hki : k = i
      · subst hki; simp [zI_sI, zI_sL, zI_sR, zL_sI, zL_sL, zL_sR, zR_sI, zR_sL, zR_sR]
      · obtain ⟨q1, q2, q3, q4⟩ := hk k (by omega)
        rw [(e 91 k (by omega)).1, (e 92 k (by omega)).1, (e 87 k (by omega)).2.1, (e 88 k (by omega)).2.1]
        exact ⟨q1, q2, q3, q4⟩
    obtain ⟨t', a1, a2, a3⟩ := ih (i + 1) f _ (by omega) (by omega) ((e 64 49 (by omega)).1.trans c0) (fun k hk1 => by
      rw [(e 89 k (by omega)).1, (e 90 k (by omega)).1, (e 85 k (by omega)).2.1, (e 86 k (by omega)).2.1]
      exact st k hk1)
    refine ⟨t', ?_, fun k hk1 => ?_, (e.mono (fun o k h => h.1)).tr a3⟩
    · simp only [lp_X9_houses_50, bd_X9_houses_50, c0, h1, if_true, zT_64_40, zT_64_41, zT_64_42, zT_64_43, zT_64_44, zT_64_45, zT_64_46, zT_64_47, zN_85, zN_86, zN_87, zN_88, zN_89, zN_90, zN_91, zN_92, h2, h3, h4, or_self, if_false, zlt_eq, zn_succ]
      simp only [zI_sI, zI_sL, zI_sR, zL_sI, zL_sL, zL_sR, zR_sI, zR_sL, zR_sR, show ¬ (90 : Nat) = 91 by decide, show ¬ (85 : Nat) = 87 by decide, show ¬ (86 : Nat) = 87 by decide, false_and, if_false] at a1 ⊢
      exact a1
    · have := a2 k hk1
      rw [(e 89 k (by omega)).1, (e 90 k (by omega)).1, (e 85 k (by omega)).2.1, (e 86 k (by omega)).2.1] at this
      exact this
def iHo2 (H : Nat) (s t : zSt) : Prop := ∃ (n : Nat) (lo hi : Nat → Int) (E : Nat → Nat → Bool), rHoC H s n lo hi ∧ rHoM t n lo hi ∧ okHo n lo hi ∧ sh2 s (H + 2) (H + 3) n E ∧ sh2 t 87 88 n E ∧ ∀ x y, E x y = E y x
def gHM (o k : Nat) : Prop := (o = 64 ∧ k = 49) ∨ o = 87 ∨ o = 88 ∨ o = 91 ∨ o = 92
theorem iHo2.st {H : Nat} {s s' t t' : zSt} (h : iHo2 H s t) (e1 : ∀ o k, H ≤ o → o ≤ H + 5 → zI s' o k = zI s o k ∧ zL s' o k = zL s o k) (e2 : ∀ o k, gHM o k → zI t' o k = zI t o k ∧ zL t' o k = zL t o k) : iHo2 H s' t' := by
  obtain ⟨n, lo, hi, E, a1, a2, a3, a4, a5, a6⟩ := h
  refine ⟨n, lo, hi, E, ⟨(e1 H 0 (by omega) (by omega)).1.trans a1.1, fun k hk => ?_⟩, ⟨(e2 64 49 (by unfold gHM; omega)).1.trans a2.1, fun k hk => ?_⟩, a3, a4.of (fun o k ho => (e1 o k (by omega) (by omega)).2), a5.of (fun o k ho => (e2 o k (by unfold gHM; omega)).2), a6⟩
  · rw [(e1 (H + 4) k (by omega) (by omega)).1, (e1 (H + 5) k (by omega) (by omega)).1]; exact a1.2 k hk
  · rw [(e2 91 k (by unfold gHM; omega)).1, (e2 92 k (by unfold gHM; omega)).1]; exact a2.2 k hk
theorem hs_iHo {H n : Nat} {W P Q : Nat → List Nat} {sy sp : Nat → Nat} {s t t' : zSt} (hC : hsC H n W P Q sy sp s) (hM : hsM n W P Q sy sp t) (hO : hsO n W P Q sy sp) (h49 : zI t' 64 49 = zn n) (hc : ∀ k, k < n → zI t' 91 k = zI t 89 k ∧ zI t' 92 k = zI t 90 k ∧ zL t' 87 k = zL t 85 k ∧ zL t' 88 k = zL t 86 k) : iHo2 H s t' := by
  refine ⟨n, fun k => (sy k : Int) - sp k, fun k => (sy k : Int) + sp k, fun a b => decide (P a = P b ∨ Q a = Q b), ⟨hC.1, fun k hk => (hC.2.2 k hk).2.2⟩, ⟨h49, fun k hk => ?_⟩, ⟨hO.1, fun k hk => ?_⟩, fun a b ha hb => ?_, fun a b ha hb => ?_, fun x y => ?_⟩
  · obtain ⟨q1, q2, -, -⟩ := hc k hk
    obtain ⟨-, -, m3, m4⟩ := hM.2.2 k hk
    obtain ⟨-, -, o3, o4⟩ := hO.2.2 k hk
    rw [q1, q2, m3, m4, zn_zi (by omega), zn_zi (by omega), zi_sub, zi_add]
    exact ⟨rfl, rfl⟩
  · obtain ⟨-, -, o3, o4⟩ := hO.2.2 k hk
    dsimp only
    omega
  · obtain ⟨x1, x2, -, -⟩ := hC.2.2 a ha
    obtain ⟨y1, y2, -, -⟩ := hC.2.2 b hb
    obtain ⟨o1, o2, -, -⟩ := hO.2.2 a ha
    obtain ⟨p1, p2, -, -⟩ := hO.2.2 b hb
    rw [x1, x2, y1, y2, nm27 o1 p1, nm27 o2 p2, decide_eq_true_iff]
  · obtain ⟨-, -, x1, x2⟩ := hc a ha
    obtain ⟨-, -, y1, y2⟩ := hc b hb
    obtain ⟨u1, u2, -, -⟩ := hM.2.2 a ha
    obtain ⟨v1, v2, -, -⟩ := hM.2.2 b hb
    obtain ⟨o1, o2, -, -⟩ := hO.2.2 a ha
    obtain ⟨p1, p2, -, -⟩ := hO.2.2 b hb
    rw [x1, x2, y1, y2, u1, u2, v1, v2, nm256 o1 p1, nm256 o2 p2, decide_eq_true_iff]
  · have : (P x = P y ∨ Q x = Q y) ↔ (P y = P x ∨ Q y = Q x) := ⟨fun h => h.elim (fun h => Or.inl h.symm) (fun h => Or.inr h.symm), fun h => h.elim (fun h => Or.inl h.symm) (fun h => Or.inr h.symm)⟩
    rw [Bool.eq_iff_iff, decide_eq_true_iff, decide_eq_true_iff]
    exact this
