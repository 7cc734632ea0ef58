theorem zI_cp (s : zSt) (x o k : Nat) : zI (zcpU s x) o k = if o = x ∧ k < 11 then ztabU k else zI s o k := rfl
theorem cpU_of (s : zSt) (x : Nat) : zOf (fun o k => o = x ∧ k < 11) s (zcpU s x) := fun o k h => ⟨by rw [zI_cp, if_neg h], rfl, rfl⟩
def plU (k : Nat) : Int := (ztabU k).toInt
theorem okSet_pl : okSet plU := by unfold okSet; decide
theorem okSet_congr {a b : Nat → Int} (h : okSet a) (e : ∀ k, k < 11 → b k = a k) : okSet b := by
  unfold okSet at h ⊢
  rw [e 0 (by omega), e 1 (by omega), e 2 (by omega), e 3 (by omega), e 4 (by omega), e 5 (by omega), e 6 (by omega), e 7 (by omega), e 8 (by omega), e 9 (by omega), e 10 (by omega)]
  exact h
theorem okSet_bd {a : Nat → Int} (h : okSet a) {k : Nat} (hk : k < 11) : -1000 ≤ a k ∧ a k ≤ 1000 := by
  unfold okSet at h
  rcases (show k = 0 ∨ k = 1 ∨ k = 2 ∨ k = 3 ∨ k = 4 ∨ k = 5 ∨ k = 6 ∨ k = 7 ∨ k = 8 ∨ k = 9 ∨ k = 10 by omega) with rfl | rfl | rfl | rfl | rfl | rfl | rfl | rfl | rfl | rfl | rfl <;> omega
def iSh2 (S : Nat) (s t : zSt) : Prop := rSet S s t ∧ ∃ (nc nt kn po : Nat) (sh : Nat → Nat), rCauC S s nc nt kn po sh ∧ rCauM t nc nt kn po sh ∧ okCau nc nt kn po sh ∧ rFew S nc nt sh s
def gSM (o k : Nat) : Prop := (o = 64 ∧ (k = 21 ∨ k = 22)) ∨ o = 67 ∨ o = 69 ∨ o = 105 ∨ o = 106
theorem iSh2.st {S : Nat} {s s' t t' : zSt} (h : iSh2 S s t) (e1 : ∀ o k, S ≤ o → o ≤ S + 6 → zI s' o k = zI s o k) (e2 : ∀ o k, gSM o k → zI t' o k = zI t o k) : iSh2 S s' t' := by
  obtain ⟨⟨a1, a2⟩, nc, nt, kn, po, sh, ⟨b1, b2, b3, b4, b5⟩, ⟨c1, c2, c3, c4⟩, d1, d2⟩ := h
  have ez : zset t' = zset t := by funext k; unfold zset; rw [e2 67 k (by unfold gSM; omega)]
  refine ⟨⟨fun k hk => ?_, by rw [ez]; exact a2⟩, nc, nt, kn, po, sh, ⟨(e1 (S + 1) 0 (by omega) (by omega)).trans b1, (e1 (S + 1) 1 (by omega) (by omega)).trans b2, (e1 (S + 1) 6 (by omega) (by omega)).trans b3, (e1 (S + 1) 7 (by omega) (by omega)).trans b4, fun k hk => (e1 (S + 4) k (by omega) (by omega)).trans (b5 k hk)⟩, ⟨(e2 64 21 (by unfold gSM; omega)).trans c1, (e2 64 22 (by unfold gSM; omega)).trans c2, fun k hk => (e2 69 k (by unfold gSM; omega)).trans (c3 k hk), fun k hk => ⟨(e2 105 k (by unfold gSM; omega)).trans (c4 k hk).1, fun x => (e2 106 k (by unfold gSM; omega)).trans ((c4 k hk).2 x)⟩⟩, d1, fun x hx => (e1 (S + 5) x (by omega) (by omega)).trans (d2 x hx)⟩
  rw [e1 (S + 6) k (by omega) (by omega), e2 67 k (by unfold gSM; omega)]
  exact a1 k hk
def gSSC (o k : Nat) : Prop := (o = 0 ∧ (k = 2 ∨ k = 3)) ∨ (o = 1 ∧ k = 1) ∨ gOpC o k ∨ (5 ≤ o ∧ o ≤ 18)
def gSSM (o k : Nat) : Prop := gOpM o k ∨ (o = 64 ∧ 18 ≤ k ∧ k ≤ 22) ∨ (66 ≤ o ∧ o ≤ 72) ∨ o = 105
theorem gSSC_of {S o k : Nat} (hS : isS S) (h : gShC S o k) : gSSC o k := by
  rcases h with h | h
  · exact Or.inr (Or.inr (Or.inl (gPC_Op h)))
  · exact Or.inr (Or.inr (Or.inr (by rcases hS with rfl | rfl <;> omega)))
theorem gSSM_of {o k : Nat} (h : gShM o k) : gSSM o k := by
  rcases h with h | h
  · exact Or.inl (gPM_Op h)
  · exact Or.inr (by unfold gSdM at h; omega)
theorem rel_shed {s t : zSt} {S S' : Nat} (hS : isS S) (hS' : isS S') (hne : S ≠ S') (r2 : zR s 0 2 = S) (r3 : zR s 0 3 = S') (hT : rTape s t) (hK : kwC s) (hI : iSh2 S s t) : ∃ r s' t', m_X8_shed 0 s = some (r, s') ∧ m_X9_shed 64 t = some (r, t') ∧ (rTape s' t' ∧ rFau s' t' ∧ kwC s' ∧ ∃ G G', isS G ∧ isS G' ∧ G ≠ G' ∧ zR s' 0 2 = G ∧ zR s' 0 3 = G' ∧ iSh2 G s' t') ∧ zOf gSSC s s' ∧ zOf gSSM t t' := by
  obtain ⟨N, B, hT1, hT2, hT3⟩ := tape_B hT
  have hb : 5 ≤ S' ∧ S' ≤ 12 := by rcases hS' with rfl | rfl <;> omega
  have hb2 : 5 ≤ S ∧ S ≤ 12 := by rcases hS with rfl | rfl <;> omega
  have hdis : S + 7 ≤ S' ∨ S' + 7 ≤ S := by rcases hS with rfl | rfl <;> rcases hS' with rfl | rfl <;> omega
  obtain ⟨⟨q1, -, -⟩, ⟨t1, t2, -⟩, ⟨n6, -⟩⟩ := hS'.c3
  -- the class begins
  obtain ⟨s1, a1, a2, a3⟩ := openC hT1 hK false
  have A1 : m_X3_open 3 0 s = some s1 := a1
  have eC : zOf (fun o k => (o = S' ∧ (k = 0 ∨ k = 3)) ∨ (o = S' + 6) ∨ (o = S' + 1 ∧ (k = 0 ∨ k = 1 ∨ k = 6 ∨ k = 7))) s1 (zsI (zsI (zsI (zsI (zcpU (zsI (zsI s1 S' 0 0) S' 3 0) (S' + 6)) (S' + 1) 0 0) (S' + 1) 1 0) (S' + 1) 6 0) (S' + 1) 7 0) :=
    (((((((zOf.rf.sI (Or.inl ⟨rfl, Or.inl rfl⟩)).sI (Or.inl ⟨rfl, Or.inr rfl⟩)).tr ((cpU_of _ (S' + 6)).mono (fun o k h => Or.inr (Or.inl h.1))))).sI (Or.inr (Or.inr ⟨rfl, by omega⟩))).sI (Or.inr (Or.inr ⟨rfl, by omega⟩))).sI (Or.inr (Or.inr ⟨rfl, by omega⟩))).sI (Or.inr (Or.inr ⟨rfl, by omega⟩))
  have hC0 : sdC S' 0 0 0 0 plU (fun _ => []) (fun _ => []) (fun _ => 0) (zsI (zsI (zsI (zsI (zcpU (zsI (zsI s1 S' 0 0) S' 3 0) (S' + 6)) (S' + 1) 0 0) (S' + 1) 1 0) (S' + 1) 6 0) (S' + 1) 7 0) := by
    refine ⟨⟨?_, ?_⟩, ⟨?_, ?_, ?_, ?_⟩, ⟨fun k hk => by omega, fun k hk => by omega⟩, fun k hk => by omega, fun k hk => ?_⟩
    · simp only [zI_sI, zI_cp, show ¬ S' = S' + 1 by omega, show ¬ S' = S' + 6 by omega, false_and, if_false, and_self, if_true, show ¬ (0 : Nat) = 3 by decide, and_false]; rfl
    · simp only [zI_sI, zI_cp, show ¬ S' = S' + 1 by omega, show ¬ S' = S' + 6 by omega, false_and, if_false, and_self, if_true]; rfl
    · simp only [zI_sI, show ¬ (0 : Nat) = 7 by decide, show ¬ (0 : Nat) = 6 by decide, show ¬ (0 : Nat) = 1 by decide, and_false, if_false, and_self, if_true]; rfl
    · simp only [zI_sI, show ¬ (1 : Nat) = 7 by decide, show ¬ (1 : Nat) = 6 by decide, and_false, if_false, and_self, if_true]; rfl
    · simp only [zI_sI, show ¬ (6 : Nat) = 7 by decide, and_false, if_false, and_self, if_true]
    · simp only [zI_sI, and_self, if_true]
    · simp only [zI_sI, zI_cp, show ¬ S' + 6 = S' + 1 by omega, false_and, if_false, true_and, hk, if_true]
      exact zi_of _
  -- the model begins
  have e0 : zOf (fun o k => o = 64 ∧ (k = 18 ∨ k = 19 ∨ k = 20)) t (zsI (zsI (zsI t 64 18 0) 64 19 0) 64 20 0) := ((zOf.rf.sI ⟨rfl, by omega⟩).sI ⟨rfl, by omega⟩).sI ⟨rfl, by omega⟩
  obtain ⟨u1, p1, p2, p3⟩ := pl_lp (kk := fun s_8 => zcv (m_X9_start 64 0 s_8) (fun s9 => lp_X9_shed_51 64 (fun s_23 => m_X9_shed_193 64 s_23) zFuel s9)) 11 0 zFuel (zsI (zsI (zsI t 64 18 0) 64 19 0) 64 20 0) (by omega) (by unfold zFuel; omega) (fun k hk => by omega)
  have f01 : ∀ o k, ¬ (o = 64 ∧ (k = 18 ∨ k = 19 ∨ k = 20)) → o ≠ 66 → o ≠ 70 → zI u1 o k = zI t o k ∧ zL u1 o k = zL t o k := fun o k h1 h2 h3 => by
    have x := p3 o k (by omega)
    have y := e0 o k h1
    exact ⟨x.1.trans y.1, x.2.1.trans y.2.1⟩
  obtain ⟨u2, b1, b2, b3, b4⟩ := startM (t := u1) hT1.1 ((f01 64 1 (by omega) (by omega) (by omega)).1.trans hT2) (fun k hk => ⟨(hT3 k hk).1, (f01 65 k (by omega) (by omega) (by omega)).1.trans (hT3 k hk).2⟩) false
  have B1 : m_X9_start 64 0 u1 = some u2 := b1
  have hM0 : sdM 0 0 0 0 plU (fun _ => []) (fun _ => []) (fun _ => 0) u2 := by
    refine ⟨⟨?_, fun k hk => ?_⟩, ⟨?_, ?_⟩, ⟨fun k hk => by omega, fun k hk => by omega⟩, fun k hk => by omega, fun k hk => ?_⟩
    · rw [(b4 64 20 (by unfold gOpM; omega)).1, (p3 64 20 (by omega)).1]; simp [zI_sI, zI_sL, zI_sR, zL_sI, zL_sL, zL_sR, zR_sI, zR_sL, zR_sR]; rfl
    · rw [(b4 70 k (by unfold gOpM; omega)).1, (p2 k hk).2, Nat.zero_testBit]; rfl
    · rw [(b4 64 18 (by unfold gOpM; omega)).1, (p3 64 18 (by omega)).1]; simp [zI_sI, zI_sL, zI_sR, zL_sI, zL_sL, zL_sR, zR_sI, zR_sL, zR_sR]; rfl
    · rw [(b4 64 19 (by unfold gOpM; omega)).1, (p3 64 19 (by omega)).1]; simp [zI_sI, zI_sL, zI_sR, zL_sI, zL_sL, zL_sR, zR_sI, zR_sL, zR_sR]; rfl
    · rw [(b4 66 k (by unfold gOpM; omega)).1, (p2 k hk).1]; exact zi_of _
  obtain ⟨r, s2, t2', c1, c2, c3, c4, c5⟩ := sh_lp (B := B) (N := N) hS' hT1.1 801 0 0 zFuel zFuel _ u2 0 0 0 plU (fun _ => []) (fun _ => []) (fun _ => 0) (by omega) (by unfold zFuel; omega) (by unfold zFuel; omega) (by omega) (a2.of eC (fun o k hw => by unfold gRdC; omega)) b2 hC0 hM0 ⟨by omega, by omega, by omega, ⟨fun k hk => by omega, fun j k hj => by omega⟩, ⟨fun k hk => by omega, fun j k hj => by omega⟩, fun k hk => by omega, okSet_pl⟩
  have C1 : m_X5_read S' 3 s1 = some (r, s2) := by
    simp only [m_X5_read, zlt_eq, t2, n6, if_true, t1, m_X0_clear, zcv_some]
    exact c1
  have rr : ∀ k, zR s2 0 k = zR s 0 k := fun k => by
    rw [(c4 0 k (by unfold gShC gPC; omega)).2.2, (eC 0 k (by omega)).2.2, (a3 0 k (by unfold gOpC; omega)).2.2]
  have fC2 : zOf gSSC s s2 := ((a3.mono (fun o k h => Or.inr (Or.inr (Or.inl h)))).tr (eC.mono (fun o k h => Or.inr (Or.inr (Or.inr (by omega)))))).tr (c4.mono (fun o k h => gSSC_of hS' h))
  have fM2 : zOf gSSM t t2' := (((e0.mono (fun o k h => Or.inr (Or.inl (by omega)))).tr (p3.mono (fun o k h => Or.inr (Or.inr (Or.inl (by omega)))))).tr (b4.mono (fun o k h => Or.inl h))).tr (c5.mono (fun o k h => gSSM_of h))
  have e3 : zOf (fun o k => o = 1 ∧ k = 1) s2 (zsI s2 1 1 0) := zOf.rf.sI ⟨rfl, rfl⟩
  have fC3 : zOf gSSC s (zsI s2 1 1 0) := fC2.tr (e3.mono (fun o k h => Or.inr (Or.inl h)))
  have K3 : kwC (zsI s2 1 1 0) := fun i hi => (fC3 4 i (by unfold gSSC gOpC; omega)).2.1.trans (hK i hi)
  have t21 : zI t2' 64 1 = 0 := (c5 64 1 (by unfold gShM gPM gSdM; omega)).1.trans b3
  have s31 : zI (zsI s2 1 1 0) 1 1 = 0 := by rw [zI_sI, if_pos ⟨rfl, rfl⟩]
  have rr3 : ∀ k, zR (zsI s2 1 1 0) 0 k = zR s 0 k := fun k => (e3 0 k (by omega)).2.2.trans (rr k)
  have MD : m_X9_shed 64 t = m_X9_shed_193 64 t2' := by
    unfold m_X9_shed
    rw [zlt_eq, zlt_eq, zlt_eq]
    refine Eq.trans p1 ?_
    rw [B1, zcv_some]
    exact c2 _
  have old : iSh2 S s2 t2' := hI.st (fun o k h1 h2 => by
    have x1 := c4 o k (by unfold gShC gPC; omega)
    have x2 := eC o k (by omega)
    have x3 := a3 o k (by unfold gOpC; omega)
    rw [x1.1, x2.1, x3.1]) (fun o k hg => by
    have x1 := c5 o k (by unfold gSM at hg; unfold gShM gPM gSdM; omega)
    have x2 := b4 o k (by unfold gSM at hg; unfold gOpM; omega)
    have x3 := f01 o k (by unfold gSM at hg; omega) (by unfold gSM at hg; omega) (by unfold gSM at hg; omega)
    rw [x1.1, x2.1, x3.1])
  rcases c3 with ⟨hr, nl, nc, nt, tb, a, Wc, Wt, sh, d1, d2, d3, dF, d4, d5⟩ | ⟨hr, f, pl, hf0, hf1, hfc, hfm⟩
  · have nf : ¬ 0 < zI t2' 64 2 := by rw [d5.1]; decide
    obtain ⟨v1, g1, g2, g3⟩ := cp1_lp (kk := fun s_25 => lp_X9_shed_230 64 (fun s_28 => zlt (zsI s_28 64 21 (zI s_28 64 18)) (fun s29 => zlt (zsI s29 64 22 (zI s29 64 19)) (fun s30 => some (zI s30 64 20, s30)))) zFuel 0 s_25) 11 0 zFuel t2' (by omega) (by unfold zFuel; omega) (fun k hk => by omega)
    obtain ⟨v2, k1, k2, k3⟩ := cp2_lp (kk := fun s_28 => zlt (zsI s_28 64 21 (zI s_28 64 18)) (fun s29 => zlt (zsI s29 64 22 (zI s29 64 19)) (fun s30 => some (zI s30 64 20, s30)))) 8 0 zFuel v1 (by omega) (by unfold zFuel; omega) (fun k hk => by omega)
    have fv : ∀ o k, o ≠ 67 → o ≠ 69 → o ≠ 105 → zI v2 o k = zI t2' o k := fun o k h1 h2 h3 => (k3 o k (by omega)).1.trans (g3 o k (by omega)).1
    have v18 : zI v2 64 18 = zn nc := (fv 64 18 (by omega) (by omega) (by omega)).trans d2.2.1.1
    have v19 : zI (zsI v2 64 21 (zn nc)) 64 19 = zn nt := by rw [zI_sI, if_neg (by omega), fv 64 19 (by omega) (by omega) (by omega)]; exact d2.2.1.2
    have v20 : zI (zsI (zsI v2 64 21 (zn nc)) 64 22 (zn nt)) 64 20 = zn nl := by rw [zI_sI, if_neg (by omega), zI_sI, if_neg (by omega), fv 64 20 (by omega) (by omega) (by omega)]; exact d2.1.1
    have e4 : zOf (fun o k => o = 64 ∧ (k = 21 ∨ k = 22)) v2 (zsI (zsI v2 64 21 (zn nc)) 64 22 (zn nt)) := (zOf.rf.sI ⟨rfl, Or.inl rfl⟩).sI ⟨rfl, Or.inr rfl⟩
    have e5 : zOf (fun o k => o = 0 ∧ (k = 2 ∨ k = 3)) (zsI s2 1 1 0) (zsR (zsR (zsI s2 1 1 0) 0 2 S') 0 3 S) := (zOf.rf.sR (by omega)).sR (by omega)
    have i5 : zI (zsR (zsR (zsI s2 1 1 0) 0 2 S') 0 3 S) S' 0 = zn nl := by rw [zI_sR, zI_sR, (e3 S' 0 (by omega)).1]; exact d1.1.1
    have fs : ∀ o k, S' ≤ o → zI (zsR (zsR (zsI s2 1 1 0) 0 2 S') 0 3 S) o k = zI s2 o k := fun o k h => (e5 o k (by omega)).1.trans (e3 o k (by omega)).1
    have v67 : ∀ k, k < 11 → zI (zsI (zsI v2 64 21 (zn nc)) 64 22 (zn nt)) 67 k = zi (a k) := fun k hk => by
      rw [(e4 67 k (by omega)).1, (k3 67 k (by omega)).1, g2 k hk]; exact d2.2.2.2.2 k hk
    have hfin : iSh2 S' (zsR (zsR (zsI s2 1 1 0) 0 2 S') 0 3 S) (zsI (zsI v2 64 21 (zn nc)) 64 22 (zn nt)) := by
      refine ⟨⟨fun k hk => ?_, okSet_congr d3.2.2.2.2.2.2 (fun k hk => ?_)⟩, nc, nt, 0, 0, sh, ⟨?_, ?_, ?_, ?_, fun k hk => ?_⟩, ⟨?_, ?_, fun k hk => ?_, fun k hk => ⟨?_, fun x => ?_⟩⟩, ⟨d3.1, d3.2.1, by omega, by omega, d3.2.2.2.2.2.1⟩, fun x hx => ?_⟩
      · rw [fs (S' + 6) k (by omega), d1.2.2.2.2 k hk, v67 k hk]
      · unfold zset
        rw [v67 k hk]
        have := okSet_bd d3.2.2.2.2.2.2 hk
        exact zi_int (by unfold zib; omega)
      · rw [fs (S' + 1) 0 (by omega)]; exact d1.2.1.1
      · rw [fs (S' + 1) 1 (by omega)]; exact d1.2.1.2.1
      · rw [fs (S' + 1) 6 (by omega)]; exact d1.2.1.2.2.1
      · rw [fs (S' + 1) 7 (by omega)]; exact d1.2.1.2.2.2
      · rw [fs (S' + 4) k (by omega)]; exact d1.2.2.2.1 k hk
      · rw [zI_sI, if_neg (by omega), zI_sI, if_pos ⟨rfl, rfl⟩]
      · rw [zI_sI, if_pos ⟨rfl, rfl⟩]
      · rw [(e4 69 k (by omega)).1, (k2 k (by have := d3.2.1; omega)).1, (g3 68 k (by omega)).1]; exact d2.2.2.2.1 k hk
      · rw [(e4 105 k (by omega)).1, (k2 k (by have := d3.2.1; omega)).2, Nat.zero_testBit]; rfl
      · rw [Nat.zero_testBit] at x; exact absurd x (by decide)
      · rw [fs (S' + 5) x (by omega)]; exact dF x hx
    have fV : zOf gSSM t (zsI (zsI v2 64 21 (zn nc)) 64 22 (zn nt)) := ((fM2.tr (g3.mono (fun o k h => Or.inr (Or.inr (Or.inl (by omega)))))).tr (k3.mono (fun o k h => Or.inr (Or.inr (by omega))))).tr (e4.mono (fun o k h => Or.inr (Or.inl (by omega))))
    have fv1 : zI (zsI (zsI v2 64 21 (zn nc)) 64 22 (zn nt)) 64 1 = 0 := by rw [(e4 64 1 (by omega)).1, fv 64 1 (by omega) (by omega) (by omega)]; exact t21
    refine ⟨zn nl, zsR (zsR (zsI s2 1 1 0) 0 2 S') 0 3 S, zsI (zsI v2 64 21 (zn nc)) 64 22 (zn nt), ?_, ?_, ⟨rTape_0 ((e5 1 1 (by omega)).1.trans s31) fv1, ⟨?_, ?_⟩, fun i hi => (e5 4 i (by omega)).2.1.trans (K3 i hi), S', S, hS', hS, fun x => hne x.symm, ?_, ?_, hfin⟩, fC3.tr (e5.mono (fun o k h => Or.inl h)), fV⟩
    · simp only [m_X8_shed, zT_0_1, zT_0_0, A1, zcv_some, (a3 0 3 (by unfold gOpC; omega)).2.2, r3, q1, if_true, C1, zcl_some, hr, show ¬ (1 : Int32) = 0 by decide, if_false, zlt_eq, rr3, r2, hS.c3.1.1]
      simp only [zI_sI, zI_sL, zI_sR, zL_sI, zL_sL, zL_sR, zR_sI, zR_sL, zR_sR, show ¬ ((2 : Nat) = 3) by decide, and_false, and_self, if_true, if_false, q1]
      simp only [zI_sI, zI_sL, zI_sR, zL_sI, zL_sL, zL_sR, zR_sI, zR_sL, zR_sR] at i5
      rw [i5]
    · rw [MD]
      simp only [m_X9_shed_193, nf, if_false]
      refine Eq.trans g1 (Eq.trans k1 ?_)
      simp only [zlt_eq, v18, v19, v20]
    · rw [(e5 3 10 (by omega)).1, (e3 3 10 (by omega)).1, d4.1, (e4 64 2 (by omega)).1, fv 64 2 (by omega) (by omega) (by omega), d5.1]
    · rw [(e5 3 11 (by omega)).1, (e3 3 11 (by omega)).1, d4.2, (e4 64 3 (by omega)).1, fv 64 3 (by omega) (by omega) (by omega), d5.2]
    · simp only [zI_sI, zI_sL, zI_sR, zL_sI, zL_sL, zL_sR, zR_sI, zR_sL, zR_sR, show ¬ ((2 : Nat) = 3) by decide, and_false, and_self, if_true, if_false]
    · simp only [zI_sI, zI_sL, zI_sR, zL_sI, zL_sL, zL_sR, zR_sI, zR_sL, zR_sR, and_self, if_true]
  · have hp := hfm.pos hf0 hf1
    refine ⟨-1, zsI s2 1 1 0, t2', ?_, ?_, ⟨rTape_0 s31 t21, ?_, K3, S, S', hS, hS', hne, (rr3 2).trans r2, (rr3 3).trans r3, old.st (fun o k h1 h2 => ?_) (fun o k _ => rfl)⟩, fC3, fM2⟩
    · simp only [m_X8_shed, zT_0_1, zT_0_0, A1, zcv_some, (a3 0 3 (by unfold gOpC; omega)).2.2, r3, q1, if_true, C1, zcl_some, hr, zlt_eq]
    · rw [MD]
      simp only [m_X9_shed_193, hp, if_true]
    · have := rFau_fl hfc hfm
      exact ⟨(e3 3 10 (by omega)).1.trans this.1, (e3 3 11 (by omega)).1.trans this.2⟩
    · exact (e3 o k (by omega)).1
