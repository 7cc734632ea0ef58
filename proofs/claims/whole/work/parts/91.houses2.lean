theorem tape_B {s t : zSt} (h : rTape s t) : ∃ (N : Nat) (B : Nat → Nat), tpC B N s ∧ zI t 64 1 = zn N ∧ ∀ k, k < N → B k < 256 ∧ zI t 65 k = zn (B k) := by
  obtain ⟨N, h1, h2, h3, h4⟩ := h
  refine ⟨N, fun k => (zI t 65 k).toNatClampNeg, ⟨h1, h2, fun k hk => ?_⟩, h3, fun k hk => ?_⟩
  · obtain ⟨v, v1, v2, v3⟩ := h4 k hk
    have e : (zI t 65 k).toNatClampNeg = v := by rw [v2]; exact zn_cl (by omega)
    dsimp only
    rw [e]
    exact ⟨v1, v3⟩
  · obtain ⟨v, v1, v2, v3⟩ := h4 k hk
    have e : (zI t 65 k).toNatClampNeg = v := by rw [v2]; exact zn_cl (by omega)
    dsimp only
    rw [e]
    exact ⟨v1, v2⟩
theorem rTape_0 {s t : zSt} (h1 : zI s 1 1 = 0) (h2 : zI t 64 1 = 0) : rTape s t := ⟨0, by omega, h1, h2, fun k hk => by omega⟩
def rFau (s t : zSt) : Prop := zI s 3 10 = zI t 64 2 ∧ zI s 3 11 = zI t 64 3
theorem rFau_fl {f pl : Nat} {s t : zSt} (h : flC f pl s) (h' : flM f pl t) : rFau s t := ⟨h.1.trans h'.1.symm, h.2.trans h'.2.symm⟩
def gHHC (o k : Nat) : Prop := (o = 0 ∧ (k = 4 ∨ k = 5)) ∨ (o = 1 ∧ k = 1) ∨ gOpC o k ∨ (19 ≤ o ∧ o ≤ 32)
def gHHM (o k : Nat) : Prop := gOpM o k ∨ (o = 64 ∧ (k = 48 ∨ k = 49)) ∨ (84 ≤ o ∧ o ≤ 92)
theorem gHHC_of {H o k : Nat} (hH : isH H) (h : gHoC H o k) : gHHC o k := by
  rcases h with h | h
  · exact Or.inr (Or.inr (Or.inl (gPC_Op h)))
  · exact Or.inr (Or.inr (Or.inr (by rcases hH with rfl | rfl <;> omega)))
theorem gHHM_of {o k : Nat} (h : gHoM o k) : gHHM o k := by
  rcases h with h | h
  · exact Or.inl (gPM_Op h)
  · exact Or.inr (by omega)
theorem rel_houses {s t : zSt} {H H' : Nat} (hH : isH H) (hH' : isH H') (hne : H ≠ H') (r4 : zR s 0 4 = H) (r5 : zR s 0 5 = H') (hT : rTape s t) (hK : kwC s) (hI : iHo2 H s t) : ∃ r s' t', m_X8_houses 0 s = some (r, s') ∧ m_X9_houses 64 t = some (r, t') ∧ (rTape s' t' ∧ rFau s' t' ∧ kwC s' ∧ ∃ G G', isH G ∧ isH G' ∧ G ≠ G' ∧ zR s' 0 4 = G ∧ zR s' 0 5 = G' ∧ iHo2 G s' t') ∧ zOf gHHC s s' ∧ zOf gHHM t t' := by
  obtain ⟨N, B, hT1, hT2, hT3⟩ := tape_B hT
  have hb : 19 ≤ H' ∧ H' ≤ 26 := by rcases hH' with rfl | rfl <;> omega
  have hb2 : 19 ≤ H ∧ H ≤ 26 := by rcases hH with rfl | rfl <;> omega
  have hdis : H + 7 ≤ H' ∨ H' + 7 ≤ H := by rcases hH with rfl | rfl <;> rcases hH' with rfl | rfl <;> omega
  obtain ⟨s1, a1, a2, a3⟩ := openC hT1 hK false
  have A1 : m_X3_open 3 0 s = some s1 := a1
  have e0 : zOf (fun o k => o = 64 ∧ k = 48) t (zsI t 64 48 0) := zOf.rf.sI ⟨rfl, rfl⟩
  obtain ⟨t1, b1, b2, b3, b4⟩ := startM (t := zsI t 64 48 0) hT1.1 ((e0 64 1 (by omega)).1.trans hT2) (fun k hk => ⟨(hT3 k hk).1, (e0 65 k (by omega)).1.trans (hT3 k hk).2⟩) false
  have B1 : m_X9_start 64 0 (zsI t 64 48 0) = some t1 := b1
  have e1 : zOf (fun o k => o = H' ∧ k = 0) s1 (zsI s1 H' 0 0) := zOf.rf.sI ⟨rfl, rfl⟩
  obtain ⟨r, s2, t2, c1, c2, c3, c4, c5⟩ := hs_lp (B := B) (N := N) hH' 13 0 0 zFuel zFuel (zsI s1 H' 0 0) t1 (fun _ => []) (fun _ => []) (fun _ => []) (fun _ => 0) (fun _ => 0) (by omega) (by unfold zFuel; omega) (by unfold zFuel; omega) (by omega) (a2.of e1 (fun o k hw => by unfold gRdC; omega)) b2 ⟨by rw [zI_sI, if_pos ⟨rfl, rfl⟩]; rfl, fun k hk => by omega, fun k hk => by omega⟩ ⟨(b4 64 48 (by unfold gOpM; omega)).1.trans (by rw [zI_sI, if_pos ⟨rfl, rfl⟩]; rfl), fun k hk => by omega, fun k hk => by omega⟩ ⟨by omega, ⟨fun k hk => by omega, fun j k hj => by omega⟩, fun k hk => by omega⟩
  have C1 : m_X2_read H' 3 s1 = some (r, s2) := c1
  have rr : ∀ k, zR s2 0 k = zR s 0 k := fun k => by
    rw [(c4 0 k (by unfold gHoC gPC; omega)).2.2, (e1 0 k (by omega)).2.2, (a3 0 k (by unfold gOpC; omega)).2.2]
  have fC2 : zOf gHHC s s2 := ((a3.mono (fun o k h => Or.inr (Or.inr (Or.inl h)))).tr (e1.mono (fun o k h => Or.inr (Or.inr (Or.inr (by omega)))))).tr (c4.mono (fun o k h => gHHC_of hH' h))
  have fM2 : zOf gHHM t t2 := ((e0.mono (fun o k h => Or.inr (Or.inl (by omega)))).tr (b4.mono (fun o k h => Or.inl h))).tr (c5.mono (fun o k h => gHHM_of h))
  have e3 : zOf (fun o k => o = 1 ∧ k = 1) s2 (zsI s2 1 1 0) := zOf.rf.sI ⟨rfl, rfl⟩
  have fC3 : zOf gHHC s (zsI s2 1 1 0) := fC2.tr (e3.mono (fun o k h => Or.inr (Or.inl h)))
  have K3 : kwC (zsI s2 1 1 0) := fun i hi => (fC3 4 i (by unfold gHHC gOpC; omega)).2.1.trans (hK i hi)
  have t21 : zI t2 64 1 = 0 := (c5 64 1 (by unfold gHoM gPM; omega)).1.trans b3
  have s31 : zI (zsI s2 1 1 0) 1 1 = 0 := by rw [zI_sI, if_pos ⟨rfl, rfl⟩]
  have rr3 : ∀ k, zR (zsI s2 1 1 0) 0 k = zR s 0 k := fun k => (e3 0 k (by omega)).2.2.trans (rr k)
  have MD : m_X9_houses 64 t = m_X9_houses_31 64 t2 := by
    unfold m_X9_houses
    rw [zlt_eq, B1, zcv_some]
    exact c2 _
  have old : iHo2 H s2 t2 := hI.st (fun o k h1 h2 => by
    have q1 := c4 o k (by unfold gHoC gPC; omega)
    have q2 := e1 o k (by omega)
    have q3 := a3 o k (by unfold gOpC; omega)
    exact ⟨by rw [q1.1, q2.1, q3.1], by rw [q1.2.1, q2.2.1, q3.2.1]⟩) (fun o k hg => by
    have q1 := c5 o k (by unfold gHM at hg; unfold gHoM gPM; omega)
    have q2 := b4 o k (by unfold gHM at hg; unfold gOpM; omega)
    have q3 := e0 o k (by unfold gHM at hg; omega)
    exact ⟨by rw [q1.1, q2.1, q3.1], by rw [q1.2.1, q2.2.1, q3.2.1]⟩)
  rcases c3 with ⟨hr, n, W, P, Q, sy, sp, d1, d2, d3, d4, d5⟩ | ⟨hr, f, pl, hf0, hf1, hfc, hfm⟩
  · have nf : ¬ 0 < zI t2 64 2 := by rw [d5.1]; decide
    have e4 : zOf (fun o k => o = 64 ∧ k = 49) t2 (zsI t2 64 49 (zn n)) := zOf.rf.sI ⟨rfl, rfl⟩
    obtain ⟨t3, g1, g2, g3⟩ := hcp_lp d3.1 n 0 zFuel (zsI t2 64 49 (zn n)) (by omega) (by have := d3.1; unfold zFuel; omega) (by rw [zI_sI, if_pos ⟨rfl, rfl⟩]) (fun k hk => by omega)
    have g1' : lp_X9_houses_50 64 zFuel 0 (zsI t2 64 49 (zn n)) = some (zn n, t3) := g1
    have e5 : zOf (fun o k => o = 0 ∧ (k = 4 ∨ k = 5)) (zsI s2 1 1 0) (zsR (zsR (zsI s2 1 1 0) 0 4 H') 0 5 H) := (zOf.rf.sR (by omega)).sR (by omega)
    have i5 : zI (zsR (zsR (zsI s2 1 1 0) 0 4 H') 0 5 H) H' 0 = zn n := by rw [zI_sR, zI_sR, (e3 H' 0 (by omega)).1]; exact d1.1
    have hfin : iHo2 H' (zsR (zsR (zsI s2 1 1 0) 0 4 H') 0 5 H) t3 := by
      have hcs : ∀ k, k < n → zI t3 91 k = zI t2 89 k ∧ zI t3 92 k = zI t2 90 k ∧ zL t3 87 k = zL t2 85 k ∧ zL t3 88 k = zL t2 86 k := fun k hk => by
        have := g2 k hk
        rw [(e4 89 k (by omega)).1, (e4 90 k (by omega)).1, (e4 85 k (by omega)).2.1, (e4 86 k (by omega)).2.1] at this
        exact this
      have := hs_iHo (t' := t3) d1 d2 d3 ((g3 64 49 (by omega)).1.trans (by rw [zI_sI, if_pos ⟨rfl, rfl⟩])) hcs
      exact this.st (fun o k h1 h2 => by
        have q1 := e5 o k (by omega)
        have q2 := e3 o k (by omega)
        exact ⟨by rw [q1.1, q2.1], by rw [q1.2.1, q2.2.1]⟩) (fun o k _ => ⟨rfl, rfl⟩)
    refine ⟨zn n, zsR (zsR (zsI s2 1 1 0) 0 4 H') 0 5 H, t3, ?_, ?_, ⟨rTape_0 ((e5 1 1 (by omega)).1.trans s31) ((g3 64 1 (by omega)).1.trans ((e4 64 1 (by omega)).1.trans t21)), ⟨?_, ?_⟩, fun i hi => (e5 4 i (by omega)).2.1.trans (K3 i hi), H', H, hH', hH, fun x => hne x.symm, ?_, ?_, hfin⟩, fC3.tr (e5.mono (fun o k h => Or.inl h)), (fM2.tr (e4.mono (fun o k h => Or.inr (Or.inl (by omega))))).tr (g3.mono (fun o k h => Or.inr (Or.inr (by omega))))⟩
    · simp only [m_X8_houses, zT_0_1, zT_0_0, A1, zcv_some, (a3 0 5 (by unfold gOpC; omega)).2.2, r5, hH'.c.1, if_true, C1, zcl_some, hr, show ¬ (1 : Int32) = 0 by decide, if_false, zlt_eq, rr3, r4, hH.c.1]
      simp only [zI_sI, zI_sL, zI_sR, zL_sI, zL_sL, zL_sR, zR_sI, zR_sL, zR_sR, show ¬ ((4 : Nat) = 5) by decide, and_false, and_self, if_true, if_false, hH'.c.1]
      simp only [zI_sI, zI_sL, zI_sR, zL_sI, zL_sL, zL_sR, zR_sI, zR_sL, zR_sR] at i5
      rw [i5]
    · rw [MD]
      simp only [m_X9_houses_31, nf, if_false, d2.1, zlt_eq, g1']
    · rw [(e5 3 10 (by omega)).1, (e3 3 10 (by omega)).1, d4.1, (g3 64 2 (by omega)).1, (e4 64 2 (by omega)).1, d5.1]
    · rw [(e5 3 11 (by omega)).1, (e3 3 11 (by omega)).1, d4.2, (g3 64 3 (by omega)).1, (e4 64 3 (by omega)).1, d5.2]
    · simp only [zI_sI, zI_sL, zI_sR, zL_sI, zL_sL, zL_sR, zR_sI, zR_sL, zR_sR, show ¬ ((4 : Nat) = 5) by decide, and_false, and_self, if_true, if_false]
    · simp only [zI_sI, zI_sL, zI_sR, zL_sI, zL_sL, zL_sR, zR_sI, zR_sL, zR_sR, and_self, if_true]
  · have hp := hfm.pos hf0 hf1
    refine ⟨-1, zsI s2 1 1 0, t2, ?_, ?_, ⟨rTape_0 s31 t21, ?_, K3, H, H', hH, hH', hne, (rr3 4).trans r4, (rr3 5).trans r5, old.st (fun o k h1 h2 => ?_) (fun o k _ => ⟨rfl, rfl⟩)⟩, fC3, fM2⟩
    · simp only [m_X8_houses, zT_0_1, zT_0_0, A1, zcv_some, (a3 0 5 (by unfold gOpC; omega)).2.2, r5, hH'.c.1, if_true, C1, zcl_some, hr, zlt_eq]
    · rw [MD]
      simp only [m_X9_houses_31, hp, if_true]
    · have := rFau_fl hfc hfm
      exact ⟨(e3 3 10 (by omega)).1.trans this.1, (e3 3 11 (by omega)).1.trans this.2⟩
    · exact ⟨(e3 o k (by omega)).1, (e3 o k (by omega)).2.1⟩
