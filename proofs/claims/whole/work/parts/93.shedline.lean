/-! the shed: what is read so far -/
def sdC (S nc nt nl tb : Nat) (a : Nat → Int) (Wc Wt : Nat → List Nat) (sh : Nat → Nat) (s : zSt) : Prop := (zI s S 0 = zn nl ∧ zI s S 3 = zn tb) ∧ (zI s (S + 1) 0 = zn nc ∧ zI s (S + 1) 1 = zn nt ∧ zI s (S + 1) 6 = 0 ∧ zI s (S + 1) 7 = 0) ∧ (nmC Wc nc (S + 2) s ∧ nmC Wt nt (S + 3) s) ∧ (∀ k, k < nt → zI s (S + 4) k = zn (sh k)) ∧ ∀ k, k < 11 → zI s (S + 6) k = zi (a k)
def sdM (nc nt nl tb : Nat) (a : Nat → Int) (Wc Wt : Nat → List Nat) (sh : Nat → Nat) (t : zSt) : Prop := (zI t 64 20 = zn nl ∧ ∀ k, k < 11 → zI t 70 k = zn (tb.testBit k).toNat) ∧ (zI t 64 18 = zn nc ∧ zI t 64 19 = zn nt) ∧ (nmM Wc nc 71 t ∧ nmM Wt nt 72 t) ∧ (∀ k, k < nt → zI t 68 k = zn (sh k)) ∧ ∀ k, k < 11 → zI t 66 k = zi (a k)
def sdO (nc nt tb : Nat) (a : Nat → Int) (Wc Wt : Nat → List Nat) (sh : Nat → Nat) : Prop := nc ≤ 8 ∧ nt ≤ 8 ∧ tb < 2048 ∧ nmL Wc nc ∧ nmL Wt nt ∧ (∀ k, k < nt → sh k < 2 ^ nc) ∧ okSet a
theorem sdC.of {S nc nt nl tb : Nat} {a : Nat → Int} {Wc Wt : Nat → List Nat} {sh : Nat → Nat} {s s' : zSt} (h : sdC S nc nt nl tb a Wc Wt sh s) (e : ∀ o j, S ≤ o → o ≤ S + 6 → zI s' o j = zI s o j ∧ zL s' o j = zL s o j) : sdC S nc nt nl tb a Wc Wt sh s' := by
  obtain ⟨⟨a1, a2⟩, ⟨b1, b2, b3, b4⟩, ⟨c1, c2⟩, d1, d2⟩ := h
  exact ⟨⟨(e S 0 (by omega) (by omega)).1.trans a1, (e S 3 (by omega) (by omega)).1.trans a2⟩, ⟨(e (S + 1) 0 (by omega) (by omega)).1.trans b1, (e (S + 1) 1 (by omega) (by omega)).1.trans b2, (e (S + 1) 6 (by omega) (by omega)).1.trans b3, (e (S + 1) 7 (by omega) (by omega)).1.trans b4⟩, ⟨fun k hk => (e (S + 2) k (by omega) (by omega)).2.trans (c1 k hk), fun k hk => (e (S + 3) k (by omega) (by omega)).2.trans (c2 k hk)⟩, fun k hk => (e (S + 4) k (by omega) (by omega)).1.trans (d1 k hk), fun k hk => (e (S + 6) k (by omega) (by omega)).1.trans (d2 k hk)⟩
def gSdM (o j : Nat) : Prop := (o = 64 ∧ 18 ≤ j ∧ j ≤ 20) ∨ o = 66 ∨ o = 68 ∨ o = 70 ∨ o = 71 ∨ o = 72
theorem sdM.of {nc nt nl tb : Nat} {a : Nat → Int} {Wc Wt : Nat → List Nat} {sh : Nat → Nat} {t t' : zSt} (h : sdM nc nt nl tb a Wc Wt sh t) (e : ∀ o j, gSdM o j → zI t' o j = zI t o j ∧ zL t' o j = zL t o j) : sdM nc nt nl tb a Wc Wt sh t' := by
  obtain ⟨⟨a1, a2⟩, ⟨b1, b2⟩, ⟨c1, c2⟩, d1, d2⟩ := h
  exact ⟨⟨(e 64 20 (by unfold gSdM; omega)).1.trans a1, fun k hk => (e 70 k (by unfold gSdM; omega)).1.trans (a2 k hk)⟩, ⟨(e 64 18 (by unfold gSdM; omega)).1.trans b1, (e 64 19 (by unfold gSdM; omega)).1.trans b2⟩, ⟨fun k hk => (e 71 k (by unfold gSdM; omega)).2.trans (c1 k hk), fun k hk => (e 72 k (by unfold gSdM; omega)).2.trans (c2 k hk)⟩, fun k hk => (e 68 k (by unfold gSdM; omega)).1.trans (d1 k hk), fun k hk => (e 66 k (by unfold gSdM; omega)).1.trans (d2 k hk)⟩
theorem sdC.set {S nc nt nl tb tb' k : Nat} {a : Nat → Int} {v : Int} {Wc Wt : Nat → List Nat} {sh : Nat → Nat} {s s' : zSt} (h : sdC S nc nt nl tb a Wc Wt sh s) (e : zOf (fun o j => gPC o j ∨ (o = S ∧ j = 3) ∨ (o = S + 6 ∧ j = k)) s s') (hS : 5 ≤ S) (h3 : zI s' S 3 = zn tb') (h6 : zI s' (S + 6) k = zi v) : sdC S nc nt nl tb' (up a k v) Wc Wt sh s' := by
  obtain ⟨⟨a1, a2⟩, ⟨b1, b2, b3, b4⟩, ⟨c1, c2⟩, d1, d2⟩ := h
  have f : ∀ o j, S ≤ o → o ≤ S + 6 → ¬ (o = S ∧ j = 3) → ¬ (o = S + 6 ∧ j = k) → zI s' o j = zI s o j ∧ zL s' o j = zL s o j := fun o j h1 h2 h3 h4 => by
    have := e o j (by unfold gPC; omega)
    exact ⟨this.1, this.2.1⟩
  refine ⟨⟨(f S 0 (by omega) (by omega) (by omega) (by omega)).1.trans a1, h3⟩, ⟨(f (S + 1) 0 (by omega) (by omega) (by omega) (by omega)).1.trans b1, (f (S + 1) 1 (by omega) (by omega) (by omega) (by omega)).1.trans b2, (f (S + 1) 6 (by omega) (by omega) (by omega) (by omega)).1.trans b3, (f (S + 1) 7 (by omega) (by omega) (by omega) (by omega)).1.trans b4⟩, ⟨fun j hj => (f (S + 2) j (by omega) (by omega) (by omega) (by omega)).2.trans (c1 j hj), fun j hj => (f (S + 3) j (by omega) (by omega) (by omega) (by omega)).2.trans (c2 j hj)⟩, fun j hj => (f (S + 4) j (by omega) (by omega) (by omega) (by omega)).1.trans (d1 j hj), fun j hj => ?_⟩
  unfold up
  by_cases hjk : j = k
  · rw [if_pos hjk, hjk]; exact h6
  · rw [if_neg hjk]
    exact (f (S + 6) j (by omega) (by omega) (by omega) (by omega)).1.trans (d2 j hj)
theorem sdM.set {nc nt nl tb k : Nat} {a : Nat → Int} {v : Int} {Wc Wt : Nat → List Nat} {sh : Nat → Nat} {t t' : zSt} (h : sdM nc nt nl tb a Wc Wt sh t) (e : zOf (fun o j => gPM o j ∨ (o = 70 ∧ j = k) ∨ (o = 66 ∧ j = k)) t t') (h70 : zI t' 70 k = 1) (h6 : zI t' 66 k = zi v) : sdM nc nt nl (tb ||| 2 ^ k) (up a k v) Wc Wt sh t' := by
  obtain ⟨⟨a1, a2⟩, ⟨b1, b2⟩, ⟨c1, c2⟩, d1, d2⟩ := h
  refine ⟨⟨(e 64 20 (by unfold gPM; omega)).1.trans a1, fun j hj => ?_⟩, ⟨(e 64 18 (by unfold gPM; omega)).1.trans b1, (e 64 19 (by unfold gPM; omega)).1.trans b2⟩, ⟨fun j hj => (e 71 j (by unfold gPM; omega)).2.1.trans (c1 j hj), fun j hj => (e 72 j (by unfold gPM; omega)).2.1.trans (c2 j hj)⟩, fun j hj => (e 68 j (by unfold gPM; omega)).1.trans (d1 j hj), fun j hj => ?_⟩
  · rw [or2_bit]
    by_cases hjk : j = k
    · rw [hjk, h70]; simp; rfl
    · have : ¬ k = j := fun x => hjk x.symm
      rw [(e 70 j (by unfold gPM; omega)).1, a2 j hj]
      simp [this]
  · unfold up
    by_cases hjk : j = k
    · rw [if_pos hjk, hjk]; exact h6
    · rw [if_neg hjk, (e 66 j (by unfold gPM; omega)).1]; exact d2 j hj
theorem okSet_up {a : Nat → Int} (h : okSet a) {k : Nat} (h3 : 3 ≤ k) (hk : k < 11) {v : Int} (hv : (7 ≤ k → -999 ≤ v ∧ v ≤ 999) ∧ (k < 7 → (Lk k : Int) ≤ v ∧ v ≤ Mk k)) : okSet (up a k v) := by
  unfold okSet at h ⊢
  rcases (show k = 3 ∨ k = 4 ∨ k = 5 ∨ k = 6 ∨ k = 7 ∨ k = 8 ∨ k = 9 ∨ k = 10 by omega) with rfl | rfl | rfl | rfl | rfl | rfl | rfl | rfl <;> simp [up, Lk, Mk] at hv ⊢ <;> omega
/-- near and far -/
theorem near_far {B : Nat → Nat} {N p : Nat} {s t : zSt} (h : rkC B N false p s) (h' : rkM B N false p t) {S : Nat} (hS : isS S) : ∃ r s' t', m_X5_readNearAndFar S 3 s = some (r, s') ∧ m_X9_readTold_73 64 0 t = some t' ∧ ((r = 1 ∧ ∃ p' v1 v2 : Nat, p ≤ p' ∧ rkC B N false p' s' ∧ rkM B N false p' t' ∧ (1 ≤ v1 ∧ v1 ≤ 20 ∧ v1 < v2 ∧ v2 ≤ 99) ∧ (zI s' (S + 6) 1 = zi v1 ∧ zI s' (S + 6) 2 = zi v2) ∧ (zI t' 66 1 = zi v1 ∧ zI t' 66 2 = zi v2)) ∨ (r = 0 ∧ ∃ f pl, f ≠ 0 ∧ f < 100 ∧ flC f pl s' ∧ flM f pl t')) ∧ zOf (fun o j => gPC o j ∨ (o = S + 6 ∧ (j = 1 ∨ j = 2))) s s' ∧ zOf (fun o j => gPM o j ∨ (o = 66 ∧ (j = 1 ∨ j = 2))) t t' := by
  obtain ⟨⟨-, S1, S2⟩, ⟨-, t2, -⟩, ⟨n6, -⟩⟩ := hS.c3
  have one0 : ¬ (1 : Int32) = 0 := by decide
  have fC : ∀ {a b : zSt}, zOf gPC a b → zOf (fun o j => gPC o j ∨ (o = S + 6 ∧ (j = 1 ∨ j = 2))) a b := fun e => e.mono (fun o k hw => Or.inl hw)
  have fM : ∀ {a b : zSt}, zOf gPM a b → zOf (fun o j => gPM o j ∨ (o = 66 ∧ (j = 1 ∨ j = 2))) a b := fun e => e.mono (fun o k hw => Or.inl hw)
  have T1 : ztabL 1 = (1 : Int32) := rfl
  have T2 : ztabM 1 = (20 : Int32) := rfl
  have T3 : ztabM 2 = (99 : Int32) := rfl
  have i1 : ¬ (1 : Int32) < 0 := by decide
  have i2 : ¬ (2 : Int32) < 0 := by decide
  have j1 : ¬ 11 ≤ 1 := by decide
  have j2 : ¬ 11 ≤ 2 := by decide
  -- once a fault stands the model only writes
  have bad : ∀ (u : zSt) {f pl : Nat}, f ≠ 0 → f < 100 → flM f pl u → ∀ v w : Int32, flM f pl (zsI (zsI u 66 1 v) 66 2 w) ∧ flM f pl (zsI u 66 2 w) := fun u f pl _ _ hh v w => ⟨⟨by rw [zI_sI, if_neg (by omega), zI_sI, if_neg (by omega)]; exact hh.1, by rw [zI_sI, if_neg (by omega), zI_sI, if_neg (by omega)]; exact hh.2⟩, ⟨by rw [zI_sI, if_neg (by omega)]; exact hh.1, by rw [zI_sI, if_neg (by omega)]; exact hh.2⟩⟩
  obtain ⟨s1, a1, a2, a3, a4⟩ := takeC h (k := 257) (by omega)
  have A1 : m_X3_take 3 257 s = _ := a1
  obtain ⟨u1, b1, b2, b3, b4⟩ := wantM h' (i := 1) (by omega)
  have B1 : m_X9_want 64 1852137842 t = some u1 := b1
  by_cases k1 : tkd B N false p = 257
  rotate_left
  · have hp := (b3 k1).pos (fc_ne (by omega)) (fc_lt (by omega))
    have hp2 : ∀ v, 0 < zI (zsI u1 66 1 v) 64 2 := fun v => by rw [zI_sI, if_neg (by omega)]; exact hp
    refine ⟨0, s1, zsI (zsI u1 66 1 0) 66 2 0, ?_, ?_, Or.inr ⟨rfl, _, _, fc_ne (by omega), fc_lt (by omega), a3 k1, (bad u1 (fc_ne (by omega)) (fc_lt (by omega)) (b3 k1) 0 0).1⟩, fC a4, ((fM b4).sI (by omega)).sI (by omega)⟩
    · simp only [m_X5_readNearAndFar, A1, k1, if_false, zcl_some, if_true]
    · simp only [m_X9_readTold_73, if_true, B1, zcv_some, toldF hp, zcl_some, tc_1, tc_2, zT_64_11, zN_66, i1, i2, j1, j2, or_self, if_false, zlt_eq, wantF (hp2 0), toldF (hp2 0)]
  replace a2 := a2 k1
  replace b2 := b2 k1
  obtain ⟨r2, s2, c1, c2, c3⟩ := takeNumC a2 (a := 1) (b := 20) (by omega) (by omega)
  have C1 : m_X3_takeNumber 3 1 20 s1 = some (r2, s2) := c1
  obtain ⟨v2, u2, d1, d2, d3⟩ := toldNumM b2 (a := 1) (b := 20) (by omega) (by omega)
  have D1 : m_X9_toldNumber 64 1 20 u1 = some (v2, u2) := d1
  rcases c2 with ⟨k2, r2e, w3, w4⟩ | ⟨k2, r2e, w3⟩
  rotate_left
  · rcases d2 with ⟨z1, -, -⟩ | ⟨-, z2⟩
    · exact absurd z1 k2
    have hp := z2.pos fcN_ne.1 fcN_ne.2
    have hp2 : ∀ v, 0 < zI (zsI u2 66 1 v) 64 2 := fun v => by rw [zI_sI, if_neg (by omega)]; exact hp
    refine ⟨0, s2, zsI (zsI u2 66 1 v2) 66 2 0, ?_, ?_, Or.inr ⟨rfl, _, _, fcN_ne.1, fcN_ne.2, w3, (bad u2 fcN_ne.1 fcN_ne.2 z2 v2 0).1⟩, (fC a4).tr (fC c3), (((fM b4).tr (fM d3)).sI (by omega)).sI (by omega)⟩
    · simp only [m_X5_readNearAndFar, A1, k1, if_true, one0, if_false, zcl_some, tc_1, i1, j1, or_self, T1, T2, C1, r2e]
    · simp only [m_X9_readTold_73, if_true, B1, zcv_some, D1, zcl_some, tc_1, tc_2, zT_64_11, zN_66, i1, i2, j1, j2, or_self, if_false, zlt_eq, wantF (hp2 v2), toldF (hp2 v2)]
  rcases d2 with ⟨-, z2, z3⟩ | ⟨z1, -⟩
  rotate_left
  · exact absurd k2 z1
  generalize hy : tnu B N (tnx B N p) = y at *
  have yb : 1 ≤ y ∧ y ≤ 20 := by rw [← hy]; exact k2.2
  have e3 : zOf (fun o j => o = S + 6 ∧ j = 1) s2 (zsI s2 (S + 6) 1 (zn y)) := zOf.rf.sI ⟨rfl, rfl⟩
  have e4 : zOf (fun o j => o = 66 ∧ j = 1) u2 (zsI u2 66 1 (zn y)) := zOf.rf.sI ⟨rfl, rfl⟩
  have rk3 := w3.of e3 (fun o j hw => by unfold gRdC; omega)
  have mk3 := z2.of e4 (fun o j hw => by unfold gRdM; omega)
  generalize hp2 : tnx B N (tnx B N p) = p2 at *
  obtain ⟨s3, a31, a32, a33, a34⟩ := takeC rk3 (k := 258) (by omega)
  have A3 : m_X3_take 3 258 (zsI s2 (S + 6) 1 (zn y)) = _ := a31
  obtain ⟨u3, b31, b32, b33, b34⟩ := wantM mk3 (i := 2) (by omega)
  have B3 : m_X9_want 64 6709618 (zsI u2 66 1 (zn y)) = some u3 := b31
  have fs3 : zOf (fun o j => gPC o j ∨ (o = S + 6 ∧ (j = 1 ∨ j = 2))) s s3 := (((fC a4).tr (fC c3)).tr (e3.mono (fun o j hw => Or.inr ⟨hw.1, Or.inl hw.2⟩))).tr (fC a34)
  have fu3 : zOf (fun o j => gPM o j ∨ (o = 66 ∧ (j = 1 ∨ j = 2))) t u3 := (((fM b4).tr (fM d3)).tr (e4.mono (fun o j hw => Or.inr ⟨hw.1, Or.inl hw.2⟩))).tr (fM b34)
  have s61 : zI s3 (S + 6) 1 = zn y := by rw [(a34 (S + 6) 1 (by unfold gPC; omega)).1, zI_sI, if_pos ⟨rfl, rfl⟩]
  have u61 : zI u3 66 1 = zn y := by rw [(b34 66 1 (by unfold gPM; omega)).1, zI_sI, if_pos ⟨rfl, rfl⟩]
  by_cases k3 : tkd B N false p2 = 258
  rotate_left
  · have hp := (b33 k3).pos (fc_ne (by omega)) (fc_lt (by omega))
    refine ⟨0, s3, zsI u3 66 2 0, ?_, ?_, Or.inr ⟨rfl, _, _, fc_ne (by omega), fc_lt (by omega), a33 k3, (bad u3 (fc_ne (by omega)) (fc_lt (by omega)) (b33 k3) 0 0).2⟩, fs3, fu3.sI (by omega)⟩
    · simp only [m_X5_readNearAndFar, A1, k1, if_true, one0, if_false, zcl_some, tc_1, i1, j1, or_self, T1, T2, C1, r2e, t2, n6, zlt_eq, w4, A3, k3]
    · simp only [m_X9_readTold_73, if_true, B1, zcv_some, D1, zcl_some, tc_1, tc_2, zT_64_11, zN_66, i1, i2, j1, j2, or_self, if_false, zlt_eq, z3, B3, toldF hp]
  replace a32 := a32 k3
  replace b32 := b32 k3
  obtain ⟨r4, s4, a41, a42, a43⟩ := takeNumC a32 (a := y + 1) (b := 99) (by omega) (by omega)
  have A4 : m_X3_takeNumber 3 (zn (y + 1)) 99 s3 = some (r4, s4) := a41
  obtain ⟨v4, u4, b41, b42, b43⟩ := toldNumM b32 (a := y + 1) (b := 99) (by omega) (by omega)
  have B4 : m_X9_toldNumber 64 (zn (y + 1)) 99 u3 = some (v4, u4) := b41
  rcases a42 with ⟨k4, r4e, w43, w44⟩ | ⟨k4, r4e, w43⟩
  rotate_left
  · rcases b42 with ⟨q1, -, -⟩ | ⟨-, q2⟩
    · exact absurd q1 k4
    refine ⟨0, s4, zsI u4 66 2 v4, ?_, ?_, Or.inr ⟨rfl, _, _, fcN_ne.1, fcN_ne.2, w43, (bad u4 fcN_ne.1 fcN_ne.2 q2 0 v4).2⟩, fs3.tr (fC a43), (fu3.tr (fM b43)).sI (by omega)⟩
    · simp only [m_X5_readNearAndFar, A1, k1, if_true, one0, if_false, zcl_some, tc_1, tc_2, i1, i2, j1, j2, or_self, T1, T2, T3, C1, r2e, t2, n6, zlt_eq, w4, A3, k3, s61, zn_succ, A4, r4e]
    · simp only [m_X9_readTold_73, if_true, B1, zcv_some, D1, zcl_some, tc_1, tc_2, zT_64_11, zN_66, i1, i2, j1, j2, or_self, if_false, zlt_eq, z3, B3, u61, zn_succ, B4]
  rcases b42 with ⟨-, q2, q3⟩ | ⟨q1, -⟩
  rotate_left
  · exact absurd k4 q1
  generalize hx : tnu B N (tnx B N p2) = x at *
  have xb : y + 1 ≤ x ∧ x ≤ 99 := by rw [← hx]; exact k4.2
  have e5 : zOf (fun o j => o = S + 6 ∧ j = 2) s4 (zsI s4 (S + 6) 2 (zn x)) := zOf.rf.sI ⟨rfl, rfl⟩
  have e6 : zOf (fun o j => o = 66 ∧ j = 2) u4 (zsI u4 66 2 (zn x)) := zOf.rf.sI ⟨rfl, rfl⟩
  refine ⟨1, zsI s4 (S + 6) 2 (zn x), zsI u4 66 2 (zn x), ?_, ?_, Or.inl ⟨rfl, tnx B N (tnx B N p2), y, x, ?_, w43.of e5 (fun o j hw => by unfold gRdC; omega), q2.of e6 (fun o j hw => by unfold gRdM; omega), by omega, ⟨?_, ?_⟩, ⟨?_, ?_⟩⟩, (fs3.tr (fC a43)).tr (e5.mono (fun o j hw => Or.inr ⟨hw.1, Or.inr hw.2⟩)), (fu3.tr (fM b43)).tr (e6.mono (fun o j hw => Or.inr ⟨hw.1, Or.inr hw.2⟩))⟩
  · simp only [m_X5_readNearAndFar, A1, k1, if_true, one0, if_false, zcl_some, tc_1, tc_2, i1, i2, j1, j2, or_self, T1, T2, T3, C1, r2e, t2, n6, zlt_eq, w4, A3, k3, s61, zn_succ, A4, r4e, w44]
  · simp only [m_X9_readTold_73, if_true, B1, zcv_some, D1, zcl_some, tc_1, tc_2, zT_64_11, zN_66, i1, i2, j1, j2, or_self, if_false, zlt_eq, z3, B3, u61, zn_succ, B4, q3]
  · have q1 := tnx_bd (B := B) h.1
    have q2 := tnx_bd (B := B) q1.2.1
    rw [hp2] at q2
    have q3 := tnx_bd (B := B) (p := p2) (N := N) (by omega)
    have q4 := tnx_bd (B := B) q3.2.1
    omega
  · rw [(e5 (S + 6) 1 (by omega)).1, (a43 (S + 6) 1 (by unfold gPC; omega)).1, s61, zn_zi (by omega)]
  · rw [zI_sI, if_pos ⟨rfl, rfl⟩, zn_zi (by omega)]
  · rw [(e6 66 1 (by omega)).1, (b43 66 1 (by unfold gPM; omega)).1, u61, zn_zi (by omega)]
  · rw [zI_sI, if_pos ⟨rfl, rfl⟩, zn_zi (by omega)]
