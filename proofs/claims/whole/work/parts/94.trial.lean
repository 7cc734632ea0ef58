/-! the shed: causes and trials -/
theorem pc_2 : ∀ c : Fin 16, pc (2 ^ c.val) = 1 := by decide +kernel
theorem pc_or2 {b c : Nat} (hc : c < 16) (h : b.testBit c = false) : pc (b ||| 2 ^ c) = pc b + 1 := by
  have h1 := pc_split (b ||| 2 ^ c) b
  have h2 : (b ||| 2 ^ c) &&& b = b := Nat.eq_of_testBit_eq (fun i => by
    rw [Nat.testBit_and, or2_bit]
    cases b.testBit i <;> simp)
  have h3 : adn (b ||| 2 ^ c) b = 2 ^ c := Nat.eq_of_testBit_eq (fun i => by
    rw [adn_bit, or2_bit, Nat.testBit_two_pow]
    by_cases hi : c = i
    · subst hi; rw [h]; simp
    · cases b.testBit i <;> simp [hi])
  rw [h2, h3, pc_2 ⟨c, hc⟩] at h1
  exact h1
def gShC (S o j : Nat) : Prop := gPC o j ∨ (S ≤ o ∧ o ≤ S + 6)
def gShM (o j : Nat) : Prop := gPM o j ∨ gSdM o j
/-- what a line's content comes to -/
def cOut (B : Nat → Nat) (N p S nl : Nat) (r : Int32) (s1 t1 : zSt) : Prop := (r = 1 ∧ ∃ (p' nc nt tb : Nat) (a : Nat → Int) (Wc Wt : Nat → List Nat) (sh : Nat → Nat), p < p' ∧ rkC B N false p' s1 ∧ rkM B N false p' t1 ∧ sdC S nc nt nl tb a Wc Wt sh s1 ∧ sdM nc nt nl tb a Wc Wt sh t1 ∧ sdO nc nt tb a Wc Wt sh) ∨ (r = 0 ∧ ∃ f pl, f ≠ 0 ∧ f < 100 ∧ flC f pl s1 ∧ flM f pl t1)
theorem nx_lt {B : Nat → Nat} {N p : Nat} {sm : Bool} (hp : p ≤ N) (hk : tkd B N sm p ≠ 0) : p < tnx B N p := by
  have q1 := tnx_bd (B := B) hp
  have q3 : tpl B N p < N := by
    by_cases q : tpl B N p < N
    · exact q
    · have : tkd B N sm p = 0 := by unfold tkd; rw [if_pos (by omega)]
      omega
  have := q1.2.2.2 q3
  omega
theorem cause_step {B : Nat → Nat} {N p : Nat} {s t : zSt} (h : rkC B N false p s) (h' : rkM B N false p t) {S nc nt nl tb : Nat} (hS : isS S) {a : Nat → Int} {Wc Wt : Nat → List Nat} {sh : Nat → Nat} (hC : sdC S nc nt nl tb a Wc Wt sh s) (hM : sdM nc nt nl tb a Wc Wt sh t) (hO : sdO nc nt tb a Wc Wt sh) (hk : tkd B N false p = 267) (h8 : nc < 8) :
    ∃ r s1 t1, m_X0_readCause (S + 1) 3 s = some (r, s1) ∧ m_X9_readCause 64 t = some t1 ∧ cOut B N p S nl r s1 t1 ∧ zOf (gShC S) s s1 ∧ zOf gShM t t1 := by
  obtain ⟨⟨-, S1, S2⟩, ⟨-, -, t2, -⟩, ⟨-, n2, -⟩⟩ := hS.c3
  obtain ⟨O1, O2, O3, O4, O5, O6, O7⟩ := hO
  have one0 : ¬ (1 : Int32) = 0 := by decide
  have l8 : zn nc < 8 := (zn_lt (b := 8) (by omega) (by omega)).2 h8
  obtain ⟨s1, a1, a2, a3⟩ := advC h
  obtain ⟨u1, b1, b2, b3⟩ := tokM h' (by omega)
  have hC1 := hC.of (s' := s1) (fun o j h1 h2 => ⟨(a3 o j (by unfold gPC; omega)).1, (a3 o j (by unfold gPC; omega)).2.1⟩)
  have hM1 := hM.of (t' := u1) (fun o j hg => ⟨(b3 o j (by unfold gSdM at hg; unfold gPM; omega)).1, (b3 o j (by unfold gSdM at hg; unfold gPM; omega)).2.1⟩)
  obtain ⟨r2, s2, c1, c2, c3⟩ := newNameC a2 (o := S + 2) (n := nc) n2 h8 (by omega) (by omega) O4 hC1.2.2.1.1
  -- the model's look
  have look : ∃ v : Int32, m_X9_causeOf 64 (zL u1 64 9) u1 = some (v, u1) ∧ (tkd B N false (tnx B N p) = 2 → (v < 0 ↔ ∀ k, k < nc → Wc k ≠ twd B N (tnx B N p))) := by
    by_cases k2 : tkd B N false (tnx B N p) = 2
    · have hw := (tkd_w (Or.inl k2) (fun k hk => (b2.2.1.2.2 k hk).1) b2.1).1
      rw [b2.2.2.2.1.2.2.2.2 (Or.inl k2)]
      by_cases hx : ∃ k, k < nc ∧ Wc k = twd B N (tnx B N p)
      · obtain ⟨j, j1, j2⟩ := hx
        refine ⟨zn j, ca_some O1 hM1.2.1.1 O4 hM1.2.2.1.1 hw j1 j2, fun _ => ⟨fun x => absurd x (zn_neg (by omega)), fun x => absurd j2 (x j j1)⟩⟩
      · refine ⟨-1, ca_none O1 hM1.2.1.1 O4 hM1.2.2.1.1 hw (fun k hk hh => hx ⟨k, hk, hh⟩), fun _ => ⟨fun _ k hk hh => hx ⟨k, hk, hh⟩, fun _ => by decide⟩⟩
    · obtain ⟨v, hv⟩ := ca_exists O1 hM1.2.1.1 (zL u1 64 9)
      exact ⟨v, hv, fun x => absurd x k2⟩
  obtain ⟨v, v1, v2⟩ := look
  obtain ⟨x, hx, hxv⟩ : ∃ x : Bool, m_X9_readCause 64 t = m_X9_readCause_21 64 64 (zn x.toNat) u1 ∧ (x = true ↔ ¬ v < 0) := by
    by_cases hv : v < 0
    · exact ⟨false, by simp only [m_X9_readCause, b1, zcv_some, v1, zcl_some, hv, if_true]; rfl, ⟨fun y => absurd y (by decide), fun y => absurd hv y⟩⟩
    · exact ⟨true, by simp only [m_X9_readCause, b1, zcv_some, v1, zcl_some, hv, if_false]; rfl, ⟨fun _ => hv, fun _ => rfl⟩⟩
  obtain ⟨w2, u2, d1, d2, d3⟩ := namedM b2 x
  have fs2 : zOf (gShC S) s s2 := (a3.mono (fun o k hw => Or.inl hw)).tr (c3.mono (fun o k hw => hw.elim Or.inl (fun q => Or.inr (by omega))))
  have fu2 : zOf gShM t u2 := (b3.mono (fun o k hw => Or.inl hw)).tr (d3.mono (fun o k hw => Or.inl hw))
  have two : (∃ f pl, f ≠ 0 ∧ f < 100 ∧ r2 = 0 ∧ flC f pl s2 ∧ flM f pl u2) ∨ (tkd B N false (tnx B N p) = 2 ∧ (∀ k, k < nc → Wc k ≠ twd B N (tnx B N p)) ∧ r2 = 1 ∧ rkC B N false (tnx B N (tnx B N p)) s2 ∧ zL s2 (S + 2) nc = zq (c27 (twd B N (tnx B N p)) : Int) ∧ rkM B N false (tnx B N (tnx B N p)) u2 ∧ w2 = zq (c256 (twd B N (tnx B N p)) : Int)) := by
    rcases c2 with ⟨x1, x2, x3, x4, x5⟩ | ⟨x1, x2, x3, x4⟩ | ⟨x1, x3, x4⟩
    · rcases d2 with ⟨z1, z2, z3, z4⟩ | ⟨z1, z2, z3⟩ | ⟨z1, z3⟩
      · exact Or.inr ⟨x1, x2, x3, x4, x5, z3, z4⟩
      · exact absurd ((v2 x1).2 x2) (hxv.1 z2)
      · exact absurd x1 z1
    · rcases d2 with ⟨z1, z2, z3, z4⟩ | ⟨z1, z2, z3⟩ | ⟨z1, z3⟩
      · have : x = true := hxv.2 (fun y => by
          obtain ⟨k, q1, q2⟩ := x2
          exact (v2 x1).1 y k q1 q2)
        rw [this] at z2; exact absurd z2 (by decide)
      · exact Or.inl ⟨3, _, by omega, by omega, x3, x4, z3⟩
      · exact absurd x1 z1
    · rcases d2 with ⟨z1, z2, z3, z4⟩ | ⟨z1, z2, z3⟩ | ⟨z1, z3⟩
      · exact absurd z1 x1
      · exact absurd z1 x1
      · exact Or.inl ⟨_, _, fc_ne (by omega), fc_lt (by omega), x3, x4, z3⟩
  rcases two with ⟨f, pl, hf0, hf1, hr, hfc, hfm⟩ | ⟨k2, w1, e2, w3, w4, w5, w6⟩
  · have hp := hfm.pos hf0 hf1
    refine ⟨0, s2, u2, ?_, ?_, Or.inr ⟨rfl, f, pl, hf0, hf1, hfc, hfm⟩, fs2, fu2⟩
    · simp only [m_X0_readCause, hC.2.1.1, l8, if_true, a1, zcv_some, t2, hC1.2.1.1, c1, zcl_some, hr]
    · rw [hx]; simp only [m_X9_readCause_21, d1, zcl_some, hp, if_true]
  have hw0 : okW (twd B N (tnx B N p)) := (tkd_w (Or.inl k2) (fun k hk => (b2.2.1.2.2 k hk).1) b2.1).1
  have pl1 := nx_lt (B := B) (sm := false) h.1 (by omega)
  have pl2 := nx_lt (B := B) (sm := false) a2.1 (by omega)
  generalize twd B N (tnx B N p) = w0 at *
  generalize tnx B N (tnx B N p) = p2 at *
  have c0 : zI s2 (S + 1) 0 = zn nc := (c3 (S + 1) 0 (by unfold gPC; omega)).1.trans hC1.2.1.1
  have m18 : zI u2 64 18 = zn nc := (d3 64 18 (by unfold gPM; omega)).1.trans hM1.2.1.1
  have nf : ¬ 0 < zI u2 64 2 := by rw [w5.2.2.2.2.1]; decide
  have g2 : ¬ zn nc < 0 := zn_neg (by omega)
  have g3 : (zn nc).toNatClampNeg = nc := zn_cl (by omega)
  have g4 : ¬ 8 ≤ nc := by omega
  have e5 : zOf (fun o j => o = S + 1 ∧ j = 0) s2 (zsI s2 (S + 1) 0 (zn (nc + 1))) := zOf.rf.sI ⟨rfl, rfl⟩
  have e6 : zOf (fun o j => (o = 71 ∧ j = nc) ∨ (o = 64 ∧ j = 18)) u2 (zsI (zsL u2 71 nc (zq (c256 w0 : Int))) 64 18 (zn (nc + 1))) := (zOf.rf.sL (Or.inl ⟨rfl, rfl⟩)).sI (Or.inr ⟨rfl, rfl⟩)
  have fC : ∀ o j, S ≤ o → o ≤ S + 6 → ¬ (o = S + 1 ∧ j = 0) → ¬ (o = S + 2 ∧ j = nc) → zI (zsI s2 (S + 1) 0 (zn (nc + 1))) o j = zI s o j ∧ zL (zsI s2 (S + 1) 0 (zn (nc + 1))) o j = zL s o j := fun o j h1 h2 h3 h4 => by
    have q1 := e5 o j (by omega)
    have q2 := c3 o j (by unfold gPC; omega)
    have q3 := a3 o j (by unfold gPC; omega)
    exact ⟨by rw [q1.1, q2.1, q3.1], by rw [q1.2.1, q2.2.1, q3.2.1]⟩
  have fM : ∀ o j, gSdM o j → ¬ (o = 71 ∧ j = nc) → ¬ (o = 64 ∧ j = 18) → zI (zsI (zsL u2 71 nc (zq (c256 w0 : Int))) 64 18 (zn (nc + 1))) o j = zI t o j ∧ zL (zsI (zsL u2 71 nc (zq (c256 w0 : Int))) 64 18 (zn (nc + 1))) o j = zL t o j := fun o j hg h3 h4 => by
    have q1 := e6 o j (by omega)
    have q2 := d3 o j (by unfold gSdM at hg; unfold gPM; omega)
    have q3 := b3 o j (by unfold gSdM at hg; unfold gPM; omega)
    exact ⟨by rw [q1.1, q2.1, q3.1], by rw [q1.2.1, q2.2.1, q3.2.1]⟩
  obtain ⟨⟨A1, A2⟩, ⟨A3, A4, A5, A6⟩, ⟨A7, A8⟩, A9, A10⟩ := hC
  obtain ⟨⟨M1, M2⟩, ⟨M3, M4⟩, ⟨M5, M6⟩, M7, M8⟩ := hM
  refine ⟨1, zsI s2 (S + 1) 0 (zn (nc + 1)), zsI (zsL u2 71 nc (zq (c256 w0 : Int))) 64 18 (zn (nc + 1)), ?_, ?_, Or.inl ⟨rfl, p2, nc + 1, nt, tb, a, up Wc nc w0, Wt, sh, by omega, w3.of e5 (fun o j hw => by unfold gRdC; omega), w5.of e6 (fun o j hw => by unfold gRdM; omega), ⟨⟨?_, ?_⟩, ⟨?_, ?_, ?_, ?_⟩, ⟨fun k hk => ?_, fun k hk => ?_⟩, fun k hk => ?_, fun k hk => ?_⟩, ⟨⟨?_, fun k hk => ?_⟩, ⟨?_, ?_⟩, ⟨fun k hk => ?_, fun k hk => ?_⟩, fun k hk => ?_, fun k hk => ?_⟩, ⟨by omega, O2, O3, nmL_up O4 hw0 w1, O5, fun k hk => ?_, O7⟩⟩, fs2.tr (e5.mono (fun o j hw => Or.inr (by omega))), fu2.tr (e6.mono (fun o j hw => Or.inr (by unfold gSdM; omega)))⟩
  · simp only [m_X0_readCause, A3, l8, if_true, a1, zcv_some, t2, hC1.2.1.1, c1, zcl_some, e2, one0, if_false, zlt_eq, c0, zn_succ]
  · rw [hx]
    simp only [m_X9_readCause_21, d1, zcl_some, nf, if_false, m18, zT_64_16, zN_71, g2, g3, g4, or_self, zlt_eq, w6]
    rw [show zI (zsL u2 71 nc (zq (c256 w0 : Int))) 64 18 = zn nc by rw [zI_sL]; exact m18, zn_succ]
  · exact (fC S 0 (by omega) (by omega) (by omega) (by omega)).1.trans A1
  · exact (fC S 3 (by omega) (by omega) (by omega) (by omega)).1.trans A2
  · rw [zI_sI, if_pos ⟨rfl, rfl⟩]
  · exact (fC (S + 1) 1 (by omega) (by omega) (by omega) (by omega)).1.trans A4
  · exact (fC (S + 1) 6 (by omega) (by omega) (by omega) (by omega)).1.trans A5
  · exact (fC (S + 1) 7 (by omega) (by omega) (by omega) (by omega)).1.trans A6
  · by_cases hkn : k = nc
    · rw [hkn, up_eq, (e5 (S + 2) nc (by omega)).2.1]; exact w4
    · rw [up_ne _ _ (show k < nc by omega)]
      exact (fC (S + 2) k (by omega) (by omega) (by omega) (by omega)).2.trans (A7 k (by omega))
  · exact (fC (S + 3) k (by omega) (by omega) (by omega) (by omega)).2.trans (A8 k hk)
  · exact (fC (S + 4) k (by omega) (by omega) (by omega) (by omega)).1.trans (A9 k hk)
  · exact (fC (S + 6) k (by omega) (by omega) (by omega) (by omega)).1.trans (A10 k hk)
  · exact (fM 64 20 (by unfold gSdM; omega) (by omega) (by omega)).1.trans M1
  · exact (fM 70 k (by unfold gSdM; omega) (by omega) (by omega)).1.trans (M2 k hk)
  · rw [zI_sI, if_pos ⟨rfl, rfl⟩]
  · exact (fM 64 19 (by unfold gSdM; omega) (by omega) (by omega)).1.trans M4
  · by_cases hkn : k = nc
    · rw [hkn, up_eq, zL_sI, zL_sL, if_pos ⟨rfl, rfl⟩]
    · rw [up_ne _ _ (show k < nc by omega)]
      exact (fM 71 k (by unfold gSdM; omega) (by omega) (by omega)).2.trans (M5 k (by omega))
  · exact (fM 72 k (by unfold gSdM; omega) (by omega) (by omega)).2.trans (M6 k hk)
  · exact (fM 68 k (by unfold gSdM; omega) (by omega) (by omega)).1.trans (M7 k hk)
  · exact (fM 66 k (by unfold gSdM; omega) (by omega) (by omega)).1.trans (M8 k hk)
  · have := O6 k hk
    rw [Nat.pow_succ]; omega
theorem tri_lp {t : zSt} {n : Nat} (hn : n ≤ 8) (c0 : zI t 64 19 = zn n) : ∀ (d i f : Nat) (x : Bool), i + d = n → d < f → ∃ y : Bool, (∀ kk, lp_X9_readTrial_8 64 kk f (zn x.toNat) (zn i) t = kk (zn y.toNat) t) ∧ (y = true ↔ (x = true ∨ ∃ k, i ≤ k ∧ k < n ∧ zL t 72 k = zL t 64 9)) := by
  intro d
  induction d with
  | zero =>
    intro i f x hi hf
    obtain ⟨f, rfl⟩ : ∃ g, f = g + 1 := ⟨f - 1, by omega⟩
    have h1 : ¬ zn i < zn n := by rw [zn_lt (by omega) (by omega)]; omega
    exact ⟨x, fun kk => by simp only [lp_X9_readTrial_8, bd_X9_readTrial_8, c0, h1, if_false], ⟨fun h => Or.inl h, fun h => h.elim id (fun ⟨k, h2, h3, _⟩ => by omega)⟩⟩
  | succ d ih =>
    intro i f x hi hf
    obtain ⟨f, rfl⟩ : ∃ g, f = g + 1 := ⟨f - 1, by omega⟩
    have h1 : zn i < zn n := by rw [zn_lt (by omega) (by omega)]; omega
    have h2 : ¬ zn i < 0 := zn_neg (by omega)
    have h3 : (zn i).toNatClampNeg = i := zn_cl (by omega)
    have h4 : ¬ 8 ≤ i := by omega
    have go : ∀ x' : Bool, (x' = true ↔ (x = true ∨ zL t 72 i = zL t 64 9)) → (∀ kk, lp_X9_readTrial_8 64 kk (f + 1) (zn x.toNat) (zn i) t = lp_X9_readTrial_8 64 kk f (zn x'.toNat) (zn (i + 1)) t) → ∃ y : Bool, (∀ kk, lp_X9_readTrial_8 64 kk (f + 1) (zn x.toNat) (zn i) t = kk (zn y.toNat) t) ∧ (y = true ↔ (x = true ∨ ∃ k, i ≤ k ∧ k < n ∧ zL t 72 k = zL t 64 9)) := by
      intro x' hx' hl
      obtain ⟨y, y1, y2⟩ := ih (i + 1) f x' (by omega) (by omega)
      refine ⟨y, fun kk => (hl kk).trans (y1 kk), ?_⟩
      rw [y2, hx']
      constructor
      · rintro ((h | h) | ⟨k, k1, k2, k3⟩)
        · exact Or.inl h
        · exact Or.inr ⟨i, by omega, by omega, h⟩
        · exact Or.inr ⟨k, by omega, k2, k3⟩
      · rintro (h | ⟨k, k1, k2, k3⟩)
        · exact Or.inl (Or.inl h)
        · by_cases hk : k = i
          · subst hk; exact Or.inl (Or.inr k3)
          · exact Or.inr ⟨k, by omega, k2, k3⟩
    cases x
    · by_cases he : zL t 72 i = zL t 64 9
      · exact go true ⟨fun _ => Or.inr he, fun _ => rfl⟩ (fun kk => by
          simp only [lp_X9_readTrial_8, bd_X9_readTrial_8, m_X9_readTrial_34, m_X9_readTrial_39, c0, h1, if_true, show zn (false).toNat = (0 : Int32) from rfl, zT_64_17, zN_72, h2, h3, h4, or_self, if_false, he, zn_succ]
          rfl)
      · exact go false ⟨fun h => absurd h (by decide), fun h => h.elim id (fun h => absurd h he)⟩ (fun kk => by
          simp only [lp_X9_readTrial_8, bd_X9_readTrial_8, m_X9_readTrial_39, c0, h1, if_true, show zn (false).toNat = (0 : Int32) from rfl, zT_64_17, zN_72, h2, h3, h4, or_self, if_false, he, zn_succ])
    · exact go true ⟨fun _ => Or.inl rfl, fun _ => rfl⟩ (fun kk => by
        simp only [lp_X9_readTrial_8, bd_X9_readTrial_8, m_X9_readTrial_34, m_X9_readTrial_39, c0, h1, if_true, show ¬ zn (true).toNat = (0 : Int32) by decide, if_false, zn_succ]
        rfl)
theorem tr_lp {B : Nat → Nat} {N : Nat} {S nc : Nat} (hS : isS S) (hnc : nc ≤ 8) {Wc : Nat → List Nat} (hL : nmL Wc nc) {w : Int64} {kC : Int32 → zSt → Option (Int32 × zSt)} {kM : Int64 → Int32 → zSt → Option zSt} : ∀ (d n b p fC fM : Nat) (s t : zSt), n + d = 9 → d < fC → d < fM → 0 < d → b < 2 ^ nc → pc b = n → (n = 0 → tkd B N false p = 2) → rkC B N false p s → rkM B N false p t → zI s (S + 1) 0 = zn nc → nmC Wc nc (S + 2) s → zI t 64 18 = zn nc → nmM Wc nc 71 t →
    ∃ s' t', ((∃ p' b', p ≤ p' ∧ b' < 2 ^ nc ∧ rkC B N false p' s' ∧ rkM B N false p' t' ∧ lp_X0_readTrial_50 (S + 1) 3 kC fC (zn b) (zn n) s = kC (zn b') s' ∧ lp_X9_readTrial_81 64 kM fM w (zn b) t = kM w (zn b') t') ∨ (∃ f pl, f ≠ 0 ∧ f < 100 ∧ flC f pl s' ∧ flM f pl t' ∧ lp_X0_readTrial_50 (S + 1) 3 kC fC (zn b) (zn n) s = some (0, s') ∧ lp_X9_readTrial_81 64 kM fM w (zn b) t = some t')) ∧ zOf gPC s s' ∧ zOf gPM t t' := by
  obtain ⟨⟨-, S1, S2⟩, ⟨-, -, t2, -⟩, ⟨-, n2, -⟩⟩ := hS.c3
  have p8 := pow8 hnc
  intro d
  induction d with
  | zero => intro n b p fC fM s t _ _ _ h; omega
  | succ d ih =>
    intro n b p fC fM s t hn hfC hfM _ hb hpc h0 h h' c0 c2 m0 m2
    obtain ⟨fC, rfl⟩ : ∃ g, fC = g + 1 := ⟨fC - 1, by omega⟩
    obtain ⟨fM, rfl⟩ : ∃ g, fM = g + 1 := ⟨fM - 1, by omega⟩
    have l8 : ¬ (8 : Int32) < zn n := fun x => by have := (zn_lt (a := 8) (by omega) (by omega)).1 x; omega
    have e0 : zn n = 0 ↔ n = 0 := zn_inj (b := 0) (by omega) (by omega)
    have e2 : zI s 3 4 = 2 ↔ tkd B N false p = 2 := h.kd (k := 2) (by omega)
    have z0 : zI t 64 2 = 0 := h'.2.2.2.2.1
    by_cases hk : tkd B N false p = 2
    rotate_left
    · have hn0 : ¬ n = 0 := fun x => hk (h0 x)
      refine ⟨s, t, Or.inl ⟨p, b, Nat.le_refl p, hb, h, h', ?_, ?_⟩, zOf.rf, zOf.rf⟩
      · simp only [lp_X0_readTrial_50, bd_X0_readTrial_50, l8, if_false, e0, hn0, e2, hk]
      · simp only [lp_X9_readTrial_81, bd_X9_readTrial_81, z0, if_true, isName_eq h', zcl_some, hk, if_false]
    have hw := (tkd_w (Or.inl hk) (fun k hk => (h.2.1.2.2 k hk).1) h.1).1
    have l7 : zL s 3 7 = zq (c27 (twd B N p) : Int) := h.2.2.2.2.1.2.2.2.2 hk
    have l9 : zL t 64 9 = zq (c256 (twd B N p) : Int) := h'.2.2.2.1.2.2.2.2 (Or.inl hk)
    have redC : lp_X0_readTrial_50 (S + 1) 3 kC (fC + 1) (zn b) (zn n) s = m_X0_readTrial_68 (S + 1) 3 (fun l2 l3 s => lp_X0_readTrial_50 (S + 1) 3 kC fC l2 l3 s) kC (zn b) (zn n) s := by
      simp only [lp_X0_readTrial_50, bd_X0_readTrial_50, l8, if_false, e2, hk, if_true, ite_self]
    have one0 : ¬ (1 : Int32) = 0 := by decide
    rcases indexOf_eq n2 (show nc ≤ 8 by omega) (by omega) hL c2 hw with ⟨c, j1, j2, j3⟩ | ⟨j1, j2⟩
    rotate_left
    · -- no such cause
      obtain ⟨s1, a1, a2, a3⟩ := refC h 5
      have A1 : m_X3_refuse 3 5 s = some (0, s1) := a1
      obtain ⟨u1, b1, b2, b3⟩ := wrM h' 5
      have B1 : m_X9_wrong 64 5 t = some u1 := b1
      have hp := b2.pos (fc_ne (by omega)) (fc_lt (by omega))
      refine ⟨s1, u1, Or.inr ⟨_, _, fc_ne (by omega), fc_lt (by omega), a2, b2, ?_, ?_⟩, a3, b3⟩
      · rw [redC]
        simp only [m_X0_readTrial_68, e2, hk, if_true, t2, c0, l7, j2, zcl_some, A1, true_or]
      · simp only [lp_X9_readTrial_81, bd_X9_readTrial_81, m_X9_readTrial_134, z0, if_true, isName_eq h', zcl_some, hk, one0, if_false, l9, ca_none hnc m0 hL m2 hw j1, show (-1 : Int32) < 0 by decide, B1, zcv_some, hp]
    have hc31 : c < 32 := by omega
    have sl : (1 : Int32) <<< (zn c &&& 31) = zn (2 ^ c) := zn_shl ⟨c, by omega⟩
    have nb : zn (b.testBit c).toNat = 1 ↔ b.testBit c = true := zn_b1 _
    by_cases hbit : b.testBit c = true
    · have hs1 : ((zn b >>> (zn c &&& 31)) &&& 1 = 1) = True := eq_true (by rw [zn_shr (by omega) hc31, hbit]; rfl)
      obtain ⟨s1, a1, a2, a3⟩ := refC h 3
      have A1 : m_X3_refuse 3 3 s = some (0, s1) := a1
      obtain ⟨u1, b1, b2, b3⟩ := wrM h' 3
      have B1 : m_X9_wrong 64 3 t = some u1 := b1
      have hp := b2.pos (fc_ne (by omega)) (fc_lt (by omega))
      refine ⟨s1, u1, Or.inr ⟨_, _, fc_ne (by omega), fc_lt (by omega), a2, b2, ?_, ?_⟩, a3, b3⟩
      · rw [redC]
        simp only [m_X0_readTrial_68, e2, hk, if_true, t2, c0, l7, j3, zcl_some, zn_ne1 (show c < 2147483648 by omega), if_false, hs1, A1, true_or]
      · simp only [lp_X9_readTrial_81, bd_X9_readTrial_81, m_X9_readTrial_134, z0, if_true, isName_eq h', zcl_some, hk, one0, if_false, l9, ca_some hnc m0 hL m2 hw j1 j2, show ¬ zn c < 0 from zn_neg (by omega), hs1, B1, zcv_some, hp]
    · have hs1 : ((zn b >>> (zn c &&& 31)) &&& 1 = 1) = False := eq_false (by rw [zn_shr (by omega) hc31, nb]; exact hbit)
      have hbf : b.testBit c = false := by cases hh : b.testBit c; rfl; exact absurd hh hbit
      have hb' : b ||| 2 ^ c < 2 ^ nc := or_lt hb j1
      have hpc' : pc (b ||| 2 ^ c) = n + 1 := by rw [pc_or2 (by omega) hbf, hpc]
      have hle : n + 1 ≤ nc := by rw [← hpc']; exact pcn_lt hb' 16
      obtain ⟨s1, a1, a2, a3⟩ := advC h
      obtain ⟨u1, b1, b2, b3⟩ := tokM h' (by omega)
      obtain ⟨s2, u2, d1, d2, d3⟩ := ih (n + 1) (b ||| 2 ^ c) (tnx B N p) fC fM s1 u1 (by omega) (by omega) (by omega) (by omega) hb' hpc' (fun x => by omega) a2 b2 ((a3 (S + 1) 0 (by unfold gPC; omega)).1.trans c0) (fun k hk => (a3 (S + 2) k (by unfold gPC; omega)).2.1.trans (c2 k hk)) ((b3 64 18 (by unfold gPM; omega)).1.trans m0) (fun k hk => (b3 71 k (by unfold gPM; omega)).2.1.trans (m2 k hk))
      have sC : lp_X0_readTrial_50 (S + 1) 3 kC (fC + 1) (zn b) (zn n) s = lp_X0_readTrial_50 (S + 1) 3 kC fC (zn (b ||| 2 ^ c)) (zn (n + 1)) s1 := by
        rw [redC]
        simp only [m_X0_readTrial_68, e2, hk, if_true, t2, c0, l7, j3, zcl_some, zn_ne1 (show c < 2147483648 by omega), if_false, hs1, a1, zcv_some, sl, zn_or, zn_succ]
      have sM : lp_X9_readTrial_81 64 kM (fM + 1) w (zn b) t = lp_X9_readTrial_81 64 kM fM w (zn (b ||| 2 ^ c)) u1 := by
        simp only [lp_X9_readTrial_81, bd_X9_readTrial_81, m_X9_readTrial_134, z0, if_true, isName_eq h', zcl_some, hk, one0, if_false, l9, ca_some hnc m0 hL m2 hw j1 j2, show ¬ zn c < 0 from zn_neg (by omega), hs1, show ¬ (0 : Int32) < 0 by decide, b1, zcv_some, sl, zn_or]
      refine ⟨s2, u2, ?_, a3.tr d2, b3.tr d3⟩
      rcases d1 with ⟨p', b', q1, q2, q3, q4, q5, q6⟩ | ⟨f, pl, q1, q2, q3, q4, q5, q6⟩
      · exact Or.inl ⟨p', b', by have := tnx_bd (B := B) h.1; omega, q2, q3, q4, by rw [sC]; exact q5, by rw [sM]; exact q6⟩
      · exact Or.inr ⟨f, pl, q1, q2, q3, q4, by rw [sC]; exact q5, by rw [sM]; exact q6⟩
