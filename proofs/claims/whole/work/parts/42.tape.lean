/-! two worlds side by side: the class's part of s, the model's part of t -/
def zLo (s s' : zSt) : Prop := ∀ o k, o < 64 → zI s' o k = zI s o k ∧ zL s' o k = zL s o k ∧ zR s' o k = zR s o k
def zHi (t t' : zSt) : Prop := ∀ o k, 64 ≤ o → zI t' o k = zI t o k ∧ zL t' o k = zL t o k ∧ zR t' o k = zR t o k
theorem zCa.rel {α : Type} {R : zSt → zSt → Prop} {WC WM W : Nat → Nat → Prop} {c m : zSt → Option (α × zSt)} {σ : zSt} (hR : R σ σ)
    (hst : ∀ s s' t t', zLo s s' → zHi t t' → R s t → R s' t')
    (hrel : ∀ s t, R s t → ∃ r s' t', c s = some (r, s') ∧ m t = some (r, t') ∧ R s' t' ∧ zOf WC s s' ∧ zOf WM t t')
    (hC : ∀ o k, WC o k → o < 64 ∧ W o k) (hM : ∀ o k, WM o k → 64 ≤ o ∧ W o k) : zCa (fun σ => R σ σ) W c m σ := by
  obtain ⟨r, s1, t1, h1, -, -, h4, -⟩ := hrel σ σ hR
  have a1 : zHi σ s1 := fun o k ho => h4 o k (fun hw => by have := (hC o k hw).1; omega)
  obtain ⟨r2, s2, t2, h5, h6, h7, h8, h9⟩ := hrel σ s1 (hst σ σ σ s1 (fun _ _ _ => ⟨rfl, rfl, rfl⟩) a1 hR)
  rw [h1] at h5
  cases h5
  have a2 : zLo s1 t2 := fun o k ho => h9 o k (fun hw => by have := (hM o k hw).1; omega)
  refine zCa.mk h1 h6 (hst s1 t2 t2 t2 a2 (fun _ _ _ => ⟨rfl, rfl, rfl⟩) h7) ?_
  exact (h4.mono (fun o k hw => (hC o k hw).2)).tr (h9.mono (fun o k hw => (hM o k hw).2))
/-! the tape -/
def gTape (o k : Nat) : Prop := (o = 1 ∧ k = 1) ∨ o = 2 ∨ (o = 64 ∧ k = 1) ∨ o = 65
def gTapeC (o k : Nat) : Prop := (o = 1 ∧ k = 1) ∨ o = 2
def gTapeM (o k : Nat) : Prop := (o = 64 ∧ k = 1) ∨ o = 65
def pByte (c m : Int32) : Prop := ∃ v : Nat, v < 256 ∧ m = zn v ∧ c = if v < 128 then zn v else zn v - 256
def rTape (s t : zSt) : Prop := ∃ n : Nat, n ≤ 800 ∧ zI s 1 1 = zn n ∧ zI t 64 1 = zn n ∧ ∀ k : Nat, k < n → pByte (zI s 2 k) (zI t 65 k)
def iTape (σ : zSt) : Prop := rTape σ σ
theorem rTape.st {s s' t t' : zSt} (h1 : ∀ o k, gTapeC o k → zI s' o k = zI s o k) (h2 : ∀ o k, gTapeM o k → zI t' o k = zI t o k) (h : rTape s t) : rTape s' t' := by
  obtain ⟨n, a, b, c, d⟩ := h
  refine ⟨n, a, (h1 1 1 (Or.inl ⟨rfl, rfl⟩)).trans b, (h2 64 1 (Or.inl ⟨rfl, rfl⟩)).trans c, fun k hk => ?_⟩
  rw [h1 2 k (Or.inr rfl), h2 65 k (Or.inr rfl)]
  exact d k hk
theorem pByte.all : ∀ v : Fin 256, (zn v.val).toInt8.toInt32 = if v.val < 128 then zn v.val else zn v.val - 256 := by decide +kernel
theorem i32_and255 (x : Int32) : ∃ v : Nat, v < 256 ∧ x &&& 255 = zn v ∧ x.toInt8 = (zn v).toInt8 := by
  refine ⟨x.toBitVec.toNat % 256, Nat.mod_lt _ (by decide), ?_, ?_⟩
  · apply Int32.toBitVec_inj.1
    apply BitVec.eq_of_toNat_eq
    have h1 : (x &&& 255).toBitVec = x.toBitVec &&& 255#32 := rfl
    have h2 : (zn (x.toBitVec.toNat % 256)).toBitVec = BitVec.ofNat 32 (x.toBitVec.toNat % 256) := rfl
    rw [h1, h2, BitVec.toNat_and, BitVec.toNat_ofNat, BitVec.toNat_ofNat]
    have h3 : 255 % 2 ^ 32 = 2 ^ 8 - 1 := by decide
    rw [h3, Nat.and_two_pow_sub_one_eq_mod]
    omega
  · apply Int8.toBitVec_inj.1
    apply BitVec.eq_of_toNat_eq
    have h1 : (x.toInt8).toBitVec = x.toBitVec.signExtend 8 := rfl
    have h2 : ((zn (x.toBitVec.toNat % 256)).toInt8).toBitVec = (BitVec.ofNat 32 (x.toBitVec.toNat % 256)).signExtend 8 := rfl
    rw [h1, h2, BitVec.signExtend_eq_setWidth_of_le _ (by decide), BitVec.signExtend_eq_setWidth_of_le _ (by decide), BitVec.toNat_setWidth, BitVec.toNat_setWidth, BitVec.toNat_ofNat]
    omega
theorem pByte.of (x : Int32) : pByte (vp_nar .byte (x.toInt8.toInt32)) (x &&& 255) := by
  obtain ⟨v, h1, h2, h3⟩ := i32_and255 x
  refine ⟨v, h1, h2, ?_⟩
  have h4 : vp_nar .byte (x.toInt8.toInt32) = (x.toInt8.toInt32).toInt8.toInt32 := rfl
  rw [h4, h3]
  have := pByte.all ⟨v, h1⟩
  have h5 : ((zn v).toInt8.toInt32).toInt8 = (zn v).toInt8 := by simp
  rw [h5]
  exact this
theorem ap_end {s : zSt} {v l2 : Int32} (f : Nat) (h : l2 < 0) : lp_X7_append_3 1 v (f + 1) l2 s = some s := by
  simp [lp_X7_append_3, bd_X7_append_3, h]
theorem fo_end {s : zSt} {v l2 : Int32} (f : Nat) (h : l2 < 0) : lp_X9_four_3 64 v (f + 1) l2 s = some s := by
  simp [lp_X9_four_3, bd_X9_four_3, h]
theorem ap_step {s t : zSt} {v l2 : Int32} (f : Nat) (h : ¬ l2 < 0) {n : Nat} (hn : n < 800) (hs : zI s 1 1 = zn n) (ht : zI t 64 1 = zn n) (hk : ∀ k : Nat, k < n → pByte (zI s 2 k) (zI t 65 k)) :
    ∃ s' t', lp_X7_append_3 1 v (f + 1) l2 s = lp_X7_append_3 1 v f (l2 + -8) s' ∧ lp_X9_four_3 64 v (f + 1) l2 t = lp_X9_four_3 64 v f (l2 + -8) t' ∧ (zI s' 1 1 = zn (n + 1) ∧ zI t' 64 1 = zn (n + 1) ∧ ∀ k : Nat, k < n + 1 → pByte (zI s' 2 k) (zI t' 65 k)) ∧ zOf gTapeC s s' ∧ zOf gTapeM t t' := by
  have cl : (zn n).toNatClampNeg = n := zn_cl (by omega)
  have ng : ¬ zn n < 0 := zn_neg (by omega)
  have l8 : zn n < 800 := (zn_lt (b := 800) (by omega) (by omega)).2 hn
  have h8 : ¬ 800 ≤ n := by omega
  refine ⟨zsI (zsI s 2 n (vp_nar .byte ((v >>> (l2 &&& 31)).toInt8.toInt32))) 1 1 (zn (n + 1)), zsI (zsI t 65 n ((v >>> (l2 &&& 31)) &&& 255)) 64 1 (zn (n + 1)), ?_, ?_, ⟨by simp [zI_sI, zI_sL, zI_sR, zL_sI, zL_sL, zL_sR, zR_sI, zR_sL, zR_sR], by simp [zI_sI, zI_sL, zI_sR, zL_sI, zL_sL, zL_sR, zR_sI, zR_sL, zR_sR], fun k hk1 => ?_⟩, ?_, ?_⟩
  · simp only [lp_X7_append_3, bd_X7_append_3, h, if_false, hs, l8, if_true, ng, cl, zT_1_0, zN_2, h8, or_self, zlt_eq, zI_sI, zI_sL, zI_sR, zL_sI, zL_sL, zL_sR, zR_sI, zR_sL, zR_sR]
    simp [hs, zn_succ]
  · simp only [lp_X9_four_3, bd_X9_four_3, h, if_false, ht, ng, cl, zT_64_0, zN_65, h8, or_self, zlt_eq, zI_sI, zI_sL, zI_sR, zL_sI, zL_sL, zL_sR, zR_sI, zR_sL, zR_sR]
    simp [ht, zn_succ]
  · simp only [zI_sI, zI_sL, zI_sR, zL_sI, zL_sL, zL_sR, zR_sI, zR_sL, zR_sR]
    by_cases hkn : k = n
    · subst hkn
      simp only [show ¬ (2 : Nat) = 1 by decide, show ¬ (65 : Nat) = 64 by decide, false_and, if_false, and_self, if_true]
      exact pByte.of _
    · simpa [hkn] using hk k (by omega)
  · refine ((zOf.rf.sI ?_).sI ?_) <;> simp [gTapeC]
  · refine ((zOf.rf.sI ?_).sI ?_) <;> simp [gTapeM]
theorem ap_four {s t : zSt} (v : Int32) {n : Nat} (hn : n + 4 ≤ 800) (hs : zI s 1 1 = zn n) (ht : zI t 64 1 = zn n) (hk : ∀ k : Nat, k < n → pByte (zI s 2 k) (zI t 65 k)) :
    ∃ s' t', m_X7_append 1 v s = some s' ∧ m_X9_four 64 v t = some t' ∧ (zI s' 1 1 = zn (n + 4) ∧ zI t' 64 1 = zn (n + 4) ∧ ∀ k : Nat, k < n + 4 → pByte (zI s' 2 k) (zI t' 65 k)) ∧ zOf gTapeC s s' ∧ zOf gTapeM t t' := by
  have hf : zFuel = 999995 + 1 + 1 + 1 + 1 + 1 := rfl
  unfold m_X7_append m_X9_four
  rw [hf]
  obtain ⟨s1, t1, a1, b1, ⟨c1, d1, e1⟩, f1, g1⟩ := ap_step (v := v) (l2 := 24) (999995 + 1 + 1 + 1 + 1) (by decide) (by omega) hs ht hk
  obtain ⟨s2, t2, a2, b2, ⟨c2, d2, e2⟩, f2, g2⟩ := ap_step (v := v) (l2 := 24 + -8) (999995 + 1 + 1 + 1) (by decide) (by omega) c1 d1 e1
  obtain ⟨s3, t3, a3, b3, ⟨c3, d3, e3⟩, f3, g3⟩ := ap_step (v := v) (l2 := 24 + -8 + -8) (999995 + 1 + 1) (by decide) (by omega) c2 d2 e2
  obtain ⟨s4, t4, a4, b4, ⟨c4, d4, e4⟩, f4, g4⟩ := ap_step (v := v) (l2 := 24 + -8 + -8 + -8) (999995 + 1) (by decide) (by omega) c3 d3 e3
  refine ⟨s4, t4, ?_, ?_, ⟨c4, d4, e4⟩, ((f1.tr f2).tr f3).tr f4, ((g1.tr g2).tr g3).tr g4⟩
  · rw [a1, a2, a3, a4, ap_end 999995 (by decide)]
  · rw [b1, b2, b3, b4, fo_end 999995 (by decide)]
theorem call_feed {σ : zSt} (h : iTape σ) (p1 p2 p3 p4 p5 : Int32) : zCa iTape gTape (m_X8_feed 0 p1 p2 p3 p4 p5) (m_X9_feed 64 p1 p2 p3 p4 p5) σ := by
  refine zCa.rel (R := rTape) (WC := gTapeC) (WM := gTapeM) h (fun s s' t t' a b => rTape.st (fun o k hg => (a o k (by unfold gTapeC at hg; omega)).1) (fun o k hg => (b o k (by unfold gTapeM at hg; omega)).1)) ?_ (by unfold gTapeC gTape; omega) (by unfold gTapeM gTape; omega)
  rintro s t ⟨n, hn, hs, ht, hk⟩
  have h20 : (800 : Int32) < zn n + 20 ↔ 800 < n + 20 := by
    rw [show (20 : Int32) = zn 20 from rfl, zn_add]
    exact zn_lt (a := 800) (by omega) (by omega)
  by_cases g : 800 < n + 20
  · refine ⟨-1, s, t, ?_, ?_, ⟨n, hn, hs, ht, hk⟩, zOf.rf, zOf.rf⟩
    · simp [m_X8_feed, zT_0_0, hs, h20.2 g]
    · simp [m_X9_feed, ht, h20.2 g]
  · have g' : ¬ (800 : Int32) < zn n + 20 := fun hc => g (h20.1 hc)
    obtain ⟨s1, t1, a1, b1, ⟨c1, d1, e1⟩, f1, g1⟩ := ap_four p1 (by omega) hs ht hk
    obtain ⟨s2, t2, a2, b2, ⟨c2, d2, e2⟩, f2, g2⟩ := ap_four p2 (by omega) c1 d1 e1
    obtain ⟨s3, t3, a3, b3, ⟨c3, d3, e3⟩, f3, g3⟩ := ap_four p3 (by omega) c2 d2 e2
    obtain ⟨s4, t4, a4, b4, ⟨c4, d4, e4⟩, f4, g4⟩ := ap_four p4 (by omega) c3 d3 e3
    obtain ⟨s5, t5, a5, b5, ⟨c5, d5, e5⟩, f5, g5⟩ := ap_four p5 (by omega) c4 d4 e4
    refine ⟨zn (n + 4 + 4 + 4 + 4 + 4), s5, t5, ?_, ?_, ⟨n + 4 + 4 + 4 + 4 + 4, by omega, c5, d5, e5⟩, (((f1.tr f2).tr f3).tr f4).tr f5, (((g1.tr g2).tr g3).tr g4).tr g5⟩
    · simp only [m_X8_feed, zT_0_0, hs, g', if_false, a1, a2, a3, a4, a5, zcv_some, c5]
    · simp only [m_X9_feed, ht, g', if_false, b1, b2, b3, b4, b5, zcv_some, d5]
theorem call_end {σ : zSt} (h : iTape σ) (p1 : Int32) : zCa iTape gTape (m_X8_end 0 p1) (m_X9_end 64 p1) σ := by
  refine zCa.rel (R := rTape) (WC := gTapeC) (WM := gTapeM) h (fun s s' t t' a b => rTape.st (fun o k hg => (a o k (by unfold gTapeC at hg; omega)).1) (fun o k hg => (b o k (by unfold gTapeM at hg; omega)).1)) ?_ (by unfold gTapeC gTape; omega) (by unfold gTapeM gTape; omega)
  rintro s t ⟨n, hn, hs, ht, hk⟩
  by_cases q : p1 < 0
  · exact ⟨-1, s, t, by simp [m_X8_end, q], by simp [m_X9_end, q], ⟨n, hn, hs, ht, hk⟩, zOf.rf, zOf.rf⟩
  by_cases q2 : zn n < p1
  · exact ⟨-1, s, t, by simp [m_X8_end, q, q2, hs, zT_0_0], by simp [m_X9_end, q, q2, ht], ⟨n, hn, hs, ht, hk⟩, zOf.rf, zOf.rf⟩
  obtain ⟨j, hj, rfl⟩ := zn_of q
  have hjn : j ≤ n := by
    rcases Nat.lt_or_ge n j with hc | hc
    · exact absurd ((zn_lt (by omega) hj).2 hc) q2
    · exact hc
  refine ⟨zn j, zsI s 1 1 (zn j), zsI t 64 1 (zn j), by simp [m_X8_end, q, q2, hs, zT_0_0, zlt_eq], by simp [m_X9_end, q, q2, ht, zlt_eq], ⟨j, by omega, by simp [zI_sI, zI_sL, zI_sR, zL_sI, zL_sL, zL_sR, zR_sI, zR_sL, zR_sR], by simp [zI_sI, zI_sL, zI_sR, zL_sI, zL_sL, zL_sR, zR_sI, zR_sL, zR_sR], fun k hk1 => ?_⟩, zOf.rf.sI (by simp [gTapeC]), zOf.rf.sI (by simp [gTapeM])⟩
  simpa [zI_sI, zI_sL, zI_sR, zL_sI, zL_sL, zL_sR, zR_sI, zR_sL, zR_sR] using hk k (by omega)
