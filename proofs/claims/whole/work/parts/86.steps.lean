/-! reading, a step at a time -/
def rkC (B : Nat → Nat) (N : Nat) (sm : Bool) (p : Nat) (s : zSt) : Prop := p ≤ N ∧ tpC B N s ∧ kwC s ∧ zI s 3 2 = zn sm.toNat ∧ tkC B N sm p s ∧ zI s 3 10 = 0 ∧ zI s 3 11 = -1
def rkM (B : Nat → Nat) (N : Nat) (sm : Bool) (p : Nat) (t : zSt) : Prop := p ≤ N ∧ tpM B N t ∧ zI t 64 10 = zn sm.toNat ∧ tkM B N sm p t ∧ zI t 64 2 = 0 ∧ zI t 64 3 = -1
def gRdC (o k : Nat) : Prop := (o = 1 ∧ k = 1) ∨ o = 2 ∨ o = 4 ∨ (o = 3 ∧ k ≠ 8 ∧ k ≠ 9)
def gRdM (o k : Nat) : Prop := o = 65 ∨ (o = 64 ∧ 2 ≤ k ∧ k ≤ 10)
theorem rkC.of {B : Nat → Nat} {N : Nat} {sm : Bool} {p : Nat} {s s' : zSt} (h : rkC B N sm p s) {W : Nat → Nat → Prop} (e : zOf W s s') (hW : ∀ o k, W o k → ¬ gRdC o k) : rkC B N sm p s' := by
  obtain ⟨h0, h1, h2, h3, ⟨h4, h5, h6, h7, h8⟩, h9, h10⟩ := h
  have f : ∀ o k, gRdC o k → zI s' o k = zI s o k ∧ zL s' o k = zL s o k := fun o k hg => ⟨(e o k (fun hw => hW o k hw hg)).1, (e o k (fun hw => hW o k hw hg)).2.1⟩
  refine ⟨h0, ⟨h1.1, (f 1 1 (by unfold gRdC; omega)).1.trans h1.2.1, fun k hk => ⟨(h1.2.2 k hk).1, (f 2 k (by unfold gRdC; omega)).1.trans (h1.2.2 k hk).2⟩⟩, fun i hi => (f 4 i (by unfold gRdC; omega)).2.trans (h2 i hi), (f 3 2 (by unfold gRdC; omega)).1.trans h3, ⟨(f 3 4 (by unfold gRdC; omega)).1.trans h4, (f 3 5 (by unfold gRdC; omega)).1.trans h5, (f 3 3 (by unfold gRdC; omega)).1.trans h6, fun x => (f 3 6 (by unfold gRdC; omega)).1.trans (h7 x), fun x => (f 3 7 (by unfold gRdC; omega)).2.trans (h8 x)⟩, (f 3 10 (by unfold gRdC; omega)).1.trans h9, (f 3 11 (by unfold gRdC; omega)).1.trans h10⟩
theorem rkM.of {B : Nat → Nat} {N : Nat} {sm : Bool} {p : Nat} {t t' : zSt} (h : rkM B N sm p t) {W : Nat → Nat → Prop} (e : zOf W t t') (hW : ∀ o k, W o k → ¬ gRdM o k) : rkM B N sm p t' := by
  obtain ⟨h0, h1, h3, ⟨h4, h5, h6, h7, h8⟩, h9, h10⟩ := h
  have f : ∀ o k, gRdM o k → zI t' o k = zI t o k ∧ zL t' o k = zL t o k := fun o k hg => ⟨(e o k (fun hw => hW o k hw hg)).1, (e o k (fun hw => hW o k hw hg)).2.1⟩
  refine ⟨h0, ⟨h1.1, (f 64 5 (by unfold gRdM; omega)).1.trans h1.2.1, fun k hk => ⟨(h1.2.2 k hk).1, (f 65 k (by unfold gRdM; omega)).1.trans (h1.2.2 k hk).2⟩⟩, (f 64 10 (by unfold gRdM; omega)).1.trans h3, ⟨(f 64 6 (by unfold gRdM; omega)).1.trans h4, (f 64 7 (by unfold gRdM; omega)).1.trans h5, fun x => (f 64 4 (by unfold gRdM; omega)).1.trans (h6 x), fun x => (f 64 8 (by unfold gRdM; omega)).1.trans (h7 x), fun x => (f 64 9 (by unfold gRdM; omega)).2.trans (h8 x)⟩, (f 64 2 (by unfold gRdM; omega)).1.trans h9, (f 64 3 (by unfold gRdM; omega)).1.trans h10⟩
theorem rkC.lt {B : Nat → Nat} {N : Nat} {sm : Bool} {p : Nat} {s : zSt} (h : rkC B N sm p s) : tkd B N sm p < 276 := tkd_lt (fun k hk => (h.2.1.2.2 k hk).1)
theorem rkM.lt {B : Nat → Nat} {N : Nat} {sm : Bool} {p : Nat} {t : zSt} (h : rkM B N sm p t) : tkd B N sm p < 276 := tkd_lt (fun k hk => (h.2.1.2.2 k hk).1)
theorem rkC.kd {B : Nat → Nat} {N : Nat} {sm : Bool} {p : Nat} {s : zSt} (h : rkC B N sm p s) {k : Nat} (hk : k < 2147483648) : zI s 3 4 = zn k ↔ tkd B N sm p = k := by
  rw [h.2.2.2.2.1.1]
  exact zn_inj (by have := h.lt; omega) hk
theorem msr_lt {k : Nat} (h : k < 276) : msr k < 276 := by unfold msr; split; omega; split; omega; split; omega; split <;> omega
theorem rkM.so {B : Nat → Nat} {N : Nat} {sm : Bool} {p : Nat} {t : zSt} (h : rkM B N sm p t) {k : Nat} (hk : k < 2147483648) : zI t 64 6 = zn k ↔ msr (tkd B N sm p) = k := by
  rw [h.2.2.2.1.1]
  exact zn_inj (by have := msr_lt h.lt; omega) hk
theorem msr_3 (k : Nat) : msr k = 3 ↔ k = 1 := by unfold msr; split; omega; split; omega; split; omega; split <;> omega
theorem msr_1 (k : Nat) : msr k = 1 ↔ (k = 2 ∨ 256 ≤ k) := by unfold msr; split; omega; split; omega; split; omega; split <;> omega
theorem msr_2 (k : Nat) : msr k = 2 ↔ k = 3 := by unfold msr; split; omega; split; omega; split; omega; split <;> omega
theorem msr_0 (k : Nat) : msr k = 0 ↔ k = 0 := by unfold msr; split; omega; split; omega; split; omega; split <;> omega
theorem msr_s {k c : Nat} (h1 : 4 ≤ c) (h2 : c < 256) : msr k = c ↔ k = c := by unfold msr; split; omega; split; omega; split; omega; split <;> omega
def fc (k c : Nat) : Nat := if k = 1 then 1 else c
def flC (f pl : Nat) (s : zSt) : Prop := zI s 3 10 = zn f ∧ zI s 3 11 = zn pl
def flM (f pl : Nat) (t : zSt) : Prop := zI t 64 2 = zn f ∧ zI t 64 3 = zn pl
def gFlC (o k : Nat) : Prop := o = 3 ∧ (k = 10 ∨ k = 11)
def gFlM (o k : Nat) : Prop := o = 64 ∧ (k = 2 ∨ k = 3)
def gPC (o k : Nat) : Prop := o = 3 ∧ 3 ≤ k ∧ k ≤ 11
def gPM (o k : Nat) : Prop := o = 64 ∧ 2 ≤ k ∧ k ≤ 9
theorem gFlC_P {o k : Nat} (h : gFlC o k) : gPC o k := by unfold gFlC at h; unfold gPC; omega
theorem gAdv_P {o k : Nat} (h : gAdv o k) : gPC o k := by unfold gAdv at h; unfold gPC; omega
theorem gFlM_P {o k : Nat} (h : gFlM o k) : gPM o k := by unfold gFlM at h; unfold gPM; omega
theorem gTok_P {o k : Nat} (h : gTok o k) : gPM o k := by unfold gTok at h; unfold gPM; omega
theorem advC {B : Nat → Nat} {N : Nat} {sm : Bool} {p : Nat} {s : zSt} (h : rkC B N sm p s) : ∃ s', m_X3_advance 3 s = some s' ∧ rkC B N sm (tnx B N p) s' ∧ zOf gPC s s' := by
  have hh := h
  obtain ⟨h0, h1, h2, h3, h4, h9, h10⟩ := h
  have hb := tnx_bd (B := B) h0
  obtain ⟨s', a1, a2, a3⟩ := advance_eq h1 h2 h3 hb.2.1 h4.2.2.1
  refine ⟨s', a1, ⟨hb.2.1, h1.of (fun o k ho => (a3 o k (by unfold gAdv; omega)).1), fun i hi => (a3 4 i (by unfold gAdv; omega)).2.1.trans (h2 i hi), (a3 3 2 (by unfold gAdv; omega)).1.trans h3, a2, (a3 3 10 (by unfold gAdv; omega)).1.trans h9, (a3 3 11 (by unfold gAdv; omega)).1.trans h10⟩, a3.mono (fun o k => gAdv_P)⟩
theorem tokM {B : Nat → Nat} {N : Nat} {sm : Bool} {p : Nat} {t : zSt} (h : rkM B N sm p t) (hk : tkd B N sm p ≠ 1) : ∃ t', m_X9_token 64 t = some t' ∧ rkM B N sm (tnx B N p) t' ∧ zOf gPM t t' := by
  obtain ⟨h0, h1, h3, h4, h9, h10⟩ := h
  have hb := tnx_bd (B := B) h0
  obtain ⟨t', a1, a2, a3⟩ := token_eq h1 h3 hb.2.1 (h4.2.2.1 hk)
  refine ⟨t', a1, ⟨hb.2.1, h1.of (a3 64 5 (by unfold gTok; omega)).1 (fun k => (a3 65 k (by unfold gTok; omega)).1), (a3 64 10 (by unfold gTok; omega)).1.trans h3, a2, (a3 64 2 (by unfold gTok; omega)).1.trans h9, (a3 64 3 (by unfold gTok; omega)).1.trans h10⟩, a3.mono (fun o k => gTok_P)⟩
theorem refAtC {B : Nat → Nat} {N : Nat} {sm : Bool} {p : Nat} {s : zSt} (h : rkC B N sm p s) (c w : Nat) : ∃ s', m_X3_refuseAt 3 (zn c) (zn w) s = some (0, s') ∧ flC (fc (tkd B N sm p) c) w s' ∧ zOf gPC s s' := by
  have hk : zI s 3 4 = 1 ↔ tkd B N sm p = 1 := h.kd (k := 1) (by omega)
  have go : ∀ x : Int32, x = zn (fc (tkd B N sm p) c) → ∃ s', some ((0 : Int32), zsI (zsI s 3 10 x) 3 11 (zn w)) = some (0, s') ∧ flC (fc (tkd B N sm p) c) w s' ∧ zOf gPC s s' := fun x hx => ⟨_, rfl, ⟨by rw [zI_sI, if_neg (by omega), zI_sI, if_pos ⟨rfl, rfl⟩, hx], by rw [zI_sI, if_pos ⟨rfl, rfl⟩]⟩, (zOf.rf.sI (by unfold gPC; omega)).sI (by unfold gPC; omega)⟩
  simp only [m_X3_refuseAt, m_X3_refuseAt_14, hk, zlt_eq]
  by_cases h1 : tkd B N sm p = 1
  · rw [if_pos h1]; exact go 1 (by unfold fc; rw [if_pos h1]; rfl)
  · rw [if_neg h1]; exact go _ (by unfold fc; rw [if_neg h1])
theorem refC {B : Nat → Nat} {N : Nat} {sm : Bool} {p : Nat} {s : zSt} (h : rkC B N sm p s) (c : Nat) : ∃ s', m_X3_refuse 3 (zn c) s = some (0, s') ∧ flC (fc (tkd B N sm p) c) (tpl B N p) s' ∧ zOf gPC s s' := by
  obtain ⟨s', a1, a2, a3⟩ := refAtC h c (tpl B N p)
  refine ⟨s', ?_, a2, a3⟩
  simp only [m_X3_refuse, h.2.2.2.2.1.2.1, a1, zcl_some, true_or, if_true]
theorem wrM {B : Nat → Nat} {N : Nat} {sm : Bool} {p : Nat} {t : zSt} (h : rkM B N sm p t) (c : Nat) : ∃ t', m_X9_wrong 64 (zn c) t = some t' ∧ flM (fc (tkd B N sm p) c) (tpl B N p) t' ∧ zOf gPM t t' := by
  have hk : zI t 64 6 = 3 ↔ tkd B N sm p = 1 := (h.so (k := 3) (by omega)).trans (msr_3 _)
  have hf : ¬ 0 < zI t 64 2 := by rw [h.2.2.2.2.1]; decide
  have h7 : ∀ x, zI (zsI t 64 2 x) 64 7 = zn (tpl B N p) := fun x => by rw [zI_sI, if_neg (by omega)]; exact h.2.2.2.1.2.1
  have go : ∀ x : Int32, x = zn (fc (tkd B N sm p) c) → ∃ t', some (zsI (zsI t 64 2 x) 64 3 (zn (tpl B N p))) = some t' ∧ flM (fc (tkd B N sm p) c) (tpl B N p) t' ∧ zOf gPM t t' := fun x hx => ⟨_, rfl, ⟨by rw [zI_sI, if_neg (by omega), zI_sI, if_pos ⟨rfl, rfl⟩, hx], by rw [zI_sI, if_pos ⟨rfl, rfl⟩]⟩, (zOf.rf.sI (by unfold gPM; omega)).sI (by unfold gPM; omega)⟩
  simp only [m_X9_wrong, m_X9_wrong_22, hf, if_false, hk, zlt_eq, h7]
  by_cases h1 : tkd B N sm p = 1
  · rw [if_pos h1]; exact go 1 (by unfold fc; rw [if_pos h1]; rfl)
  · rw [if_neg h1]; exact go _ (by unfold fc; rw [if_neg h1])
theorem takeC {B : Nat → Nat} {N : Nat} {sm : Bool} {p : Nat} {s : zSt} (h : rkC B N sm p s) {k : Nat} (hk : k < 276) : ∃ s', m_X3_take 3 (zn k) s = some (if tkd B N sm p = k then 1 else 0, s') ∧ (tkd B N sm p = k → rkC B N sm (tnx B N p) s') ∧ (tkd B N sm p ≠ k → flC (fc (tkd B N sm p) 2) (tpl B N p) s') ∧ zOf gPC s s' := by
  have e := h.kd (k := k) (by omega)
  by_cases hc : tkd B N sm p = k
  · obtain ⟨s', a1, a2, a3⟩ := advC h
    refine ⟨s', ?_, fun _ => a2, fun x => absurd hc x, a3⟩
    simp only [m_X3_take, e, hc, if_true, a1, zcv_some]
  · obtain ⟨s', a1, a2, a3⟩ := refC h 2
    refine ⟨s', ?_, fun x => absurd x hc, fun _ => a2, a3⟩
    simp only [m_X3_take, e, hc, if_false, show (2 : Int32) = zn 2 from rfl, a1, zcl_some, true_or, if_true]
theorem takeNameC {B : Nat → Nat} {N : Nat} {sm : Bool} {p : Nat} {s : zSt} (h : rkC B N sm p s) : ∃ s', m_X3_takeName 3 s = some (if tkd B N sm p = 2 then 1 else 0, s') ∧ (tkd B N sm p = 2 → rkC B N sm (tnx B N p) s' ∧ zL s' 3 9 = zq (c27 (twd B N p) : Int)) ∧ (tkd B N sm p ≠ 2 → flC (fc (tkd B N sm p) 2) (tpl B N p) s') ∧ zOf gPC s s' := by
  have e : zI s 3 4 = 2 ↔ tkd B N sm p = 2 := h.kd (k := 2) (by omega)
  by_cases hc : tkd B N sm p = 2
  · have e1 : zOf (fun o k => o = 3 ∧ k = 9) s (zsL s 3 9 (zL s 3 7)) := zOf.rf.sL ⟨rfl, rfl⟩
    obtain ⟨s', a1, a2, a3⟩ := advC (h.of e1 (fun o k hw => by unfold gRdC; omega))
    refine ⟨s', ?_, fun _ => ⟨a2, ?_⟩, fun x => absurd hc x, (e1.mono (fun o k hw => by unfold gPC; omega)).tr a3⟩
    · simp only [m_X3_takeName, e, hc, if_true, zlt_eq, a1, zcv_some]
    · obtain ⟨s2, b1, b2, b3⟩ := advance_eq (h.of e1 (fun o k hw => by unfold gRdC; omega)).2.1 (h.of e1 (fun o k hw => by unfold gRdC; omega)).2.2.1 (h.of e1 (fun o k hw => by unfold gRdC; omega)).2.2.2.1 (tnx_bd (B := B) h.1).2.1 (h.of e1 (fun o k hw => by unfold gRdC; omega)).2.2.2.2.1.2.2.1
      rw [a1] at b1
      cases b1
      rw [(b3 3 9 (by unfold gAdv; omega)).2.1, zL_sL, if_pos ⟨rfl, rfl⟩]
      exact h.2.2.2.2.1.2.2.2.2 hc
  · obtain ⟨s', a1, a2, a3⟩ := refC h 2
    have a1' : m_X3_refuse 3 2 s = some (0, s') := a1
    refine ⟨s', ?_, fun x => absurd x hc, fun _ => a2, a3⟩
    simp only [m_X3_takeName, e, hc, if_false, a1', zcl_some, true_or, if_true]
theorem isWord_eq {B : Nat → Nat} {N : Nat} {sm : Bool} {p : Nat} {t : zSt} (h : rkM B N sm p t) {i : Nat} (hi : i < 20) : m_X9_isWord 64 (zq (c256 (kw i) : Int)) t = some (if tkd B N sm p = 256 + i then 1 else 0, t) := by
  have e : zI t 64 6 = 1 ↔ (tkd B N sm p = 2 ∨ 256 ≤ tkd B N sm p) := (h.so (k := 1) (by omega)).trans (msr_1 _)
  simp only [m_X9_isWord, e]
  by_cases hc : tkd B N sm p = 2 ∨ 256 ≤ tkd B N sm p
  · obtain ⟨o1, o2, -⟩ := tkd_w hc (fun k hk => (h.2.1.2.2 k hk).1) h.1
    rw [if_pos hc, h.2.2.2.1.2.2.2.2 hc]
    simp only [nm256 o1 (kw_okW hi)]
    have := kwF_eq (w := twd B N p) hi
    rw [← o2] at this
    by_cases hx : tkd B N sm p = 256 + i
    · rw [if_pos (this.1 hx).symm, if_pos hx]
    · rw [if_neg (fun y => hx (this.2 y.symm)), if_neg hx]
  · rw [if_neg hc, if_neg (by omega)]
theorem isName_eq {B : Nat → Nat} {N : Nat} {sm : Bool} {p : Nat} {t : zSt} (h : rkM B N sm p t) : m_X9_isName 64 t = some (if tkd B N sm p = 2 then 1 else 0, t) := by
  have e : zI t 64 6 = 1 ↔ (tkd B N sm p = 2 ∨ 256 ≤ tkd B N sm p) := (h.so (k := 1) (by omega)).trans (msr_1 _)
  simp only [m_X9_isName, m_X9_isName_164, m_X9_isName_169, e]
  by_cases hc : tkd B N sm p = 2 ∨ 256 ≤ tkd B N sm p
  · obtain ⟨o1, o2, -⟩ := tkd_w hc (fun k hk => (h.2.1.2.2 k hk).1) h.1
    rw [if_pos hc, h.2.2.2.1.2.2.2.2 hc]
    have q : ∀ i, i < 20 → (zq (c256 (twd B N p) : Int) = zq (c256 (kw i) : Int) ↔ tkd B N sm p = 256 + i) := fun i hi => by
      rw [nm256 o1 (kw_okW hi), o2, kwF_eq hi]
      exact ⟨fun x => x.symm, fun x => x.symm⟩
    have hlt := h.lt
    have q0 : (zq (c256 (twd B N p) : Int) = 1650551916) ↔ tkd B N sm p = 256 + 0 := q 0 (by omega)
    have q1 : (zq (c256 (twd B N p) : Int) = 1852137842) ↔ tkd B N sm p = 256 + 1 := q 1 (by omega)
    have q2 : (zq (c256 (twd B N p) : Int) = 6709618) ↔ tkd B N sm p = 256 + 2 := q 2 (by omega)
    have q3 : (zq (c256 (twd B N p) : Int) = 7499620) ↔ tkd B N sm p = 256 + 3 := q 3 (by omega)
    have q4 : (zq (c256 (twd B N p) : Int) = 2003399269) ↔ tkd B N sm p = 256 + 4 := q 4 (by omega)
    have q5 : (zq (c256 (twd B N p) : Int) = 1684106608) ↔ tkd B N sm p = 256 + 5 := q 5 (by omega)
    have q6 : (zq (c256 (twd B N p) : Int) = 491327153267) ↔ tkd B N sm p = 256 + 6 := q 6 (by omega)
    have q7 : (zq (c256 (twd B N p) : Int) = 2053468783) ↔ tkd B N sm p = 256 + 7 := q 7 (by omega)
    have q8 : (zq (c256 (twd B N p) : Int) = 427121010032) ↔ tkd B N sm p = 256 + 8 := q 8 (by omega)
    have q9 : (zq (c256 (twd B N p) : Int) = 2002874989) ↔ tkd B N sm p = 256 + 9 := q 9 (by omega)
    have q10 : (zq (c256 (twd B N p) : Int) = 1769107310) ↔ tkd B N sm p = 256 + 10 := q 10 (by omega)
    have q11 : (zq (c256 (twd B N p) : Int) = 426836849509) ↔ tkd B N sm p = 256 + 11 := q 11 (by omega)
    have q12 : (zq (c256 (twd B N p) : Int) = 500135715180) ↔ tkd B N sm p = 256 + 12 := q 12 (by omega)
    have q13 : (zq (c256 (twd B N p) : Int) = 495673374579) ↔ tkd B N sm p = 256 + 13 := q 13 (by omega)
    have q14 : (zq (c256 (twd B N p) : Int) = 448546567013) ↔ tkd B N sm p = 256 + 14 := q 14 (by omega)
    have q15 : (zq (c256 (twd B N p) : Int) = 1935767923) ↔ tkd B N sm p = 256 + 15 := q 15 (by omega)
    have q16 : (zq (c256 (twd B N p) : Int) = 1936744814) ↔ tkd B N sm p = 256 + 16 := q 16 (by omega)
    have q17 : (zq (c256 (twd B N p) : Int) = 109287261888882) ↔ tkd B N sm p = 256 + 17 := q 17 (by omega)
    have q18 : (zq (c256 (twd B N p) : Int) = 26995) ↔ tkd B N sm p = 256 + 18 := q 18 (by omega)
    have q19 : (zq (c256 (twd B N p) : Int) = 123636697429107) ↔ tkd B N sm p = 256 + 19 := q 19 (by omega)
    simp only [q0, q1, q2, q3, q4, q5, q6, q7, q8, q9, q10, q11, q12, q13, q14, q15, q16, q17, q18, q19, if_true, show ¬ (1 : Int32) = 0 by decide, if_false]
    generalize tkd B N sm p = k at *
    by_cases h2 : k = 2
    · rw [if_pos h2]
      rw [if_neg (by omega), if_neg (by omega), if_neg (by omega), if_neg (by omega), if_neg (by omega), if_neg (by omega), if_neg (by omega), if_neg (by omega), if_neg (by omega), if_neg (by omega), if_neg (by omega), if_neg (by omega), if_neg (by omega), if_neg (by omega), if_neg (by omega), if_neg (by omega), if_neg (by omega), if_neg (by omega), if_neg (by omega), if_neg (by omega)]
    · rw [if_neg h2]
      by_cases y0 : k = 256 + 0
      · rw [if_pos y0]
      rw [if_neg y0]
      by_cases y1 : k = 256 + 1
      · rw [if_pos y1]
      rw [if_neg y1]
      by_cases y2 : k = 256 + 2
      · rw [if_pos y2]
      rw [if_neg y2]
      by_cases y3 : k = 256 + 3
      · rw [if_pos y3]
      rw [if_neg y3]
      by_cases y4 : k = 256 + 4
      · rw [if_pos y4]
      rw [if_neg y4]
      by_cases y5 : k = 256 + 5
      · rw [if_pos y5]
      rw [if_neg y5]
      by_cases y6 : k = 256 + 6
      · rw [if_pos y6]
      rw [if_neg y6]
      by_cases y7 : k = 256 + 7
      · rw [if_pos y7]
      rw [if_neg y7]
      by_cases y8 : k = 256 + 8
      · rw [if_pos y8]
      rw [if_neg y8]
      by_cases y9 : k = 256 + 9
      · rw [if_pos y9]
      rw [if_neg y9]
      by_cases y10 : k = 256 + 10
      · rw [if_pos y10]
      rw [if_neg y10]
      by_cases y11 : k = 256 + 11
      · rw [if_pos y11]
      rw [if_neg y11]
      by_cases y12 : k = 256 + 12
      · rw [if_pos y12]
      rw [if_neg y12]
      by_cases y13 : k = 256 + 13
      · rw [if_pos y13]
      rw [if_neg y13]
      by_cases y14 : k = 256 + 14
      · rw [if_pos y14]
      rw [if_neg y14]
      by_cases y15 : k = 256 + 15
      · rw [if_pos y15]
      rw [if_neg y15]
      by_cases y16 : k = 256 + 16
      · rw [if_pos y16]
      rw [if_neg y16]
      by_cases y17 : k = 256 + 17
      · rw [if_pos y17]
      rw [if_neg y17]
      by_cases y18 : k = 256 + 18
      · rw [if_pos y18]
      rw [if_neg y18]
      rw [if_pos (by omega)]
  · rw [if_neg hc, if_neg (by omega)]
