theorem advC' {B : Nat → Nat} {N : Nat} {sm : Bool} {p : Nat} {s : zSt} (h : rkC B N sm p s) : ∃ s', m_X3_advance 3 s = some s' ∧ rkC B N sm (tnx B N p) s' ∧ zOf gAdv s s' := by
  have hh := h
  obtain ⟨h0, h1, h2, h3, h4, h9, h10⟩ := h
  have hb := tnx_bd (B := B) h0
  obtain ⟨s', a1, a2, a3⟩ := advance_eq h1 h2 h3 hb.2.1 h4.2.2.1
  exact ⟨s', a1, ⟨hb.2.1, h1.of (fun o k ho => (a3 o k (by unfold gAdv; omega)).1), fun i hi => (a3 4 i (by unfold gAdv; omega)).2.1.trans (h2 i hi), (a3 3 2 (by unfold gAdv; omega)).1.trans h3, a2, (a3 3 10 (by unfold gAdv; omega)).1.trans h9, (a3 3 11 (by unfold gAdv; omega)).1.trans h10⟩, a3⟩
theorem rkC.nu {B : Nat → Nat} {N : Nat} {sm : Bool} {p : Nat} {s : zSt} (h : rkC B N sm p s) (h3 : tkd B N sm p = 3) : zI s 3 6 = zn (tnu B N p) ∧ tnu B N p ≤ 9999 := ⟨h.2.2.2.2.1.2.2.2.1 h3, tnu_lt h3 h.1⟩
theorem rkM.nu {B : Nat → Nat} {N : Nat} {sm : Bool} {p : Nat} {t : zSt} (h : rkM B N sm p t) (h3 : tkd B N sm p = 3) : zI t 64 8 = zn (tnu B N p) ∧ tnu B N p ≤ 9999 := ⟨h.2.2.2.1.2.2.2.1 h3, tnu_lt h3 h.1⟩
/-- a number's outcome: 0 good, else the fault's code -/
def okN (B : Nat → Nat) (N : Nat) (sm : Bool) (p a b : Nat) : Prop := tkd B N sm p = 3 ∧ a ≤ tnu B N p ∧ tnu B N p ≤ b
def fcN (B : Nat → Nat) (N : Nat) (sm : Bool) (p : Nat) : Nat := if tkd B N sm p = 3 then 4 else fc (tkd B N sm p) 2
theorem takeNumC {B : Nat → Nat} {N : Nat} {sm : Bool} {p : Nat} {s : zSt} (h : rkC B N sm p s) {a b : Nat} (ha : a < 2147483648) (hb : b < 2147483648) : ∃ r s', m_X3_takeNumber 3 (zn a) (zn b) s = some (r, s') ∧ ((okN B N sm p a b ∧ r = 1 ∧ rkC B N sm (tnx B N p) s' ∧ zI s' 3 8 = zn (tnu B N p)) ∨ (¬ okN B N sm p a b ∧ r = 0 ∧ flC (fcN B N sm p) (tpl B N p) s')) ∧ zOf gPC s s' := by
  have e : zI s 3 4 = 3 ↔ tkd B N sm p = 3 := h.kd (k := 3) (by omega)
  by_cases hc : tkd B N sm p = 3
  · obtain ⟨n1, n2⟩ := h.nu hc
    have l1 : zn a ≤ zn (tnu B N p) ↔ a ≤ tnu B N p := zn_le (by omega) (by omega)
    have l2 : zn (tnu B N p) ≤ zn b ↔ tnu B N p ≤ b := zn_le (by omega) (by omega)
    by_cases hr : a ≤ tnu B N p ∧ tnu B N p ≤ b
    · have e1 : zOf (fun o k => o = 3 ∧ k = 8) s (zsI s 3 8 (zn (tnu B N p))) := zOf.rf.sI ⟨rfl, rfl⟩
      obtain ⟨s', a1, a2, a3⟩ := advC' (h.of e1 (fun o k hw => by unfold gRdC; omega))
      refine ⟨1, s', ?_, Or.inl ⟨⟨hc, hr⟩, rfl, a2, ?_⟩, (e1.mono (fun o k hw => by unfold gPC; omega)).tr (a3.mono (fun o k => gAdv_P))⟩
      · simp only [m_X3_takeNumber, e, hc, if_true, n1, within_eq, l1, l2, hr, and_self, zcl_some, show ¬ (1 : Int32) = 0 by decide, if_false, zlt_eq, a1, zcv_some]
      · rw [(a3 3 8 (by unfold gAdv; omega)).1, zI_sI, if_pos ⟨rfl, rfl⟩]
    · obtain ⟨s', a1, a2, a3⟩ := refC h 4
      have a1' : m_X3_refuse 3 4 s = some (0, s') := a1
      refine ⟨0, s', ?_, Or.inr ⟨fun x => hr x.2, rfl, ?_⟩, a3⟩
      · simp only [m_X3_takeNumber, e, hc, if_true, n1, within_eq, l1, l2, hr, if_false, zcl_some, a1', true_or]
      · unfold fcN; rw [if_pos hc]
        unfold fc at a2; rw [if_neg (by omega)] at a2
        exact a2
  · obtain ⟨s', a1, a2, a3⟩ := refC h 2
    have a1' : m_X3_refuse 3 2 s = some (0, s') := a1
    refine ⟨0, s', ?_, Or.inr ⟨fun x => hc x.1, rfl, ?_⟩, a3⟩
    · simp only [m_X3_takeNumber, e, hc, if_false, a1', zcl_some, true_or, if_true]
    · unfold fcN; rw [if_neg hc]; exact a2
theorem toldNumM {B : Nat → Nat} {N : Nat} {sm : Bool} {p : Nat} {t : zSt} (h : rkM B N sm p t) {a b : Nat} (ha : a < 2147483648) (hb : b < 2147483648) : ∃ v t', m_X9_toldNumber 64 (zn a) (zn b) t = some (v, t') ∧ ((okN B N sm p a b ∧ rkM B N sm (tnx B N p) t' ∧ v = zn (tnu B N p)) ∨ (¬ okN B N sm p a b ∧ flM (fcN B N sm p) (tpl B N p) t')) ∧ zOf gPM t t' := by
  have e : zI t 64 6 = 2 ↔ tkd B N sm p = 3 := (h.so (k := 2) (by omega)).trans (msr_2 _)
  have hf : ¬ 0 < zI t 64 2 := by rw [h.2.2.2.2.1]; decide
  have fz : ∀ {f pl : Nat} {t' : zSt}, flM f pl t' → f ≠ 0 → f < 100 → ¬ zI t' 64 2 = 0 := fun hfl h0 h1 hz => h0 ((zn_inj (b := 0) (by omega) (by omega)).1 (hfl.1.symm.trans hz))
  by_cases hc : tkd B N sm p = 3
  · obtain ⟨n1, n2⟩ := h.nu hc
    have l1 : zn (tnu B N p) < zn a ↔ tnu B N p < a := zn_lt (by omega) (by omega)
    have l2 : zn b < zn (tnu B N p) ↔ b < tnu B N p := zn_lt (by omega) (by omega)
    by_cases hr : a ≤ tnu B N p ∧ tnu B N p ≤ b
    · obtain ⟨t', a1, a2, a3⟩ := tokM h (by omega)
      refine ⟨zn (tnu B N p), t', ?_, Or.inl ⟨⟨hc, hr⟩, a2, rfl⟩, a3⟩
      simp only [m_X9_toldNumber, m_X9_toldNumber_46, hf, if_false, e, hc, if_true, n1, l1, l2, show ¬ tnu B N p < a by omega, show ¬ b < tnu B N p by omega, h.2.2.2.2.1, show ¬ (0 : Int32) < 0 by decide, a1, zcv_some]
    · obtain ⟨t', a1, a2, a3⟩ := wrM h 4
      have a1' : m_X9_wrong 64 4 t = some t' := a1
      have f4 : fc (tkd B N sm p) 4 = 4 := by unfold fc; rw [if_neg (by omega)]
      rw [f4] at a2
      have z := fz a2 (by omega) (by omega)
      refine ⟨zI t' 64 8, t', ?_, Or.inr ⟨fun x => hr x.2, ?_⟩, a3⟩
      · simp only [m_X9_toldNumber, m_X9_toldNumber_46, m_X9_toldNumber_41, hf, if_false, e, hc, if_true, n1, l1, l2, a1', zcv_some, z]
        by_cases x : tnu B N p < a
        · rw [if_pos x]
        · rw [if_neg x, if_pos (by omega)]
      · unfold fcN; rw [if_pos hc]; exact a2
  · obtain ⟨t', a1, a2, a3⟩ := wrM h 2
    have a1' : m_X9_wrong 64 2 t = some t' := a1
    have z := fz a2 (by unfold fc; split <;> omega) (by unfold fc; split <;> omega)
    refine ⟨zI t' 64 8, t', ?_, Or.inr ⟨fun x => hc x.1, ?_⟩, a3⟩
    · simp only [m_X9_toldNumber, m_X9_toldNumber_46, hf, if_false, e, hc, a1', zcv_some, z]
    · unfold fcN; rw [if_neg hc]; exact a2
theorem wantM {B : Nat → Nat} {N : Nat} {sm : Bool} {p : Nat} {t : zSt} (h : rkM B N sm p t) {i : Nat} (hi : i < 20) : ∃ t', m_X9_want 64 (zq (c256 (kw i) : Int)) t = some t' ∧ (tkd B N sm p = 256 + i → rkM B N sm (tnx B N p) t') ∧ (tkd B N sm p ≠ 256 + i → flM (fc (tkd B N sm p) 2) (tpl B N p) t') ∧ zOf gPM t t' := by
  have hf : ¬ 0 < zI t 64 2 := by rw [h.2.2.2.2.1]; decide
  by_cases hc : tkd B N sm p = 256 + i
  · obtain ⟨t', a1, a2, a3⟩ := tokM h (by omega)
    refine ⟨t', ?_, fun _ => a2, fun x => absurd hc x, a3⟩
    simp only [m_X9_want, hf, if_false, isWord_eq h hi, zcl_some, hc, if_true, show ¬ (1 : Int32) = 0 by decide, a1, zcv_some]
  · obtain ⟨t', a1, a2, a3⟩ := wrM h 2
    have a1' : m_X9_wrong 64 2 t = some t' := a1
    refine ⟨t', ?_, fun x => absurd x hc, fun _ => a2, a3⟩
    simp only [m_X9_want, hf, if_false, isWord_eq h hi, zcl_some, hc, if_true, a1', zcv_some]
/-- names: told is 0 or 1 -/
theorem namedM {B : Nat → Nat} {N : Nat} {sm : Bool} {p : Nat} {t : zSt} (h : rkM B N sm p t) (x : Bool) : ∃ v t', m_X9_named 64 (zn x.toNat) t = some (v, t') ∧ ((tkd B N sm p = 2 ∧ x = false ∧ rkM B N sm (tnx B N p) t' ∧ v = zq (c256 (twd B N p) : Int)) ∨ (tkd B N sm p = 2 ∧ x = true ∧ flM 3 (tpl B N p) t') ∨ (tkd B N sm p ≠ 2 ∧ flM (fc (tkd B N sm p) 2) (tpl B N p) t')) ∧ zOf gPM t t' := by
  have hf : ¬ 0 < zI t 64 2 := by rw [h.2.2.2.2.1]; decide
  have fz : ∀ {f pl : Nat} {t' : zSt}, flM f pl t' → f ≠ 0 → f < 100 → ¬ zI t' 64 2 = 0 := fun hfl h0 h1 hz => h0 ((zn_inj (b := 0) (by omega) (by omega)).1 (hfl.1.symm.trans hz))
  by_cases hc : tkd B N sm p = 2
  · cases x
    · obtain ⟨t', a1, a2, a3⟩ := tokM h (by omega)
      refine ⟨zq (c256 (twd B N p) : Int), t', ?_, Or.inl ⟨hc, rfl, a2, rfl⟩, a3⟩
      simp only [m_X9_named, m_X9_named_33, hf, if_false, isName_eq h, zcl_some, hc, if_true, show ¬ (1 : Int32) = 0 by decide, show zn (false).toNat = (0 : Int32) from rfl, h.2.2.2.2.1, show ¬ (0 : Int32) < 0 by decide, a1, zcv_some, h.2.2.2.1.2.2.2.2 (Or.inl hc)]
    · obtain ⟨t', a1, a2, a3⟩ := wrM h 3
      have a1' : m_X9_wrong 64 3 t = some t' := a1
      have f4 : fc (tkd B N sm p) 3 = 3 := by unfold fc; rw [if_neg (by omega)]
      rw [f4] at a2
      have z := fz a2 (by omega) (by omega)
      refine ⟨zL t' 64 9, t', ?_, Or.inr (Or.inl ⟨hc, rfl, a2⟩), a3⟩
      simp only [m_X9_named, m_X9_named_33, hf, if_false, isName_eq h, zcl_some, hc, if_true, show ¬ (1 : Int32) = 0 by decide, show ¬ zn (true).toNat = (0 : Int32) by decide, a1', zcv_some, z]
  · obtain ⟨t', a1, a2, a3⟩ := wrM h 2
    have a1' : m_X9_wrong 64 2 t = some t' := a1
    have z := fz a2 (by unfold fc; split <;> omega) (by unfold fc; split <;> omega)
    refine ⟨zL t' 64 9, t', ?_, Or.inr (Or.inr ⟨hc, a2⟩), a3⟩
    simp only [m_X9_named, m_X9_named_33, hf, if_false, isName_eq h, zcl_some, hc, if_true, a1', zcv_some, z]
/-! after a fault the model does nothing -/
theorem wantF {t : zSt} (h : 0 < zI t 64 2) (q : Int64) : m_X9_want 64 q t = some t := by simp only [m_X9_want, h, if_true]
theorem toldF {t : zSt} (h : 0 < zI t 64 2) (a b : Int32) : m_X9_toldNumber 64 a b t = some (0, t) := by simp only [m_X9_toldNumber, h, if_true]
theorem signF {t : zSt} (h : 0 < zI t 64 2) (a b : Int32) : m_X9_signed 64 a b t = some (0, t) := by simp only [m_X9_signed, h, if_true]
theorem nameF {t : zSt} (h : 0 < zI t 64 2) (x : Int32) : m_X9_named 64 x t = some (0, t) := by simp only [m_X9_named, h, if_true]
theorem flM.pos {f pl : Nat} {t : zSt} (h : flM f pl t) (h0 : f ≠ 0) (h1 : f < 100) : 0 < zI t 64 2 := by
  rw [h.1]; exact (zn_lt (a := 0) (by omega) (by omega)).2 (by omega)
theorem fc_ne {k c : Nat} (h : c ≠ 0) : fc k c ≠ 0 := by unfold fc; split <;> omega
theorem fc_lt {k c : Nat} (h : c < 100) : fc k c < 100 := by unfold fc; split <;> omega
theorem fcN_ne {B : Nat → Nat} {N : Nat} {sm : Bool} {p : Nat} : fcN B N sm p ≠ 0 ∧ fcN B N sm p < 100 := by unfold fcN fc; split; omega; split <;> omega
/-! signed numbers -/
def sgP (B : Nat → Nat) (N : Nat) (sm : Bool) (p : Nat) : Nat := if tkd B N sm p = 45 then tnx B N p else p
def sgV (B : Nat → Nat) (N : Nat) (sm : Bool) (p : Nat) : Int := if tkd B N sm p = 45 then -(tnu B N (tnx B N p) : Int) else (tnu B N p : Int)
def okG (B : Nat → Nat) (N : Nat) (sm : Bool) (p : Nat) (b : Nat) : Prop := tkd B N sm (sgP B N sm p) = 3 ∧ -(b : Int) ≤ sgV B N sm p ∧ sgV B N sm p ≤ b
def fcG (B : Nat → Nat) (N : Nat) (sm : Bool) (p : Nat) : Nat := if tkd B N sm (sgP B N sm p) = 3 then 4 else fc (tkd B N sm (sgP B N sm p)) 2
def plG (B : Nat → Nat) (N : Nat) (sm : Bool) (p : Nat) : Nat := if tkd B N sm (sgP B N sm p) = 3 then tpl B N p else tpl B N (sgP B N sm p)
theorem signedC {B : Nat → Nat} {N : Nat} {sm : Bool} {p : Nat} {s : zSt} (h : rkC B N sm p s) {b : Nat} (hb : b ≤ 9999) : ∃ r s', m_X3_takeSigned 3 (zi (-(b : Int))) (zn b) s = some (r, s') ∧ ((okG B N sm p b ∧ r = 1 ∧ rkC B N sm (tnx B N (sgP B N sm p)) s' ∧ zI s' 3 8 = zi (sgV B N sm p)) ∨ (¬ okG B N sm p b ∧ r = 0 ∧ flC (fcG B N sm p) (plG B N sm p) s')) ∧ zOf gPC s s' := by
  have e45 : zI s 3 4 = 45 ↔ tkd B N sm p = 45 := h.kd (k := 45) (by omega)
  have h5 : zI s 3 5 = zn (tpl B N p) := h.2.2.2.2.1.2.1
  -- behind the sign
  have key : ∀ (s1 : zSt) (x : Int32), (x = 0 ∨ x = 1) → (x = 1 ↔ tkd B N sm p = 45) → rkC B N sm (sgP B N sm p) s1 → zOf gPC s s1 → ∃ r s', m_X3_takeSigned_30 3 (zi (-(b : Int))) (zn b) (zn (tpl B N p)) x s1 = some (r, s') ∧ ((okG B N sm p b ∧ r = 1 ∧ rkC B N sm (tnx B N (sgP B N sm p)) s' ∧ zI s' 3 8 = zi (sgV B N sm p)) ∨ (¬ okG B N sm p b ∧ r = 0 ∧ flC (fcG B N sm p) (plG B N sm p) s')) ∧ zOf gPC s s' := by
    intro s1 x hx hx2 h1 o1
    have e3 : zI s1 3 4 = 3 ↔ tkd B N sm (sgP B N sm p) = 3 := h1.kd (k := 3) (by omega)
    by_cases hc : tkd B N sm (sgP B N sm p) = 3
    · obtain ⟨n1, n2⟩ := h1.nu hc
      have hv : (if x = 0 then zI s1 3 6 else -(zI s1 3 6)) = zi (sgV B N sm p) ∧ (-9999 ≤ sgV B N sm p ∧ sgV B N sm p ≤ 9999) := by
        unfold sgV
        by_cases h45 : tkd B N sm p = 45
        · have ep : sgP B N sm p = tnx B N p := by unfold sgP; rw [if_pos h45]
          rw [ep] at n1 n2
          rw [if_pos h45, hx2.2 h45, if_neg (by decide), n1, zn_zi (by omega), zi_neg]
          exact ⟨rfl, by omega⟩
        · have ep : sgP B N sm p = p := by unfold sgP; rw [if_neg h45]
          rw [ep] at n1 n2
          rw [if_neg h45, if_pos (hx.resolve_right (fun y => h45 (hx2.1 y))), n1, zn_zi (by omega)]
          exact ⟨rfl, by omega⟩
      have red : m_X3_takeSigned_30 3 (zi (-(b : Int))) (zn b) (zn (tpl B N p)) x s1 = m_X3_takeSigned_61 3 (zi (-(b : Int))) (zn b) (zn (tpl B N p)) (zi (sgV B N sm p)) s1 := by
        rw [← hv.1]
        unfold m_X3_takeSigned_30
        rw [if_pos (e3.2 hc)]
        by_cases h0 : x = 0
        · rw [if_pos h0, if_pos h0]
        · rw [if_neg h0, if_neg h0]
      have l1 : zi (-(b : Int)) ≤ zi (sgV B N sm p) ↔ -(b : Int) ≤ sgV B N sm p := zi_le (by unfold zib; omega) (by unfold zib; omega)
      have l2 : zi (sgV B N sm p) ≤ zn b ↔ sgV B N sm p ≤ b := by rw [zn_zi (by omega)]; exact zi_le (by unfold zib; omega) (by unfold zib; omega)
      rw [red]
      unfold m_X3_takeSigned_61
      by_cases hr : -(b : Int) ≤ sgV B N sm p ∧ sgV B N sm p ≤ b
      · have e1 : zOf (fun o k => o = 3 ∧ k = 8) s1 (zsI s1 3 8 (zi (sgV B N sm p))) := zOf.rf.sI ⟨rfl, rfl⟩
        obtain ⟨s', a1, a2, a3⟩ := advC' (h1.of e1 (fun o k hw => by unfold gRdC; omega))
        refine ⟨1, s', ?_, Or.inl ⟨⟨hc, hr⟩, rfl, a2, ?_⟩, (o1.tr (e1.mono (fun o k hw => by unfold gPC; omega))).tr (a3.mono (fun o k => gAdv_P))⟩
        · simp only [within_eq, l1, l2, hr, and_self, if_true, zcl_some, show ¬ (1 : Int32) = 0 by decide, if_false, zlt_eq, a1, zcv_some]
        · rw [(a3 3 8 (by unfold gAdv; omega)).1, zI_sI, if_pos ⟨rfl, rfl⟩]
      · obtain ⟨s', a1, a2, a3⟩ := refAtC h1 4 (tpl B N p)
        have a1' : m_X3_refuseAt 3 4 (zn (tpl B N p)) s1 = some (0, s') := a1
        refine ⟨0, s', ?_, Or.inr ⟨fun y => hr y.2, rfl, ?_⟩, o1.tr a3⟩
        · simp only [within_eq, l1, l2, hr, if_false, zcl_some, if_true, a1', true_or]
        · unfold fcG plG; rw [if_pos hc, if_pos hc]
          unfold fc at a2; rw [if_neg (by omega)] at a2
          exact a2
    · obtain ⟨s', a1, a2, a3⟩ := refC h1 2
      have a1' : m_X3_refuse 3 2 s1 = some (0, s') := a1
      refine ⟨0, s', ?_, Or.inr ⟨fun y => hc y.1, rfl, ?_⟩, o1.tr a3⟩
      · simp only [m_X3_takeSigned_30, e3, hc, if_false, a1', zcl_some, true_or, if_true]
      · unfold fcG plG; rw [if_neg hc, if_neg hc]; exact a2
  unfold m_X3_takeSigned m_X3_takeSigned_19
  rw [h5]
  by_cases h45 : tkd B N sm p = 45
  · rw [if_pos (e45.2 h45), if_neg (by decide)]
    obtain ⟨s1, a1, a2, a3⟩ := advC h
    rw [a1, zcv_some]
    exact key s1 1 (Or.inr rfl) ⟨fun _ => h45, fun _ => rfl⟩ (by unfold sgP; rw [if_pos h45]; exact a2) a3
  · rw [if_neg (fun y => h45 (e45.1 y)), if_pos rfl]
    exact key s 0 (Or.inl rfl) ⟨fun y => absurd y (by decide), fun y => absurd y h45⟩ (by unfold sgP; rw [if_neg h45]; exact h) zOf.rf
theorem signedM {B : Nat → Nat} {N : Nat} {sm : Bool} {p : Nat} {t : zSt} (h : rkM B N sm p t) {b : Nat} (hb : b ≤ 9999) : ∃ v t', m_X9_signed 64 (zi (-(b : Int))) (zn b) t = some (v, t') ∧ ((okG B N sm p b ∧ rkM B N sm (tnx B N (sgP B N sm p)) t' ∧ v = zi (sgV B N sm p)) ∨ (¬ okG B N sm p b ∧ flM (fcG B N sm p) (plG B N sm p) t')) ∧ zOf gPM t t' := by
  have e45 : zI t 64 6 = 45 ↔ tkd B N sm p = 45 := (h.so (k := 45) (by omega)).trans (msr_s (by omega) (by omega))
  have h7 : zI t 64 7 = zn (tpl B N p) := h.2.2.2.1.2.1
  have hf : ¬ 0 < zI t 64 2 := by rw [h.2.2.2.2.1]; decide
  have key : ∀ (t1 : zSt) (x : Int32), (x = 0 ∨ x = 1) → (x = 1 ↔ tkd B N sm p = 45) → rkM B N sm (sgP B N sm p) t1 → zOf gPM t t1 → ∃ v t', m_X9_signed_39 64 (zi (-(b : Int))) (zn b) (zn (tpl B N p)) x t1 = some (v, t') ∧ ((okG B N sm p b ∧ rkM B N sm (tnx B N (sgP B N sm p)) t' ∧ v = zi (sgV B N sm p)) ∨ (¬ okG B N sm p b ∧ flM (fcG B N sm p) (plG B N sm p) t')) ∧ zOf gPM t t' := by
    intro t1 x hx hx2 h1 o1
    have e3 : zI t1 64 6 = 2 ↔ tkd B N sm (sgP B N sm p) = 3 := (h1.so (k := 2) (by omega)).trans (msr_2 _)
    by_cases hc : tkd B N sm (sgP B N sm p) = 3
    · obtain ⟨n1, n2⟩ := h1.nu hc
      have hv : (if x = 0 then zI t1 64 8 else -(zI t1 64 8)) = zi (sgV B N sm p) ∧ (-9999 ≤ sgV B N sm p ∧ sgV B N sm p ≤ 9999) := by
        unfold sgV
        by_cases h45 : tkd B N sm p = 45
        · have ep : sgP B N sm p = tnx B N p := by unfold sgP; rw [if_pos h45]
          rw [ep] at n1 n2
          rw [if_pos h45, hx2.2 h45, if_neg (by decide), n1, zn_zi (by omega), zi_neg]
          exact ⟨rfl, by omega⟩
        · have ep : sgP B N sm p = p := by unfold sgP; rw [if_neg h45]
          rw [ep] at n1 n2
          rw [if_neg h45, if_pos (hx.resolve_right (fun y => h45 (hx2.1 y))), n1, zn_zi (by omega)]
          exact ⟨rfl, by omega⟩
      have red : m_X9_signed_39 64 (zi (-(b : Int))) (zn b) (zn (tpl B N p)) x t1 = m_X9_signed_71 64 (zi (-(b : Int))) (zn b) (zn (tpl B N p)) (zi (sgV B N sm p)) t1 := by
        rw [← hv.1]
        unfold m_X9_signed_39
        rw [if_pos (e3.2 hc)]
        by_cases h0 : x = 0
        · rw [if_pos h0, if_pos h0]
        · rw [if_neg h0, if_neg h0]
      have l1 : zi (sgV B N sm p) < zi (-(b : Int)) ↔ sgV B N sm p < -(b : Int) := zi_lt (by unfold zib; omega) (by unfold zib; omega)
      have l2 : zn b < zi (sgV B N sm p) ↔ b < sgV B N sm p := by rw [zn_zi (by omega)]; exact zi_lt (by unfold zib; omega) (by unfold zib; omega)
      rw [red]
      unfold m_X9_signed_71
      by_cases hr : -(b : Int) ≤ sgV B N sm p ∧ sgV B N sm p ≤ b
      · obtain ⟨t', a1, a2, a3⟩ := tokM h1 (by omega)
        refine ⟨zi (sgV B N sm p), t', ?_, Or.inl ⟨⟨hc, hr⟩, a2, rfl⟩, o1.tr a3⟩
        simp only [l1, l2, show ¬ sgV B N sm p < -(b : Int) by omega, show ¬ (b : Int) < sgV B N sm p by omega, if_false, a1, zcv_some]
      · refine ⟨zi (sgV B N sm p), zsI (zsI t1 64 2 4) 64 3 (zn (tpl B N p)), ?_, Or.inr ⟨fun y => hr y.2, ?_⟩, o1.tr ((zOf.rf.sI (by unfold gPM; omega)).sI (by unfold gPM; omega))⟩
        · simp only [m_X9_signed_85, l1, l2, zlt_eq]
          by_cases y : sgV B N sm p < -(b : Int)
          · rw [if_pos y]
          · rw [if_neg y, if_pos (by omega)]
        · unfold fcG plG; rw [if_pos hc, if_pos hc]
          exact ⟨by rw [zI_sI, if_neg (by omega), zI_sI, if_pos ⟨rfl, rfl⟩]; rfl, by rw [zI_sI, if_pos ⟨rfl, rfl⟩]⟩
    · obtain ⟨t', a1, a2, a3⟩ := wrM h1 2
      have a1' : m_X9_wrong 64 2 t1 = some t' := a1
      refine ⟨0, t', ?_, Or.inr ⟨fun y => hc y.1, ?_⟩, o1.tr a3⟩
      · simp only [m_X9_signed_39, e3, hc, if_false, a1', zcv_some]
      · unfold fcG plG; rw [if_neg hc, if_neg hc]; exact a2
  unfold m_X9_signed m_X9_signed_28
  rw [if_neg hf, h7]
  by_cases h45 : tkd B N sm p = 45
  · rw [if_pos (e45.2 h45), if_neg (by decide)]
    obtain ⟨t1, a1, a2, a3⟩ := tokM h (by omega)
    rw [a1, zcv_some]
    exact key t1 1 (Or.inr rfl) ⟨fun _ => h45, fun _ => rfl⟩ (by unfold sgP; rw [if_pos h45]; exact a2) a3
  · rw [if_neg (fun y => h45 (e45.1 y)), if_pos rfl]
    exact key t 0 (Or.inl rfl) ⟨fun y => absurd y (by decide), fun y => absurd y h45⟩ (by unfold sgP; rw [if_neg h45]; exact h) zOf.rf
theorem fcG_ne {B : Nat → Nat} {N : Nat} {sm : Bool} {p : Nat} : fcG B N sm p ≠ 0 ∧ fcG B N sm p < 100 := by unfold fcG fc; split; omega; split <;> omega
