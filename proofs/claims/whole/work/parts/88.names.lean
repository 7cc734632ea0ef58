/-! names told so far -/
def nmL (W : Nat → List Nat) (n : Nat) : Prop := (∀ k, k < n → okW (W k)) ∧ ∀ j k, j < n → k < n → W j = W k → j = k
def nmC (W : Nat → List Nat) (n o : Nat) (s : zSt) : Prop := ∀ k, k < n → zL s o k = zq (c27 (W k) : Int)
def nmM (W : Nat → List Nat) (n o : Nat) (t : zSt) : Prop := ∀ k, k < n → zL t o k = zq (c256 (W k) : Int)
def lsF (W : Nat → List Nat) (w : List Nat) : Nat → Nat → Int32 → Int32
  | 0, _, v => v
  | d + 1, i, v => lsF W w d (i + 1) (if W i = w then zn i else v)
theorem lsF_miss {W : Nat → List Nat} {w : List Nat} : ∀ (d i : Nat) (v : Int32), (∀ k, i ≤ k → k < i + d → W k ≠ w) → lsF W w d i v = v := by
  intro d
  induction d with
  | zero => intro i v _; rfl
  | succ d ih =>
    intro i v h
    show lsF W w d (i + 1) (if W i = w then zn i else v) = v
    rw [if_neg (h i (by omega) (by omega))]
    exact ih (i + 1) v (fun k h1 h2 => h k (by omega) (by omega))
theorem lsF_hit {W : Nat → List Nat} {w : List Nat} {n : Nat} (hL : nmL W n) {j : Nat} (hj : j < n) (e : W j = w) : ∀ (d i : Nat), i + d = n → i ≤ j → ∀ {v : Int32}, lsF W w d i v = zn j := by
  intro d
  induction d with
  | zero => intro i h1 h2; omega
  | succ d ih =>
    intro i h1 h2 v
    show lsF W w d (i + 1) (if W i = w then zn i else v) = zn j
    by_cases hij : i = j
    · subst hij
      rw [if_pos e]
      refine lsF_miss d (i + 1) _ (fun k h3 h4 hk => ?_)
      have := hL.2 k i (by omega) hj (hk.trans e.symm)
      omega
    · exact ih (i + 1) (by omega) (by omega)
theorem ix_lp {o L n : Nat} (hL8 : zN o = L) (hn : n ≤ L) (hL9 : L < 1000) {s : zSt} {W : Nat → List Nat} (hL : nmL W n) (hC : nmC W n o s) {w : List Nat} (hw : okW w) : ∀ (d i f : Nat), i + d = n → d < f → (∀ k, k < i → W k ≠ w) → (∃ j, j < n ∧ W j = w ∧ lp_X8_indexOf_3 o (zn n) (zq (c27 w : Int)) f (zn i) s = some (zn j, s)) ∨ ((∀ k, k < n → W k ≠ w) ∧ lp_X8_indexOf_3 o (zn n) (zq (c27 w : Int)) f (zn i) s = some (-1, s)) := by
  intro d
  induction d with
  | zero =>
    intro i f hi hf hk
    obtain ⟨f, rfl⟩ : ∃ g, f = g + 1 := ⟨f - 1, by omega⟩
    have h1 : ¬ zn i < zn n := by rw [zn_lt (by omega) (by omega)]; omega
    refine Or.inr ⟨fun k h => hk k (by omega), ?_⟩
    simp only [lp_X8_indexOf_3, bd_X8_indexOf_3, h1, if_false]
  | succ d ih =>
    intro i f hi hf hk
    obtain ⟨f, rfl⟩ : ∃ g, f = g + 1 := ⟨f - 1, by omega⟩
    have h1 : zn i < zn n := by rw [zn_lt (by omega) (by omega)]; omega
    have h1' : zn i < Int32.ofNat L := (zn_lt (b := L) (by omega) (by omega)).2 (by omega)
    have h2 : ¬ zn i < 0 := zn_neg (by omega)
    have h3 : (zn i).toNatClampNeg = i := zn_cl (by omega)
    have h4 : ¬ L ≤ i := by omega
    simp only [lp_X8_indexOf_3, bd_X8_indexOf_3, hL8, h1, h1', if_true, h2, h3, h4, or_self, if_false, hC i (by omega), nm27 (hL.1 i (by omega)) hw, zn_succ]
    by_cases hc : W i = w
    · rw [if_pos hc]
      exact Or.inl ⟨i, by omega, hc, rfl⟩
    · rw [if_neg hc]
      exact ih (i + 1) f (by omega) (by omega) (fun k h => by
        by_cases hki : k = i
        · rw [hki]; exact hc
        · exact hk k (by omega))
theorem indexOf_eq {o L n : Nat} (hL8 : zN o = L) (hn : n ≤ L) (hL9 : L < 1000) {s : zSt} {W : Nat → List Nat} (hL : nmL W n) (hC : nmC W n o s) {w : List Nat} (hw : okW w) : (∃ j, j < n ∧ W j = w ∧ m_X8_indexOf o (zn n) (zq (c27 w : Int)) s = some (zn j, s)) ∨ ((∀ k, k < n → W k ≠ w) ∧ m_X8_indexOf o (zn n) (zq (c27 w : Int)) s = some (-1, s)) := ix_lp hL8 hn hL9 hL hC hw n 0 zFuel (by omega) (by unfold zFuel; omega) (fun k hk => by omega)
theorem zn_ne1 {j : Nat} (h : j < 2147483648) : ¬ zn j = -1 := fun hc => by
  have h1 := zn_int h
  rw [hc] at h1
  have h2 : (-1 : Int32).toInt = -1 := rfl
  omega
theorem newNameC {B : Nat → Nat} {N : Nat} {sm : Bool} {p : Nat} {s : zSt} (h : rkC B N sm p s) {o L n : Nat} (hL8 : zN o = L) (hn : n < L) (hL9 : L < 1000) (ho : 5 ≤ o) {W : Nat → List Nat} (hL : nmL W n) (hC : nmC W n o s) : ∃ r s', m_X3_takeNewName 3 o (zn n) s = some (r, s') ∧ ((tkd B N sm p = 2 ∧ (∀ k, k < n → W k ≠ twd B N p) ∧ r = 1 ∧ rkC B N sm (tnx B N p) s' ∧ zL s' o n = zq (c27 (twd B N p) : Int)) ∨ (tkd B N sm p = 2 ∧ (∃ k, k < n ∧ W k = twd B N p) ∧ r = 0 ∧ flC 3 (tpl B N p) s') ∨ (tkd B N sm p ≠ 2 ∧ r = 0 ∧ flC (fc (tkd B N sm p) 2) (tpl B N p) s')) ∧ zOf (fun x k => gPC x k ∨ (x = o ∧ k = n)) s s' := by
  have e : zI s 3 4 = 2 ↔ tkd B N sm p = 2 := h.kd (k := 2) (by omega)
  have h2 : ¬ zn n < 0 := zn_neg (by omega)
  have h3 : (zn n).toNatClampNeg = n := zn_cl (by omega)
  have h4 : ¬ L ≤ n := by omega
  have h5 : zn n < Int32.ofNat L := (zn_lt (b := L) (by omega) (by omega)).2 hn
  by_cases hc : tkd B N sm p = 2
  · have hw := (tkd_w (Or.inl hc) (fun k hk => (h.2.1.2.2 k hk).1) h.1).1
    have l7 : zL s 3 7 = zq (c27 (twd B N p) : Int) := h.2.2.2.2.1.2.2.2.2 hc
    rcases indexOf_eq hL8 (show n ≤ L by omega) hL9 hL hC hw with ⟨j, j1, j2, j3⟩ | ⟨j1, j2⟩
    · obtain ⟨s', a1, a2, a3⟩ := refC h 3
      have a1' : m_X3_refuse 3 3 s = some (0, s') := a1
      have f3 : fc (tkd B N sm p) 3 = 3 := by unfold fc; rw [if_neg (by omega)]
      rw [f3] at a2
      refine ⟨0, s', ?_, Or.inr (Or.inl ⟨hc, ⟨j, j1, j2⟩, rfl, a2⟩), a3.mono (fun o k hw => Or.inl hw)⟩
      simp only [m_X3_takeNewName, e, hc, if_true, h2, if_false, hL8, h5, l7, j3, zcl_some, zn_ne1 (show j < 2147483648 by omega), a1', true_or]
    · have e1 : zOf (fun x k => x = o ∧ k = n) s (zsL s o n (zq (c27 (twd B N p) : Int))) := zOf.rf.sL ⟨rfl, rfl⟩
      obtain ⟨s', a1, a2, a3⟩ := advC' (h.of e1 (fun o k hw => by unfold gRdC; omega))
      refine ⟨1, s', ?_, Or.inl ⟨hc, j1, rfl, a2, ?_⟩, (e1.mono (fun o k hw => Or.inr hw)).tr (a3.mono (fun o k hw => Or.inl (gAdv_P hw)))⟩
      · simp only [m_X3_takeNewName, e, hc, if_true, h2, if_false, hL8, h5, l7, j2, zcl_some, h3, h4, or_self, zlt_eq, a1, zcv_some]
      · rw [(a3 o n (by unfold gAdv; omega)).2.1, zL_sL, if_pos ⟨rfl, rfl⟩]
  · obtain ⟨s', a1, a2, a3⟩ := refC h 2
    have a1' : m_X3_refuse 3 2 s = some (0, s') := a1
    refine ⟨0, s', ?_, Or.inr (Or.inr ⟨hc, rfl, a2⟩), a3.mono (fun o k hw => Or.inl hw)⟩
    simp only [m_X3_takeNewName, m_X3_takeNewName_18, e, hc, if_false, a1', zcl_some, true_or, if_true]
theorem ca_any {t : zSt} {n : Nat} (hn : n ≤ 8) (c0 : zI t 64 18 = zn n) (q : Int64) : ∀ (d i f : Nat) (v : Int32), i + d = n → d < f → ∃ v', lp_X9_causeOf_5 64 q f v (zn i) t = some (v', t) := by
  intro d
  induction d with
  | zero =>
    intro i f v hi hf
    obtain ⟨f, rfl⟩ : ∃ g, f = g + 1 := ⟨f - 1, by omega⟩
    have h1 : ¬ zn i < zn n := by rw [zn_lt (by omega) (by omega)]; omega
    exact ⟨v, by simp only [lp_X9_causeOf_5, bd_X9_causeOf_5, c0, h1, if_false]⟩
  | succ d ih =>
    intro i f v hi hf
    obtain ⟨f, rfl⟩ : ∃ g, f = g + 1 := ⟨f - 1, by omega⟩
    have h1 : zn i < zn n := by rw [zn_lt (by omega) (by omega)]; omega
    have h2 : ¬ zn i < 0 := zn_neg (by omega)
    have h3 : (zn i).toNatClampNeg = i := zn_cl (by omega)
    have h4 : ¬ 8 ≤ i := by omega
    simp only [lp_X9_causeOf_5, bd_X9_causeOf_5, m_X9_causeOf_32, c0, h1, if_true, zT_64_16, zN_71, h2, h3, h4, or_self, if_false, zn_succ]
    split
    · exact ih (i + 1) f _ (by omega) (by omega)
    · exact ih (i + 1) f _ (by omega) (by omega)
theorem ca_lp {t : zSt} {n : Nat} (hn : n ≤ 8) (c0 : zI t 64 18 = zn n) {W : Nat → List Nat} (hL : nmL W n) (hM : nmM W n 71 t) {w : List Nat} (hw : okW w) : ∀ (d i f : Nat) (v : Int32), i + d = n → d < f → lp_X9_causeOf_5 64 (zq (c256 w : Int)) f v (zn i) t = some (lsF W w d i v, t) := by
  intro d
  induction d with
  | zero =>
    intro i f v hi hf
    obtain ⟨f, rfl⟩ : ∃ g, f = g + 1 := ⟨f - 1, by omega⟩
    have h1 : ¬ zn i < zn n := by rw [zn_lt (by omega) (by omega)]; omega
    simp only [lp_X9_causeOf_5, bd_X9_causeOf_5, c0, h1, if_false, lsF]
  | succ d ih =>
    intro i f v hi hf
    obtain ⟨f, rfl⟩ : ∃ g, f = g + 1 := ⟨f - 1, by omega⟩
    have h1 : zn i < zn n := by rw [zn_lt (by omega) (by omega)]; omega
    have h2 : ¬ zn i < 0 := zn_neg (by omega)
    have h3 : (zn i).toNatClampNeg = i := zn_cl (by omega)
    have h4 : ¬ 8 ≤ i := by omega
    simp only [lp_X9_causeOf_5, bd_X9_causeOf_5, m_X9_causeOf_32, c0, h1, if_true, zT_64_16, zN_71, h2, h3, h4, or_self, if_false, zn_succ, hM i (by omega), nm256 (hL.1 i (by omega)) hw, lsF]
    by_cases hc : W i = w
    · rw [if_pos hc, if_pos hc]
      exact ih (i + 1) f _ (by omega) (by omega)
    · rw [if_neg hc, if_neg hc]
      exact ih (i + 1) f _ (by omega) (by omega)
theorem ca_exists {t : zSt} {n : Nat} (hn : n ≤ 8) (c0 : zI t 64 18 = zn n) (q : Int64) : ∃ v, m_X9_causeOf 64 q t = some (v, t) := ca_any hn c0 q n 0 zFuel (-1) (by omega) (by unfold zFuel; omega)
theorem ca_some {t : zSt} {n : Nat} (hn : n ≤ 8) (c0 : zI t 64 18 = zn n) {W : Nat → List Nat} (hL : nmL W n) (hM : nmM W n 71 t) {w : List Nat} (hw : okW w) {j : Nat} (hj : j < n) (e : W j = w) : m_X9_causeOf 64 (zq (c256 w : Int)) t = some (zn j, t) := by
  have := ca_lp hn c0 hL hM hw n 0 zFuel (-1) (by omega) (by unfold zFuel; omega)
  rw [lsF_hit hL hj e n 0 (by omega) (by omega)] at this
  exact this
theorem ca_none {t : zSt} {n : Nat} (hn : n ≤ 8) (c0 : zI t 64 18 = zn n) {W : Nat → List Nat} (hL : nmL W n) (hM : nmM W n 71 t) {w : List Nat} (hw : okW w) (e : ∀ k, k < n → W k ≠ w) : m_X9_causeOf 64 (zq (c256 w : Int)) t = some (-1, t) := by
  have := ca_lp hn c0 hL hM hw n 0 zFuel (-1) (by omega) (by unfold zFuel; omega)
  rw [lsF_miss n 0 (-1) (fun k h1 h2 => e k (by omega))] at this
  exact this
theorem li_any {t : zSt} {n : Nat} (hn : n ≤ 12) (c0 : zI t 64 64 = zn n) (q : Int64) : ∀ (d i f : Nat) (v : Int32), i + d = n → d < f → ∃ v', lp_X9_lineOf_5 64 q f v (zn i) t = some (v', t) := by
  intro d
  induction d with
  | zero =>
    intro i f v hi hf
    obtain ⟨f, rfl⟩ : ∃ g, f = g + 1 := ⟨f - 1, by omega⟩
    have h1 : ¬ zn i < zn n := by rw [zn_lt (by omega) (by omega)]; omega
    exact ⟨v, by simp only [lp_X9_lineOf_5, bd_X9_lineOf_5, c0, h1, if_false]⟩
  | succ d ih =>
    intro i f v hi hf
    obtain ⟨f, rfl⟩ : ∃ g, f = g + 1 := ⟨f - 1, by omega⟩
    have h1 : zn i < zn n := by rw [zn_lt (by omega) (by omega)]; omega
    have h2 : ¬ zn i < 0 := zn_neg (by omega)
    have h3 : (zn i).toNatClampNeg = i := zn_cl (by omega)
    have h4 : ¬ 12 ≤ i := by omega
    simp only [lp_X9_lineOf_5, bd_X9_lineOf_5, m_X9_lineOf_32, c0, h1, if_true, zT_64_50, zN_93, h2, h3, h4, or_self, if_false, zn_succ]
    split
    · exact ih (i + 1) f _ (by omega) (by omega)
    · exact ih (i + 1) f _ (by omega) (by omega)
theorem li_lp {t : zSt} {n : Nat} (hn : n ≤ 12) (c0 : zI t 64 64 = zn n) {W : Nat → List Nat} (hL : nmL W n) (hM : nmM W n 93 t) {w : List Nat} (hw : okW w) : ∀ (d i f : Nat) (v : Int32), i + d = n → d < f → lp_X9_lineOf_5 64 (zq (c256 w : Int)) f v (zn i) t = some (lsF W w d i v, t) := by
  intro d
  induction d with
  | zero =>
    intro i f v hi hf
    obtain ⟨f, rfl⟩ : ∃ g, f = g + 1 := ⟨f - 1, by omega⟩
    have h1 : ¬ zn i < zn n := by rw [zn_lt (by omega) (by omega)]; omega
    simp only [lp_X9_lineOf_5, bd_X9_lineOf_5, c0, h1, if_false, lsF]
  | succ d ih =>
    intro i f v hi hf
    obtain ⟨f, rfl⟩ : ∃ g, f = g + 1 := ⟨f - 1, by omega⟩
    have h1 : zn i < zn n := by rw [zn_lt (by omega) (by omega)]; omega
    have h2 : ¬ zn i < 0 := zn_neg (by omega)
    have h3 : (zn i).toNatClampNeg = i := zn_cl (by omega)
    have h4 : ¬ 12 ≤ i := by omega
    simp only [lp_X9_lineOf_5, bd_X9_lineOf_5, m_X9_lineOf_32, c0, h1, if_true, zT_64_50, zN_93, h2, h3, h4, or_self, if_false, zn_succ, hM i (by omega), nm256 (hL.1 i (by omega)) hw, lsF]
    by_cases hc : W i = w
    · rw [if_pos hc, if_pos hc]
      exact ih (i + 1) f _ (by omega) (by omega)
    · rw [if_neg hc, if_neg hc]
      exact ih (i + 1) f _ (by omega) (by omega)
theorem li_exists {t : zSt} {n : Nat} (hn : n ≤ 12) (c0 : zI t 64 64 = zn n) (q : Int64) : ∃ v, m_X9_lineOf 64 q t = some (v, t) := li_any hn c0 q n 0 zFuel (-1) (by omega) (by unfold zFuel; omega)
theorem li_some {t : zSt} {n : Nat} (hn : n ≤ 12) (c0 : zI t 64 64 = zn n) {W : Nat → List Nat} (hL : nmL W n) (hM : nmM W n 93 t) {w : List Nat} (hw : okW w) {j : Nat} (hj : j < n) (e : W j = w) : m_X9_lineOf 64 (zq (c256 w : Int)) t = some (zn j, t) := by
  have := li_lp hn c0 hL hM hw n 0 zFuel (-1) (by omega) (by unfold zFuel; omega)
  rw [lsF_hit hL hj e n 0 (by omega) (by omega)] at this
  exact this
theorem li_none {t : zSt} {n : Nat} (hn : n ≤ 12) (c0 : zI t 64 64 = zn n) {W : Nat → List Nat} (hL : nmL W n) (hM : nmM W n 93 t) {w : List Nat} (hw : okW w) (e : ∀ k, k < n → W k ≠ w) : m_X9_lineOf 64 (zq (c256 w : Int)) t = some (-1, t) := by
  have := li_lp hn c0 hL hM hw n 0 zFuel (-1) (by omega) (by unfold zFuel; omega)
  rw [lsF_miss n 0 (-1) (fun k h1 h2 => e k (by omega))] at this
  exact this
