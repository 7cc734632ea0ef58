/-! the shed: a setting's line -/
theorem isS.c3 {S : Nat} (h : isS S) : (zC S = 5 ∧ 5 ≤ S ∧ S ≤ 12) ∧ (zT S 1 = S + 1 ∧ zT S 2 = S + 6 ∧ zT (S + 1) 2 = S + 2 ∧ zT (S + 1) 3 = S + 3 ∧ zT (S + 1) 4 = S + 4 ∧ zT (S + 1) 5 = S + 5) ∧ (zN (S + 6) = 11 ∧ zN (S + 2) = 8 ∧ zN (S + 3) = 8 ∧ zN (S + 4) = 8 ∧ zN (S + 5) = 256) := by
  rcases h with rfl | rfl <;> exact ⟨⟨rfl, by omega, by omega⟩, ⟨rfl, rfl, rfl, rfl, rfl, rfl⟩, ⟨rfl, rfl, rfl, rfl, rfl⟩⟩
def Lk (k : Nat) : Nat := if k = 3 ∨ k = 5 then 0 else if k = 2 then 2 else 1
def Mk (k : Nat) : Nat := if k = 1 then 20 else if k = 5 then 100 else 99
theorem tab_lo : ∀ k : Fin 7, ztabL k.val = zn (Lk k.val) ∧ ztabM k.val = zn (Mk k.val) ∧ ¬ ztabL k.val < 0 := by decide +kernel
theorem tab_hi : ∀ k : Fin 11, 7 ≤ k.val → ztabL k.val = zi (-((999 : Nat) : Int)) ∧ ztabM k.val = zn 999 ∧ ztabL k.val < 0 := by decide +kernel
def okS (B : Nat → Nat) (N k p : Nat) : Prop := if 7 ≤ k then okG B N false p 999 else okN B N false p (Lk k) (Mk k)
def vS (B : Nat → Nat) (N k p : Nat) : Int := if 7 ≤ k then sgV B N false p else tnu B N p
def nS (B : Nat → Nat) (N k p : Nat) : Nat := if 7 ≤ k then tnx B N (sgP B N false p) else tnx B N p
def fS (B : Nat → Nat) (N k p : Nat) : Nat := if 7 ≤ k then fcG B N false p else fcN B N false p
def lS (B : Nat → Nat) (N k p : Nat) : Nat := if 7 ≤ k then plG B N false p else tpl B N p
theorem fS_ne {B : Nat → Nat} {N k p : Nat} : fS B N k p ≠ 0 ∧ fS B N k p < 100 := by
  unfold fS
  split
  · exact fcG_ne
  · exact fcN_ne
theorem vS_in {B : Nat → Nat} {N k p : Nat} (h : okS B N k p) : (7 ≤ k → -999 ≤ vS B N k p ∧ vS B N k p ≤ 999) ∧ (k < 7 → (Lk k : Int) ≤ vS B N k p ∧ vS B N k p ≤ Mk k) := by
  unfold okS at h
  unfold vS
  by_cases hk : 7 ≤ k
  · rw [if_pos hk] at h ⊢
    exact ⟨fun _ => ⟨by have := h.2.1; omega, by have := h.2.2; omega⟩, fun x => by omega⟩
  · rw [if_neg hk] at h ⊢
    exact ⟨fun x => by omega, fun _ => ⟨by have := h.2.1; omega, by have := h.2.2; omega⟩⟩
theorem nS_le {B : Nat → Nat} {N k p : Nat} (hp : p ≤ N) : p ≤ nS B N k p := by
  have h1 := tnx_bd (B := B) hp
  unfold nS
  split
  · unfold sgP
    split
    · have := tnx_bd (B := B) h1.2.1; omega
    · omega
  · omega
theorem setC {B : Nat → Nat} {N p : Nat} {s : zSt} (h : rkC B N false p s) {S : Nat} (hS : isS S) {k tb : Nat} (hk : k < 11) (htb : tb < 2048) (c3 : zI s S 3 = zn tb) (hb : tb.testBit k = false) : ∃ r s', m_X5_readSetting S 3 (zn (256 + k)) s = some (r, s') ∧ ((okS B N k (tnx B N p) ∧ r = 1 ∧ rkC B N false (nS B N k (tnx B N p)) s' ∧ zI s' (S + 6) k = zi (vS B N k (tnx B N p))) ∨ (¬ okS B N k (tnx B N p) ∧ r = 0 ∧ flC (fS B N k (tnx B N p)) (lS B N k (tnx B N p)) s')) ∧ zI s' S 3 = zn (tb ||| 2 ^ k) ∧ zOf (fun o j => gPC o j ∨ (o = S ∧ j = 3) ∨ (o = S + 6 ∧ j = k)) s s' := by
  obtain ⟨⟨-, S1, S2⟩, ⟨-, t2, -⟩, ⟨n6, -⟩⟩ := hS.c3
  obtain ⟨z1, z2, z3, z4⟩ := z256 ⟨k, hk⟩
  dsimp only at z1 z2 z3 z4
  have sl : (1 : Int32) <<< (zn k &&& 31) = zn (2 ^ k) := zn_shl ⟨k, by omega⟩
  have nb : ¬ zn (tb.testBit k).toNat = 1 := by rw [hb]; decide
  have g11 : ¬ 11 ≤ k := by omega
  have e1 : zOf (fun o j => o = S ∧ j = 3) s (zsI s S 3 (zn (tb ||| 2 ^ k))) := zOf.rf.sI ⟨rfl, rfl⟩
  obtain ⟨s1, a1, a2, a3⟩ := advC (h.of e1 (fun o j hw => by unfold gRdC; omega))
  have f1 : zOf (fun o j => gPC o j ∨ (o = S ∧ j = 3) ∨ (o = S + 6 ∧ j = k)) s s1 := (e1.mono (fun o j hw => Or.inr (Or.inl hw))).tr (a3.mono (fun o j hw => Or.inl hw))
  have t3 : zI s1 S 3 = zn (tb ||| 2 ^ k) := by rw [(a3 S 3 (by unfold gPC; omega)).1, zI_sI, if_pos ⟨rfl, rfl⟩]
  -- the end of both roads
  have fin : ∀ (r : Int32) (s2 : zSt), zOf gPC s1 s2 → ((okS B N k (tnx B N p) ∧ r = 1 ∧ rkC B N false (nS B N k (tnx B N p)) s2 ∧ zI s2 3 8 = zi (vS B N k (tnx B N p))) ∨ (¬ okS B N k (tnx B N p) ∧ r = 0 ∧ flC (fS B N k (tnx B N p)) (lS B N k (tnx B N p)) s2)) → ∃ r' s', m_X5_readSetting_88 S 3 (zn (256 + k)) (zn k) r s2 = some (r', s') ∧ ((okS B N k (tnx B N p) ∧ r' = 1 ∧ rkC B N false (nS B N k (tnx B N p)) s' ∧ zI s' (S + 6) k = zi (vS B N k (tnx B N p))) ∨ (¬ okS B N k (tnx B N p) ∧ r' = 0 ∧ flC (fS B N k (tnx B N p)) (lS B N k (tnx B N p)) s')) ∧ zI s' S 3 = zn (tb ||| 2 ^ k) ∧ zOf (fun o j => gPC o j ∨ (o = S ∧ j = 3) ∨ (o = S + 6 ∧ j = k)) s s' := by
    intro r s2 o2 hh
    have f2 := f1.tr (o2.mono (fun o j hw => Or.inl hw : ∀ o j, gPC o j → gPC o j ∨ (o = S ∧ j = 3) ∨ (o = S + 6 ∧ j = k)))
    have t32 : zI s2 S 3 = zn (tb ||| 2 ^ k) := (o2 S 3 (by unfold gPC; omega)).1.trans t3
    rcases hh with ⟨x1, x2, x3, x4⟩ | ⟨x1, x2, x3⟩
    · have e4 : zOf (fun o j => o = S + 6 ∧ j = k) s2 (zsI s2 (S + 6) k (zi (vS B N k (tnx B N p)))) := zOf.rf.sI ⟨rfl, rfl⟩
      refine ⟨1, zsI s2 (S + 6) k (zi (vS B N k (tnx B N p))), ?_, Or.inl ⟨x1, rfl, x3.of e4 (fun o j hw => by unfold gRdC; omega), by rw [zI_sI, if_pos ⟨rfl, rfl⟩]⟩, (e4 S 3 (by omega)).1.trans t32, f2.tr (e4.mono (fun o j hw => Or.inr (Or.inr hw)))⟩
      simp only [m_X5_readSetting_88, x2, show ¬ (1 : Int32) = 0 by decide, if_false, t2, n6, z2, z4, g11, or_self, zlt_eq, x4, or_true, if_true]
    · refine ⟨0, s2, ?_, Or.inr ⟨x1, rfl, x3⟩, t32, f2⟩
      simp only [m_X5_readSetting_88, x2, if_true, true_or]
  by_cases h7 : 7 ≤ k
  · obtain ⟨q1, q2, q3⟩ := tab_hi ⟨k, hk⟩ h7
    dsimp only at q1 q2 q3
    obtain ⟨r, s2, b1, b2, b3⟩ := signedC a2 (b := 999) (by omega)
    have hh : (okS B N k (tnx B N p) ∧ r = 1 ∧ rkC B N false (nS B N k (tnx B N p)) s2 ∧ zI s2 3 8 = zi (vS B N k (tnx B N p))) ∨ (¬ okS B N k (tnx B N p) ∧ r = 0 ∧ flC (fS B N k (tnx B N p)) (lS B N k (tnx B N p)) s2) := by
      unfold okS nS vS fS lS
      simp only [h7, if_true]
      exact b2
    obtain ⟨r', s', c1, c2, c3', c4⟩ := fin r s2 b3 hh
    refine ⟨r', s', ?_, c2, c3', c4⟩
    simp only [m_X5_readSetting, z1, z2, if_false, z3, if_true, c3, zn_shr (show tb < 2147483648 by omega) (show k < 32 by omega), nb, sl, zn_or, zlt_eq, a1, zcv_some, z4, g11, or_self, q3]
    rw [q1, q2, b1, zcl_some]
    exact c1
  · obtain ⟨q1, q2, q3⟩ := tab_lo ⟨k, by omega⟩
    dsimp only at q1 q2 q3
    obtain ⟨r, s2, b1, b2, b3⟩ := takeNumC a2 (a := Lk k) (b := Mk k) (by unfold Lk; split; omega; split <;> omega) (by unfold Mk; split; omega; split <;> omega)
    have hh : (okS B N k (tnx B N p) ∧ r = 1 ∧ rkC B N false (nS B N k (tnx B N p)) s2 ∧ zI s2 3 8 = zi (vS B N k (tnx B N p))) ∨ (¬ okS B N k (tnx B N p) ∧ r = 0 ∧ flC (fS B N k (tnx B N p)) (lS B N k (tnx B N p)) s2) := by
      unfold okS nS vS fS lS
      simp only [h7, if_false]
      rcases b2 with ⟨x1, x2, x3, x4⟩ | x
      · exact Or.inl ⟨x1, x2, x3, by rw [x4, zn_zi (by have := x1.2.2; unfold Mk at this; split at this; omega; split at this <;> omega)]⟩
      · exact Or.inr x
    obtain ⟨r', s', c1, c2, c3', c4⟩ := fin r s2 b3 hh
    refine ⟨r', s', ?_, c2, c3', c4⟩
    simp only [m_X5_readSetting, z1, z2, if_false, z3, if_true, c3, zn_shr (show tb < 2147483648 by omega) (show k < 32 by omega), nb, sl, zn_or, zlt_eq, a1, zcv_some, z4, g11, or_self, q3]
    rw [q1, q2, b1, zcl_some]
    exact c1
theorem setM {B : Nat → Nat} {N p : Nat} {t : zSt} (h : rkM B N false p t) (hk1 : tkd B N false p ≠ 1) {k : Nat} (hk : k < 11) (hk12 : k ≠ 1 ∧ k ≠ 2) : ∃ t', m_X9_readTold 64 (zn k) t = m_X9_readTold_73 64 (zn k) t' ∧ ((okS B N k (tnx B N p) ∧ rkM B N false (nS B N k (tnx B N p)) t' ∧ zI t' 66 k = zi (vS B N k (tnx B N p))) ∨ (¬ okS B N k (tnx B N p) ∧ flM (fS B N k (tnx B N p)) (lS B N k (tnx B N p)) t')) ∧ zI t' 70 k = 1 ∧ zOf (fun o j => gPM o j ∨ (o = 70 ∧ j = k) ∨ (o = 66 ∧ j = k)) t t' := by
  obtain ⟨z1, z2, z3, z4⟩ := z256 ⟨k, hk⟩
  dsimp only at z1 z2 z3 z4
  have g11 : ¬ 11 ≤ k := by omega
  have b1' : vp_nar .boolean 1 = (1 : Int32) := rfl
  have e1 : zOf (fun o j => o = 70 ∧ j = k) t (zsI t 70 k 1) := zOf.rf.sI ⟨rfl, rfl⟩
  obtain ⟨t1, a1, a2, a3⟩ := tokM (h.of e1 (fun o j hw => by unfold gRdM; omega)) hk1
  have f1 : zOf (fun o j => gPM o j ∨ (o = 70 ∧ j = k) ∨ (o = 66 ∧ j = k)) t t1 := (e1.mono (fun o j hw => Or.inr (Or.inl hw))).tr (a3.mono (fun o j hw => Or.inl hw))
  have t70 : zI t1 70 k = 1 := by rw [(a3 70 k (by unfold gPM; omega)).1, zI_sI, if_pos ⟨rfl, rfl⟩]
  have l7 : zn k < 7 ↔ k < 7 := zn_lt (b := 7) (by omega) (by omega)
  have e3 : zn k = 3 ↔ k = 3 := zn_inj (b := 3) (by omega) (by omega)
  have e5 : zn k = 5 ↔ k = 5 := zn_inj (b := 5) (by omega) (by omega)
  have fin : ∀ (v : Int32) (t2 : zSt), zOf gPM t1 t2 → ((okS B N k (tnx B N p) ∧ rkM B N false (nS B N k (tnx B N p)) t2 ∧ v = zi (vS B N k (tnx B N p))) ∨ (¬ okS B N k (tnx B N p) ∧ flM (fS B N k (tnx B N p)) (lS B N k (tnx B N p)) t2)) → ∃ t', zsI t2 66 k v = t' ∧ ((okS B N k (tnx B N p) ∧ rkM B N false (nS B N k (tnx B N p)) t' ∧ zI t' 66 k = zi (vS B N k (tnx B N p))) ∨ (¬ okS B N k (tnx B N p) ∧ flM (fS B N k (tnx B N p)) (lS B N k (tnx B N p)) t')) ∧ zI t' 70 k = 1 ∧ zOf (fun o j => gPM o j ∨ (o = 70 ∧ j = k) ∨ (o = 66 ∧ j = k)) t t' := by
    intro v t2 o2 hh
    have e4 : zOf (fun o j => o = 66 ∧ j = k) t2 (zsI t2 66 k v) := zOf.rf.sI ⟨rfl, rfl⟩
    refine ⟨zsI t2 66 k v, rfl, ?_, ?_, (f1.tr (o2.mono (fun o j hw => Or.inl hw))).tr (e4.mono (fun o j hw => Or.inr (Or.inr hw)))⟩
    · rcases hh with ⟨x1, x2, x3⟩ | ⟨x1, x2⟩
      · exact Or.inl ⟨x1, x2.of e4 (fun o j hw => by unfold gRdM; omega), by rw [zI_sI, if_pos ⟨rfl, rfl⟩, x3]⟩
      · exact Or.inr ⟨x1, (e4 64 2 (by omega)).1.trans x2.1, (e4 64 3 (by omega)).1.trans x2.2⟩
    · rw [(e4 70 k (by omega)).1, (o2 70 k (by unfold gPM; omega)).1]; exact t70
  by_cases h7 : 7 ≤ k
  · obtain ⟨v, t2, b1, b2, b3⟩ := signedM a2 (b := 999) (by omega)
    have B1 : m_X9_signed 64 (-999) 999 t1 = some (v, t2) := b1
    have hh : (okS B N k (tnx B N p) ∧ rkM B N false (nS B N k (tnx B N p)) t2 ∧ v = zi (vS B N k (tnx B N p))) ∨ (¬ okS B N k (tnx B N p) ∧ flM (fS B N k (tnx B N p)) (lS B N k (tnx B N p)) t2) := by
      unfold okS nS vS fS lS
      simp only [h7, if_true]
      exact b2
    obtain ⟨t', c1, c2, c3, c4⟩ := fin v t2 b3 hh
    refine ⟨t', ?_, c2, c3, c4⟩
    simp only [m_X9_readTold, zT_64_15, zT_64_11, zN_70, zN_66, z2, z4, g11, or_self, if_false, b1', zlt_eq, a1, zcv_some, l7, show ¬ k < 7 by omega, B1, zcl_some, c1]
  · obtain ⟨v, t2, b1, b2, b3⟩ := toldNumM a2 (a := Lk k) (b := Mk k) (by unfold Lk; split; omega; split <;> omega) (by unfold Mk; split; omega; split <;> omega)
    have hh : (okS B N k (tnx B N p) ∧ rkM B N false (nS B N k (tnx B N p)) t2 ∧ v = zi (vS B N k (tnx B N p))) ∨ (¬ okS B N k (tnx B N p) ∧ flM (fS B N k (tnx B N p)) (lS B N k (tnx B N p)) t2) := by
      unfold okS nS vS fS lS
      simp only [h7, if_false]
      rcases b2 with ⟨x1, x2, x3⟩ | x
      · exact Or.inl ⟨x1, x2, by rw [x3, zn_zi (by have := x1.2.2; unfold Mk at this; split at this; omega; split at this <;> omega)]⟩
      · exact Or.inr x
    obtain ⟨t', c1, c2, c3, c4⟩ := fin v t2 b3 hh
    refine ⟨t', ?_, c2, c3, c4⟩
    have red : m_X9_readTold 64 (zn k) t = zcl (m_X9_toldNumber 64 (zn (Lk k)) (zn (Mk k)) t1) (fun r4 s3 => zlt (zsI s3 66 k r4) (fun s5 => m_X9_readTold_73 64 (zn k) s5)) := by
      simp only [m_X9_readTold, m_X9_readTold_52, m_X9_readTold_57, m_X9_readTold_69, zT_64_15, zT_64_11, zN_70, zN_66, z2, z4, g11, or_self, if_false, b1', zlt_eq, a1, zcv_some, l7, show k < 7 by omega, if_true, e3, e5]
      by_cases x3 : k = 3
      · subst x3; rfl
      by_cases x5 : k = 5
      · subst x5; rfl
      have y1 : Lk k = 1 := by unfold Lk; rw [if_neg (by omega), if_neg (by omega)]
      have y2 : Mk k = 99 := by unfold Mk; rw [if_neg (by omega), if_neg (by omega)]
      rw [if_neg x3, if_neg x5, if_neg x5, y1, y2]
      rfl
    rw [red, b1, zcl_some, zlt_eq, c1]
