def lab (H n : Nat) (s : zSt) (p : Nat → Nat) : Prop := ∀ i, i < n → zI s (H + 6) i = zn (p i)
theorem join_lp {H : Nat} (hH : isH H) {n : Nat} (hn : n ≤ 12) {fr to : Nat} (hfr : fr < 12) (hto : to < 12) : ∀ (d i f : Nat) (s : zSt) (p : Nat → Nat), i + d = n → d < f → zI s H 0 = zn n → (∀ k, k < n → p k < 12) → lab H n s p → ∃ s', lp_X2_join_2 H (zn fr) (zn to) f (zn i) s = some s' ∧ lab H n s' (fun k => if k < i then p k else pj p fr to k) ∧ zOf (fun o _ => o = H + 6) s s' := by
  obtain ⟨-, ⟨-, -, -, -, -, t6⟩, ⟨-, -, -, -, -, n6⟩⟩ := hH.c
  intro d
  induction d with
  | zero =>
    intro i f s p hi hf c0 hp hl
    obtain ⟨f, rfl⟩ : ∃ g, f = g + 1 := ⟨f - 1, by omega⟩
    have : ¬ zn i < zn n := by rw [zn_lt (by omega) (by omega)]; omega
    refine ⟨s, ?_, fun k hk => by dsimp only; rw [if_pos (by omega)]; exact hl k hk, zOf.rf⟩
    simp only [lp_X2_join_2, bd_X2_join_2, c0, this, if_false]
  | succ d ih =>
    intro i f s p hi hf c0 hp hl
    obtain ⟨f, rfl⟩ : ∃ g, f = g + 1 := ⟨f - 1, by omega⟩
    have h1 : zn i < zn n := by rw [zn_lt (by omega) (by omega)]; omega
    have h2 : ¬ zn i < 0 := zn_neg (by omega)
    have h3 : (zn i).toNatClampNeg = i := zn_cl (by omega)
    have h4 : ¬ 12 ≤ i := by omega
    have hpi := hp i (by omega)
    have e : zn (p i) = zn fr ↔ p i = fr := zn_inj (by omega) (by omega)
    simp only [lp_X2_join_2, bd_X2_join_2, m_X2_join_27, c0, h1, if_true, t6, n6, h2, h3, h4, or_self, if_false, hl i (by omega), e, zlt_eq, zn_succ]
    by_cases hc : p i = fr
    · rw [if_pos hc]
      obtain ⟨s', g1, g2, g3⟩ := ih (i + 1) f (zsI s (H + 6) i (zn to)) (fun k => if k = i then to else p k) (by omega) (by omega) (by rw [zI_sI, if_neg (by omega)]; exact c0) (fun k hk => by
        split
        · exact hto
        · exact hp k hk) (fun k hk => by
        rw [zI_sI]
        by_cases hki : k = i
        · rw [if_pos ⟨rfl, hki⟩]; simp [hki]
        · rw [if_neg (fun h => hki h.2)]; simp [hki]; exact hl k hk)
      refine ⟨s', g1, fun k hk => ?_, (zOf.rf.sI (by rfl)).tr g3⟩
      rw [g2 k hk]
      congr 1
      dsimp only
      by_cases hki : k = i
      · subst hki
        rw [if_pos (by omega), if_pos rfl, if_neg (by omega)]
        unfold pj; rw [if_pos hc]
      · by_cases hlt : k < i
        · rw [if_pos (by omega), if_neg hki, if_pos hlt]
        · rw [if_neg (by omega), if_neg hlt]
          unfold pj
          simp only [hki, if_false]
    · rw [if_neg hc]
      obtain ⟨s', g1, g2, g3⟩ := ih (i + 1) f s p (by omega) (by omega) c0 hp hl
      refine ⟨s', g1, fun k hk => ?_, g3⟩
      rw [g2 k hk]
      congr 1
      dsimp only
      by_cases hki : k = i
      · subst hki
        rw [if_pos (by omega), if_neg (by omega)]
        unfold pj; rw [if_neg hc]
      · by_cases hlt : k < i
        · rw [if_pos (by omega), if_pos hlt]
        · rw [if_neg (by omega), if_neg hlt]
theorem join_eq {H : Nat} (hH : isH H) {n : Nat} (hn : n ≤ 12) {fr to : Nat} (hfr : fr < 12) (hto : to < 12) {s : zSt} {p : Nat → Nat} (c0 : zI s H 0 = zn n) (hp : ∀ k, k < n → p k < 12) (hl : lab H n s p) : ∃ s', m_X2_join H (zn fr) (zn to) s = some s' ∧ lab H n s' (pj p fr to) ∧ zOf (fun o _ => o = H + 6) s s' := by
  obtain ⟨s', g1, g2, g3⟩ := join_lp hH hn hfr hto n 0 zFuel s p (by omega) (by unfold zFuel; omega) c0 hp hl
  refine ⟨s', g1, fun k hk => ?_, g3⟩
  rw [g2 k hk]
  dsimp only
  rw [if_neg (by omega)]
