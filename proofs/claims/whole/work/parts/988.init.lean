/-! the start -/
def zgo (o : Nat) : Nat → Nat → Int64 → Nat → zSt → zSt
  | 0, _, _, _, σ => σ
  | d + 1, i, c, n, σ => if zby i = 32 then zgo o d (i + 1) 0 (n + 1) (zsL σ o n c) else zgo o d (i + 1) (c * 27 + (zby i - 97 + 1).toInt64) n σ
theorem zgo_eq (o : Nat) (σ : zSt) : ∀ d i, zgo o d i (zwd o σ i).1 (zwd o σ i).2.1 (zwd o σ i).2.2 = (zwd o σ (i + d)).2.2 := by
  intro d
  induction d with
  | zero => intro i; rfl
  | succ d ih =>
    intro i
    have h := ih (i + 1)
    rw [show i + (d + 1) = i + 1 + d by omega, ← h]
    show (if zby i = 32 then _ else _) = _
    rw [zwd]
    by_cases hb : zby i = 32
    · rw [if_pos hb, if_pos hb]
    · rw [if_neg hb, if_neg hb]
theorem zwd_go (o : Nat) (σ : zSt) : (zwd o σ 106).2.2 = zgo o 106 0 0 0 σ := (zgo_eq o σ 106 0).symm
theorem zgo_I (o : Nat) : ∀ (d i : Nat) (c : Int64) (n : Nat) (σ : zSt) (o' k : Nat), zI (zgo o d i c n σ) o' k = zI σ o' k ∧ zR (zgo o d i c n σ) o' k = zR σ o' k := by
  intro d
  induction d with
  | zero => intro i c n σ o' k; exact ⟨rfl, rfl⟩
  | succ d ih =>
    intro i c n σ o' k
    unfold zgo
    split
    · have := ih (i + 1) 0 (n + 1) (zsL σ o n c) o' k
      rw [zI_sL, zR_sL] at this
      exact this
    · exact ih (i + 1) _ n σ o' k
theorem kw_go : ∀ i : Fin 20, zL (zgo 4 106 0 0 0 z00) 4 i.val = zq (c27 (kw i.val) : Int) := by decide +kernel
theorem zgo_L (o : Nat) : ∀ (d i : Nat) (c : Int64) (n : Nat) (σ σ' : zSt), (∀ a b, zL σ a b = zL σ' a b) → ∀ a b, zL (zgo o d i c n σ) a b = zL (zgo o d i c n σ') a b := by
  intro d
  induction d with
  | zero => intro i c n σ σ' h; exact h
  | succ d ih =>
    intro i c n σ σ' h
    unfold zgo
    split
    · refine ih (i + 1) 0 (n + 1) _ _ (fun a b => ?_)
      rw [zL_sL, zL_sL, h]
    · exact ih (i + 1) _ n σ σ' h
theorem pn_lp : ∀ (d i f : Nat) (t : zSt), i + d = 11 → d < f → (∀ k, k < i → zI t 67 k = ztabU k) → ∃ t', lp_X9_plain_2 64 f (zn i) t = some t' ∧ (∀ k, k < 11 → zI t' 67 k = ztabU k) ∧ zOf (fun o _ => o = 67) t t' := by
  intro d
  induction d with
  | zero =>
    intro i f t hi hf hk
    obtain ⟨f, rfl⟩ : ∃ g, f = g + 1 := ⟨f - 1, by omega⟩
    have hi2 : i = 11 := by omega
    subst hi2
    have h1 : ¬ zn 11 < 11 := by decide
    exact ⟨t, by simp only [lp_X9_plain_2, bd_X9_plain_2, h1, if_false], hk, zOf.rf⟩
  | succ d ih =>
    intro i f t hi hf hk
    obtain ⟨f, rfl⟩ : ∃ g, f = g + 1 := ⟨f - 1, by omega⟩
    have h1 : zn i < 11 := (zn_lt (b := 11) (by omega) (by omega)).2 (by omega)
    have h2 : ¬ zn i < 0 := zn_neg (by omega)
    have h3 : (zn i).toNatClampNeg = i := zn_cl (by omega)
    have h4 : ¬ 11 ≤ i := by omega
    have pv := plain_v ⟨i, by omega⟩ t
    dsimp only at pv
    have e : zOf (fun o k => o = 67 ∧ k = i) t (zsI t 67 i (ztabU i)) := zOf.rf.sI ⟨rfl, rfl⟩
    obtain ⟨t', a1, a2, a3⟩ := ih (i + 1) f (zsI t 67 i (ztabU i)) (by omega) (by omega) (fun k hk1 => by
      by_cases hki : k = i
      · rw [hki, zI_sI, if_pos ⟨rfl, rfl⟩]
      · rw [(e 67 k (by omega)).1]; exact hk k (by omega))
    refine ⟨t', ?_, a2, (e.mono (fun o k h => h.1)).tr a3⟩
    simp only [lp_X9_plain_2, bd_X9_plain_2, h1, if_true, pv, zcl_some, zT_64_12, zN_67, h2, h3, h4, or_self, if_false, zlt_eq, zn_succ]
    exact a1
theorem zg9_L (k : Nat) : zL zg9 4 k = zL (zgo 4 106 0 0 0 z00) 4 k := by
  have h1 : zL zg9 4 k = zL (zwd 4 (zsI (zsI (zsI z00 1 1 0) 3 10 0) 3 11 (-1)) 106).2.2 4 k := by
    unfold zg9 zg8
    simp only [zL_sI, zL_sR, zL_sL, show ¬ ((4 : Nat) = 59) by decide, false_and, if_false]
    rfl
  rw [h1, zwd_go]
  exact zgo_L 4 106 0 0 0 _ _ (fun a b => by simp only [zL_sI]) 4 k
def zgb : zSt := zsI (zsI (zsI z00 1 1 0) 3 10 0) 3 11 (-1)
def zg9' : zSt := zsI (zsI (zsL (zsI (zsI (zsR (zsI (zsI (zsI (zsR (zsI (zsI (zsI (zsR (zsI (zsR (zsI (zsR (zsI (zcpU (zsI (zsI (zsI (zsI (zsI (zsR (zsI (zcpU (zsI (zsI (zsI (zsI (zsI zgb 5 0 0) 6 0 0) 6 1 0) 6 6 0) 6 7 0) 11) 5 3 0) 0 2 5) 12 0 0) 13 0 0) 13 1 0) 13 6 0) 13 7 0) 18) 12 3 0) 0 3 12) 19 0 0) 0 4 19) 26 0 0) 0 5 26) 33 0 0) 33 1 0) 33 11 0) 0 6 33) 43 0 0) 43 1 0) 43 11 0) 0 7 43) 53 0 0) 53 1 0) 59 1 0) 59 2 0) 64 3 (-1)
theorem zg9_I (o k : Nat) : zI zg9 o k = zI zg9' o k ∧ zR zg9 o k = zR zg9' o k := by
  have hb : ∀ o k, zI (zwd 4 (zsI (zsI (zsI z00 1 1 0) 3 10 0) 3 11 (-1)) 106).2.2 o k = zI zgb o k ∧ zR (zwd 4 (zsI (zsI (zsI z00 1 1 0) 3 10 0) 3 11 (-1)) 106).2.2 o k = zR zgb o k := fun o k => by
    rw [zwd_go]; exact zgo_I 4 106 0 0 0 _ o k
  have cR : ∀ (s : zSt) (x o k : Nat), zR (zcpU s x) o k = zR s o k := fun _ _ _ _ => rfl
  constructor
  · unfold zg9 zg8 zg9'
    simp only [zI_sI, zI_sL, zI_sR, zI_cp, (hb _ _).1]
  · unfold zg9 zg8 zg9'
    simp only [zR_sI, zR_sL, zR_sR, cR, (hb _ _).2]
theorem zg9_0 : zR zg9' 0 2 = 5 ∧ zR zg9' 0 3 = 12 ∧ zR zg9' 0 4 = 19 ∧ zR zg9' 0 5 = 26 ∧ zR zg9' 0 6 = 33 ∧ zR zg9' 0 7 = 43 ∧ zI zg9' 1 1 = 0 ∧ zI zg9' 64 1 = 0 ∧ zI zg9' 3 10 = 0 ∧ zI zg9' 64 2 = 0 ∧ zI zg9' 3 11 = -1 ∧ zI zg9' 64 3 = -1 ∧ zI zg9' 53 0 = 0 ∧ zI zg9' 64 30 = 0 ∧ zI zg9' 53 1 = 0 ∧ zI zg9' 64 31 = 0 ∧ zI zg9' 6 0 = 0 ∧ zI zg9' 6 1 = 0 ∧ zI zg9' 6 6 = 0 ∧ zI zg9' 6 7 = 0 ∧ zI zg9' 64 21 = 0 ∧ zI zg9' 64 22 = 0 ∧ zI zg9' 10 0 = 0 ∧ zI zg9' 19 0 = 0 ∧ zI zg9' 64 49 = 0 ∧ zI zg9' 33 0 = 0 ∧ zI zg9' 64 66 = 0 ∧ zI zg9' 33 1 = 0 ∧ zI zg9' 64 65 = 0 := by decide +kernel
theorem zg9_s : ∀ k : Fin 11, zI zg9' 11 k.val = ztabU k.val := by decide +kernel
theorem zg9_o : ∀ k : Fin 13, zI zg9' 63 k.val = 0 := by decide +kernel
theorem start_all : ∃ σ1 : zSt, m_X9_plain 64 zg9 = some σ1 ∧ iAll σ1 := by
  obtain ⟨t, a1, a2, a3⟩ := pn_lp 11 0 zFuel zg9 (by omega) (by unfold zFuel; omega) (fun k hk => by omega)
  refine ⟨t, a1, ?_⟩
  have fI : ∀ o k, o ≠ 67 → zI t o k = zI zg9' o k := fun o k h => (a3 o k h).1.trans (zg9_I o k).1
  have fR : ∀ o k, o ≠ 67 → zR t o k = zR zg9' o k := fun o k h => (a3 o k h).2.2.trans (zg9_I o k).2
  obtain ⟨q1, q2, q3, q4, q5, q6, q7, q8, q9, q10, q11, q12, q13, q14, q15, q16, q17, q18, q19, q20, q21, q22, q23, q24, q25, q26, q27, q28, q29⟩ := zg9_0
  refine ⟨5, 12, 19, 26, 33, 43, ⟨⟨Or.inl rfl, Or.inr rfl, by omega, (fR 0 2 (by omega)).trans q1, (fR 0 3 (by omega)).trans q2⟩, ⟨Or.inl rfl, Or.inr rfl, by omega, (fR 0 4 (by omega)).trans q3, (fR 0 5 (by omega)).trans q4⟩, ⟨Or.inl rfl, Or.inr rfl, by omega, (fR 0 6 (by omega)).trans q5, (fR 0 7 (by omega)).trans q6⟩⟩, rTape_0 ((fI 1 1 (by omega)).trans q7) ((fI 64 1 (by omega)).trans q8), ⟨?_, ?_⟩, fun i hi => ?_, ⟨0, 0, ⟨by omega, by omega⟩, ⟨(fI 53 0 (by omega)).trans q13, (fI 64 30 (by omega)).trans q14⟩, ⟨(fI 53 1 (by omega)).trans q15, (fI 64 31 (by omega)).trans q16⟩, fun k hk => by omega⟩, ⟨⟨fun k hk => ?_, ?_⟩, 0, 0, 0, 0, fun _ => 0, ⟨(fI 6 0 (by omega)).trans q17, (fI 6 1 (by omega)).trans q18, (fI 6 6 (by omega)).trans q19, (fI 6 7 (by omega)).trans q20, fun k hk => by omega⟩, ⟨(fI 64 21 (by omega)).trans q21, (fI 64 22 (by omega)).trans q22, fun k hk => by omega, fun k hk => by omega⟩, ⟨by omega, by omega, by omega, by omega, fun k hk => by omega⟩, fun x hx => ?_⟩, fun n h1 h2 h3 => Or.inl ?_, ⟨0, fun _ => 0, fun _ => 0, fun _ _ => true, ⟨(fI 19 0 (by omega)).trans q24, fun k hk => by omega⟩, ⟨(fI 64 49 (by omega)).trans q25, fun k hk => by omega⟩, ⟨by omega, fun k hk => by omega⟩, fun a b ha => by omega, fun a b ha => by omega, fun _ _ => rfl⟩, ⟨0, fun _ => 0, fun _ => 0, fun _ => 0, fun _ => 0, ⟨by omega, fun l hl => by omega⟩, ⟨(fI 33 0 (by omega)).trans q26, fun l hl => by omega, fun l hl => by omega⟩, fun l hl => by omega, ⟨(fI 64 66 (by omega)).trans q27, fun l hl => by omega, fun l hl => by omega⟩, ?_⟩⟩
  · rw [fI 3 10 (by omega), fI 64 2 (by omega), q9, q10]
  · rw [fI 3 11 (by omega), fI 64 3 (by omega), q11, q12]
  · rw [(a3 4 i (by omega)).2.1, zg9_L i]; exact kw_go ⟨i, hi⟩
  · show zI t 11 k = zI t 67 k
    rw [fI 11 k (by omega), a2 k hk]; exact zg9_s ⟨k, hk⟩
  · refine okSet_congr okSet_pl (fun k hk => ?_)
    unfold zset plU
    rw [a2 k hk]
  · have x0 : x = 0 := by simpa using hx
    subst x0
    show zI t 10 0 = _
    rw [fI 10 0 (by omega), q23]
    rfl
  · rw [fI 63 n (by omega)]; exact zg9_o ⟨n, by omega⟩
  · show zI t 33 1 = zI t 64 65
    rw [fI 33 1 (by omega), fI 64 65 (by omega), q28, q29]
theorem hpure : ∃ σ1 : zSt, m_X9_plain 64 zg9 = some σ1 ∧ ∀ (L : Nat) (xv : Nat → Int32), L ≤ 3072 → ∃ σe : zSt, lp_L_law_18 L xv zFuel 0 σ1 = some (1, σe) := by
  obtain ⟨σ1, h1, h2⟩ := start_all
  exact ⟨σ1, h1, fun L xv hL => law_lp hL xv L 0 zFuel σ1 (by omega) (by unfold zFuel; omega) (by omega) h2⟩
