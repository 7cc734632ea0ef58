def rBo (n b : Nat) (l2 : Int32) (t : zSt) : Prop := (b = 0 ∧ l2 = -1) ∨ (b ≠ 0 ∧ l2 = zn b ∧ zL t 82 0 = zq ((ow1 b n).natAbs : Nat) ∧ zL t 82 1 = zq ((ow2 b n).natAbs : Nat) ∧ zL t 82 2 = zq ((ow3 b n).natAbs : Nat))
def gBo (o _ : Nat) : Prop := o = 82 ∨ o = 83
theorem bo_model {n : Nat} (hn : n ≤ 12) : ∀ (d row f b : Nat) (l2 : Int32) (t : zSt), 1 ≤ row → row + 2 * d = 2 ^ n + 1 → d < f → rBo n b l2 t → b < 4096 → ∃ t' : zSt, lp_X9_order_23 64 (zn n) f l2 (zn row) t = some (if boF n d row b = 0 then -1 else zn (boF n d row b), t') ∧ zOf gBo t t' := by
  have h12 : 2 ^ n ≤ 4096 := pow_le (n := 12) hn
  have sl : (1 : Int32) <<< (zn n &&& 31) = zn (2 ^ n) := zn_shl ⟨n, by omega⟩
  intro d
  induction d with
  | zero =>
    intro row f b l2 t h1 hr hf hb hbl
    obtain ⟨f, rfl⟩ : ∃ g, f = g + 1 := ⟨f - 1, by omega⟩
    have : ¬ zn row < zn (2 ^ n) := by rw [zn_lt (by omega) (by omega)]; omega
    refine ⟨t, ?_, zOf.rf⟩
    have eb : boF n 0 row b = b := rfl
    rw [eb]
    simp only [lp_X9_order_23, bd_X9_order_23, sl, this, if_false]
    rcases hb with ⟨x, y⟩ | ⟨x, y, -⟩
    · rw [if_pos x, y]
    · rw [if_neg x, y]
  | succ d ih =>
    intro row f b l2 t h0 hr hf hb hbl
    obtain ⟨f, rfl⟩ : ∃ g, f = g + 1 := ⟨f - 1, by omega⟩
    have h1 : zn row < zn (2 ^ n) := by rw [zn_lt (by omega) (by omega)]; omega
    have hp := pc_le row
    have go : ∀ (b' : Nat) (l2' : Int32) (t1 : zSt), zOf gBo t t1 → rBo n b' l2' t1 → b' < 4096 → b' = (if pc row * 2 = n ∧ (b = 0 ∨ owt row n < owt b n) then row else b) → ∃ t' : zSt, lp_X9_order_23 64 (zn n) f l2' (zn (row + 2)) t1 = some (if boF n (d + 1) row b = 0 then -1 else zn (boF n (d + 1) row b), t') ∧ zOf gBo t t' := by
      intro b' l2' t1 hof hb' hl' he
      obtain ⟨t', e1, e2⟩ := ih (row + 2) f b' l2' t1 (by omega) (by omega) (by omega) hb' hl'
      refine ⟨t', ?_, hof.tr e2⟩
      rw [e1]
      show _ = some (if boF n d (row + 2) (if pc row * 2 = n ∧ (b = 0 ∨ owt row n < owt b n) then row else b) = 0 then -1 else zn (boF n d (row + 2) (if pc row * 2 = n ∧ (b = 0 ∨ owt row n < owt b n) then row else b)), t')
      rw [← he]
    simp only [lp_X9_order_23, bd_X9_order_23, m_X9_order_94, m_X9_order_63, sl, h1, if_true, ones_eq (show row < 2147483648 by omega), zcl_some, zn_t2 hp hn]
    by_cases h2 : pc row * 2 = n
    rotate_left
    · rw [if_neg h2, zn_p2]
      exact go b l2 t zOf.rf hb hbl (by rw [if_neg (fun h => h2 h.1)])
    rw [if_pos h2]
    obtain ⟨t1, w1, w2, w3, w4, w5⟩ := weigh_eq (row := row) (by omega) hn t
    rw [w1, zcv_some]
    have o1 : zOf gBo t t1 := w5.mono (fun o k h => Or.inr h)
    have take : (b = 0 ∨ owt row n < owt b n) → ∃ t' : zSt, lp_X9_order_68 64 (zn n) (fun l2_5 l3_5 s_5 => lp_X9_order_23 64 (zn n) f l2_5 (l3_5 + 2) s_5) zFuel (zn row) (zn row) 0 t1 = some (if boF n (d + 1) row b = 0 then -1 else zn (boF n (d + 1) row b), t') ∧ zOf gBo t t' := by
      intro hc
      have ec : lp_X9_order_68 64 (zn n) (fun l2_5 l3_5 s_5 => lp_X9_order_23 64 (zn n) f l2_5 (l3_5 + 2) s_5) zFuel (zn row) (zn row) 0 t1 = _ := copy_eq 999996 t1
      rw [ec, zn_p2, w2, w3, w4]
      refine go row (zn row) _ (o1.tr (((zOf.rf.sL (Or.inl rfl)).sL (Or.inl rfl)).sL (Or.inl rfl))) (Or.inr ⟨by omega, rfl, by simp [zthree, zI_sI, zI_sL, zI_sR, zL_sI, zL_sL, zL_sR, zR_sI, zR_sL, zR_sR], by simp [zthree, zI_sI, zI_sL, zI_sR, zL_sI, zL_sL, zL_sR, zR_sI, zR_sL, zR_sR], by simp [zthree, zI_sI, zI_sL, zI_sR, zL_sI, zL_sL, zL_sR, zR_sI, zR_sL, zR_sR]⟩) (by omega) (by rw [if_pos ⟨h2, hc⟩])
    rcases hb with ⟨x, y⟩ | ⟨x, y, z1, z2, z3⟩
    · rw [y, if_pos (by decide)]
      exact take (Or.inl x)
    · have hneg : ¬ zn b < 0 := zn_neg (by omega)
      rw [y, if_neg hneg]
      obtain ⟨a1, a2, a3⟩ := ow_le (row := row) hn
      obtain ⟨c1, c2, c3⟩ := ow_le (row := b) hn
      have u0 : zL t1 82 0 = _ := (w5 82 0 (by decide)).2.1.trans z1
      have u1 : zL t1 82 1 = _ := (w5 82 1 (by decide)).2.1.trans z2
      have u2 : zL t1 82 2 = _ := (w5 82 2 (by decide)).2.1.trans z3
      have el : m_X9_isLess 64 t1 = some (if owt row n < owt b n then 1 else 0, t1) := isLess_gen (by omega) (by omega) w2 w3 w4 u0 u1 u2 rfl 999996
      rw [el, zcl_some]
      by_cases h4 : owt row n < owt b n
      · rw [if_pos h4, if_neg (by decide)]
        exact take (Or.inr h4)
      · rw [if_neg h4, if_pos rfl, zn_p2]
        exact go b (zn b) t1 o1 (Or.inr ⟨x, rfl, u0, u1, u2⟩) hbl (by rw [if_neg (fun h => h.2.elim x h4)])
theorem boF_ne {n : Nat} : ∀ (d row b : Nat), b ≠ 0 → row ≠ 0 → boF n d row b ≠ 0 := by
  intro d
  induction d with
  | zero => intro row b hb _; exact hb
  | succ d ih =>
    intro row b hb hr
    refine ih (row + 2) _ ?_ (by omega)
    split
    · exact hr
    · exact hb
theorem boF_hit {n : Nat} : ∀ (j d row b : Nat), row ≠ 0 → j < d → pc (row + 2 * j) * 2 = n → boF n d row b ≠ 0 := by
  intro j
  induction j with
  | zero =>
    intro d row b hr hd hp
    obtain ⟨d, rfl⟩ : ∃ g, d = g + 1 := ⟨d - 1, by omega⟩
    show boF n d (row + 2) (if pc row * 2 = n ∧ (b = 0 ∨ owt row n < owt b n) then row else b) ≠ 0
    refine boF_ne d _ _ ?_ (by omega)
    split
    · exact hr
    · rename_i h
      intro hb
      exact h ⟨hp, Or.inl hb⟩
  | succ j ih =>
    intro d row b hr hd hp
    obtain ⟨d, rfl⟩ : ∃ g, d = g + 1 := ⟨d - 1, by omega⟩
    show boF n d (row + 2) _ ≠ 0
    refine ih d (row + 2) _ (by omega) (by omega) ?_
    rw [← hp]
    congr 2
    omega
def ordOf (n : Nat) : Nat := boF n (2 ^ (n - 1)) 1 0
theorem ord_ne : ∀ n : Nat, 2 ≤ n → n ≤ 12 → n % 2 = 0 → ordOf n ≠ 0 := by
  intro n h1 h2 h3
  have hs : n = 2 ∨ n = 4 ∨ n = 6 ∨ n = 8 ∨ n = 10 ∨ n = 12 := by omega
  rcases hs with rfl | rfl | rfl | rfl | rfl | rfl
  · exact boF_hit 0 _ 1 0 (by decide) (by decide) (by decide)
  · exact boF_hit 1 _ 1 0 (by decide) (by decide) (by decide)
  · exact boF_hit 3 _ 1 0 (by decide) (by decide) (by decide)
  · exact boF_hit 7 _ 1 0 (by decide) (by decide) (by decide)
  · exact boF_hit 15 _ 1 0 (by decide) (by decide) (by decide)
  · exact boF_hit 31 _ 1 0 (by decide) (by decide) (by decide)
def iOrd (σ : zSt) : Prop := ∀ n : Nat, 2 ≤ n → n ≤ 12 → n % 2 = 0 → zI σ 63 n = 0 ∨ zI σ 63 n = zn (ordOf n)
def gOrd (o _ : Nat) : Prop := o = 63 ∨ o = 82 ∨ o = 83
theorem i32_par : ∀ n : Fin 13, ((zn n.val &&& 1 = 0) ↔ n.val % 2 = 0) ∧ ((zn n.val - zn n.val / 2 * 2 = 0) ↔ n.val % 2 = 0) := by decide +kernel
theorem call_order {σ : zSt} (h : iOrd σ) (p1 : Int32) : zCa iOrd gOrd (m_X8_order 0 p1) (m_X9_order 64 p1) σ := by
  by_cases g : 2 ≤ p1 ∧ p1 ≤ 12
  rotate_left
  · refine zCa.mk (r := -1) (σ1 := σ) (σ2 := σ) ?_ ?_ h zOf.rf
    · simp [m_X8_order, within_eq, zcl_some, zcv_some, zlt_eq, g]
    · by_cases q : p1 < 2
      · simp [m_X9_order, q]
      · have q2 : 12 < p1 := by grind
        simp [m_X9_order, q, q2]
  have q1 : ¬ p1 < 2 := by grind
  have q2 : ¬ 12 < p1 := by grind
  have q0 : ¬ p1 < 0 := by grind
  obtain ⟨n, hn, rfl⟩ := zn_of q0
  have n2 : 2 ≤ n := (zn_le (a := 2) (by omega) hn).1 g.1
  have n12 : n ≤ 12 := (zn_le (b := 12) hn (by omega)).1 g.2
  obtain ⟨e1, e2⟩ := i32_par ⟨n, by omega⟩
  simp only at e1 e2
  have cl : (zn n).toNatClampNeg = n := zn_cl hn
  have n13 : ¬ 13 ≤ n := by omega
  by_cases ev : n % 2 = 0
  rotate_left
  · refine zCa.mk (r := -1) (σ1 := σ) (σ2 := σ) ?_ ?_ h zOf.rf
    · simp [m_X8_order, within_eq, zcl_some, zcv_some, zlt_eq, g, e1, ev]
    · simp [m_X9_order, q1, q2, e2, ev]
  have hne := ord_ne n n2 n12 ev
  have hpow : 2 * 2 ^ (n - 1) = 2 ^ n := by
    rw [← Nat.pow_succ']
    congr 1; omega
  have h12 : 2 ^ n ≤ 4096 := pow_le (n := 12) n12
  have hc : m_X8_bestOrder (zn n) σ = some (zn (ordOf n), σ) := bo_class n12 (2 ^ (n - 1)) 1 zFuel 0 0 σ (by omega) (by unfold zFuel; omega) (Or.inl rfl) (by omega)
  have mod : ∀ t : zSt, ∃ t' : zSt, m_X9_order 64 (zn n) t = some (zn (ordOf n), t') ∧ zOf gBo t t' := by
    intro t
    obtain ⟨t', f1, f2⟩ := bo_model n12 (2 ^ (n - 1)) 1 zFuel 0 (-1) t (by omega) (by omega) (by unfold zFuel; omega) (Or.inl ⟨rfl, rfl⟩) (by omega)
    refine ⟨t', ?_, f2⟩
    have f1' : lp_X9_order_23 64 (zn n) zFuel (-1) 1 t = some (if ordOf n = 0 then -1 else zn (ordOf n), t') := f1
    rw [if_neg hne] at f1'
    simp only [m_X9_order, q1, q2, e2, ev, if_true, if_false]
    exact f1'
  have keep : ∀ t' : zSt, ∀ s : zSt, iOrd s → zOf gBo s t' → iOrd t' := fun t' s hs ho m a b c => by
    rw [(ho 63 m (by unfold gBo; omega)).1]
    exact hs m a b c
  have one : ¬ (1 : Int32) = 0 := by decide
  by_cases hz : zI σ 63 n = 0
  · obtain ⟨t', f1, f2⟩ := mod (zsI σ 63 n (zn (ordOf n)))
    refine zCa.mk (r := zn (ordOf n)) (σ1 := zsI σ 63 n (zn (ordOf n))) (σ2 := t') ?_ f1 (keep t' _ ?_ f2) ?_
    · simp only [m_X8_order, m_X8_order_37, within_eq, zcl_some, zcv_some, zlt_eq, g, and_self, if_true, one, if_false, e1, ev, q0, cl, zT_0_10, zN_63, n13, or_self, hz, hc, zI_sI, zI_sL, zI_sR, zL_sI, zL_sL, zL_sR, zR_sI, zR_sL, zR_sR]
    · intro m a b c
      rw [zI_sI]
      by_cases hm : m = n
      · subst hm; right; rw [if_pos ⟨rfl, rfl⟩]
      · rw [if_neg (fun x => hm x.2)]; exact h m a b c
    · exact (zOf.rf.sI (Or.inl rfl)).tr (f2.mono (fun o k x => Or.inr x))
  · obtain ⟨t', f1, f2⟩ := mod σ
    have hv := (h n n2 n12 ev).resolve_left hz
    refine zCa.mk (r := zn (ordOf n)) (σ1 := σ) (σ2 := t') ?_ f1 (keep t' _ h f2) (f2.mono (fun o k x => Or.inr x))
    simp only [m_X8_order, m_X8_order_37, within_eq, zcl_some, zcv_some, zlt_eq, g, and_self, if_true, one, if_false, e1, ev, q0, cl, zT_0_10, zN_63, n13, or_self, hz]
    rw [hv]
