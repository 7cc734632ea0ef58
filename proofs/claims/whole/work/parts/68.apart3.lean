/-- the class's labels -/
def sh2 (s : zSt) (A B n : Nat) (E : Nat → Nat → Bool) : Prop := ∀ a b, a < n → b < n → ((zL s A a = zL s A b ∨ zL s B a = zL s B b) ↔ E a b = true)
def apI (n : Nat) (E : Nat → Nat → Bool) (p : Nat → Nat) (i j : Nat) : Prop := (∀ k, k < n → p k < n) ∧ (∀ x y, y < x → x < n → (x < i ∨ (x = i ∧ y < j)) → E x y = true → p x = p y) ∧ (∀ a b, a < n → b < n → p a = p b → cnn n (fun x y => E x y = true) a b)
theorem zn_m1 (a : Nat) : zn (a + 1) + (-1) = zn a := by
  have h : (-1 : Int32) = 0 - 1 := rfl
  rw [← zn_pred a, h]
  grind
theorem ap_init {H : Nat} (hH : isH H) {n : Nat} (hn : n ≤ 12) {l1 : Int32} {kk : Int32 → zSt → Option (Int32 × zSt)} : ∀ (d i f : Nat) (s : zSt), i + d = n → d < f → zI s H 0 = zn n → (∀ k, k < i → zI s (H + 6) k = zn k) → ∃ s', lp_X2_apart_7 H kk f l1 (zn i) s = kk l1 s' ∧ lab H n s' (fun k => k) ∧ zOf (fun o _ => o = H + 6) s s' := by
  obtain ⟨-, ⟨-, -, -, -, -, t6⟩, ⟨-, -, -, -, -, n6⟩⟩ := hH.c
  intro d
  induction d with
  | zero =>
    intro i f s hi hf c0 hl
    obtain ⟨f, rfl⟩ : ∃ g, f = g + 1 := ⟨f - 1, by omega⟩
    have : ¬ zn i < zn n := by rw [zn_lt (by omega) (by omega)]; omega
    refine ⟨s, ?_, fun k hk => hl k (by omega), zOf.rf⟩
    simp only [lp_X2_apart_7, bd_X2_apart_7, c0, this, if_false]
  | succ d ih =>
    intro i f s hi hf c0 hl
    obtain ⟨f, rfl⟩ : ∃ g, f = g + 1 := ⟨f - 1, by omega⟩
    have h1 : zn i < zn n := by rw [zn_lt (by omega) (by omega)]; omega
    have h2 : ¬ zn i < 0 := zn_neg (by omega)
    have h3 : (zn i).toNatClampNeg = i := zn_cl (by omega)
    have h4 : ¬ 12 ≤ i := by omega
    simp only [lp_X2_apart_7, bd_X2_apart_7, c0, h1, if_true, t6, n6, h2, h3, h4, or_self, if_false, zlt_eq, zn_succ]
    obtain ⟨s', g1, g2, g3⟩ := ih (i + 1) f (zsI s (H + 6) i (zn i)) (by omega) (by omega) (by rw [zI_sI, if_neg (by omega)]; exact c0) (fun k hk => by
        rw [zI_sI]
        by_cases hki : k = i
        · rw [if_pos ⟨rfl, hki⟩, hki]
        · rw [if_neg (fun h => hki h.2)]; exact hl k (by omega))
    exact ⟨s', g1, g2, (zOf.rf.sI (by rfl)).tr g3⟩
theorem sh2.of {s s' : zSt} {A B n : Nat} {E : Nat → Nat → Bool} (h : sh2 s A B n E) (e : ∀ o k, (o = A ∨ o = B) → zL s' o k = zL s o k) : sh2 s' A B n E := fun a b ha hb => by
  rw [e A a (Or.inl rfl), e A b (Or.inl rfl), e B a (Or.inr rfl), e B b (Or.inr rfl)]
  exact h a b ha hb
theorem apI.same {n : Nat} {E : Nat → Nat → Bool} {p : Nat → Nat} {i j : Nat} (h : apI n E p i j) (he : E i j = true → p i = p j) : apI n E p i (j + 1) := by
  obtain ⟨h1, h2, h3⟩ := h
  refine ⟨h1, fun x y hyx hx hs hE => ?_, h3⟩
  by_cases hc : x = i ∧ y = j
  · obtain ⟨rfl, rfl⟩ := hc
    exact he hE
  · exact h2 x y hyx hx (by omega) hE
theorem apI.join {n : Nat} {E : Nat → Nat → Bool} {p : Nat → Nat} {i j : Nat} (hi : i < n) (hj : j < n) (h : apI n E p i j) (hE : E i j = true) : apI n E (pj p (p i) (p j)) i (j + 1) := by
  obtain ⟨h1, h2, h3⟩ := h
  refine ⟨fun k hk => ?_, fun x y hyx hx hs hE' => ?_, fun a b ha hb hab => ?_⟩
  · unfold pj; split
    · exact h1 j hj
    · exact h1 k hk
  · by_cases hc : x = i ∧ y = j
    · obtain ⟨rfl, rfl⟩ := hc
      unfold pj
      rw [if_pos rfl]
      split <;> rfl
    · have := h2 x y hyx hx (by omega) hE'
      unfold pj
      rw [this]
  · intro q hq
    have hij : q i = q j := hq i j hi hj hE
    have e1 : ∀ a, a < n → p a = p i → q a = q i := fun a ha e => h3 a i ha hi e q hq
    have e2 : ∀ a, a < n → p a = p j → q a = q j := fun a ha e => h3 a j ha hj e q hq
    unfold pj at hab
    by_cases ca : p a = p i
    · by_cases cb : p b = p i
      · rw [e1 a ha ca, e1 b hb cb]
      · rw [if_pos ca, if_neg cb] at hab
        rw [e1 a ha ca, e2 b hb hab.symm, hij]
    · by_cases cb : p b = p i
      · rw [if_neg ca, if_pos cb] at hab
        rw [e2 a ha hab, e1 b hb cb, hij]
      · rw [if_neg ca, if_neg cb] at hab
        exact h3 a b ha hb hab q hq
theorem ap_in {H : Nat} (hH : isH H) {n : Nat} (hn : n ≤ 12) {E : Nat → Nat → Bool} {kk : Int32 → Int32 → zSt → Option (Int32 × zSt)} {i : Nat} (hin : i < n) : ∀ (d j f : Nat) (s : zSt) (p : Nat → Nat), j + d = i → d < f → zI s H 0 = zn n → sh2 s (H + 2) (H + 3) n E → lab H n s p → apI n E p i j → ∃ s' p', lp_X2_apart_40 H kk f (zn (cus n p n)) (zn i) (zn j) s = kk (zn (cus n p' n)) (zn i) s' ∧ lab H n s' p' ∧ apI n E p' i i ∧ zOf (fun o _ => o = H + 6) s s' := by
  obtain ⟨-, ⟨-, t2, t3, -, -, t6⟩, ⟨-, n2, n3, -, -, n6⟩⟩ := hH.c
  intro d
  induction d with
  | zero =>
    intro j f s p hj hf c0 hE hl hI
    obtain ⟨f, rfl⟩ : ∃ g, f = g + 1 := ⟨f - 1, by omega⟩
    have : ¬ zn j < zn i := by rw [zn_lt (by omega) (by omega)]; omega
    have hji : j = i := by omega
    subst hji
    refine ⟨s, p, ?_, hl, hI, zOf.rf⟩
    simp only [lp_X2_apart_40, bd_X2_apart_40, this, if_false]
  | succ d ih =>
    intro j f s p hj hf c0 hE hl hI
    obtain ⟨f, rfl⟩ : ∃ g, f = g + 1 := ⟨f - 1, by omega⟩
    have h1 : zn j < zn i := by rw [zn_lt (by omega) (by omega)]; omega
    have h2 : ¬ zn j < 0 := zn_neg (by omega)
    have h3 : (zn j).toNatClampNeg = j := zn_cl (by omega)
    have h4 : ¬ 12 ≤ j := by omega
    have h5 : ¬ zn i < 0 := zn_neg (by omega)
    have h6 : (zn i).toNatClampNeg = i := zn_cl (by omega)
    have h7 : ¬ 12 ≤ i := by omega
    have hjn : j < n := by omega
    have pi := hI.1 i hin
    have pj' := hI.1 j hjn
    have e : zn (p i) = zn (p j) ↔ p i = p j := zn_inj (by omega) (by omega)
    have go : ∀ (s1 : zSt) (p1 : Nat → Nat), zI s1 H 0 = zn n → sh2 s1 (H + 2) (H + 3) n E → lab H n s1 p1 → apI n E p1 i (j + 1) → zOf (fun o _ => o = H + 6) s s1 → ∃ s' p', lp_X2_apart_40 H kk f (zn (cus n p1 n)) (zn i) (zn (j + 1)) s1 = kk (zn (cus n p' n)) (zn i) s' ∧ lab H n s' p' ∧ apI n E p' i i ∧ zOf (fun o _ => o = H + 6) s s' := by
      intro s1 p1 a1 a2 a3 a4 a5
      obtain ⟨s', p', g1, g2, g3, g4⟩ := ih (j + 1) f s1 p1 (by omega) (by omega) a1 a2 a3 a4
      exact ⟨s', p', g1, g2, g3, a5.tr g4⟩
    have yes : E i j = true → ∃ s' p', m_X2_apart_82 H (fun l1 l2 l3 s => lp_X2_apart_40 H kk f l1 l2 l3 s) kk (zn (cus n p n)) (zn i) (zn j) 1 s = kk (zn (cus n p' n)) (zn i) s' ∧ lab H n s' p' ∧ apI n E p' i i ∧ zOf (fun o _ => o = H + 6) s s' := by
      intro hEij
      by_cases hp : p i = p j
      · simp only [m_X2_apart_82, m_X2_apart_123, show ¬ (1 : Int32) = 0 by decide, if_false, t6, n6, h2, h3, h4, h5, h6, h7, or_self, hl i hin, hl j hjn, e, hp, if_true, zn_succ]
        exact go s p c0 hE hl (hI.same (fun _ => hp)) zOf.rf
      · obtain ⟨s1, b1, b2, b3⟩ := join_eq hH hn (fr := p i) (to := p j) (by omega) (by omega) c0 (fun k hk => by have := hI.1 k hk; omega) hl
        have hc := cus_join (n := n) (p := p) (fr := p i) (to := p j) hI.1 hp ⟨i, hin, rfl⟩ ⟨j, hjn, rfl⟩
        simp only [m_X2_apart_82, m_X2_apart_123, show ¬ (1 : Int32) = 0 by decide, if_false, t6, n6, h2, h3, h4, h5, h6, h7, or_self, hl i hin, hl j hjn, e, hp, b1, zcv_some, hc, zn_m1, zn_succ]
        exact go s1 _ ((b3 H 0 (by omega)).1.trans c0) (hE.of (fun o k ho => (b3 o k (by omega)).2.1)) b2 (hI.join hin hjn hEij) b3
    have no : ¬ E i j = true → ∃ s' p', m_X2_apart_82 H (fun l1 l2 l3 s => lp_X2_apart_40 H kk f l1 l2 l3 s) kk (zn (cus n p n)) (zn i) (zn j) 0 s = kk (zn (cus n p' n)) (zn i) s' ∧ lab H n s' p' ∧ apI n E p' i i ∧ zOf (fun o _ => o = H + 6) s s' := by
      intro hEij
      simp only [m_X2_apart_82, m_X2_apart_123, if_true, zn_succ]
      exact go s p c0 hE hl (hI.same (fun h => absurd h hEij)) zOf.rf
    have hEE := hE i j hin hjn
    simp only [lp_X2_apart_40, bd_X2_apart_40, m_X2_apart_77, h1, if_true, t2, t3, n2, n3, h2, h3, h4, h5, h6, h7, or_self, if_false]
    by_cases x1 : zL s (H + 2) i = zL s (H + 2) j
    · rw [if_pos x1]
      exact yes (hEE.1 (Or.inl x1))
    · rw [if_neg x1]
      by_cases x2 : zL s (H + 3) i = zL s (H + 3) j
      · rw [if_pos x2]
        exact yes (hEE.1 (Or.inr x2))
      · rw [if_neg x2]
        exact no (fun h => (hEE.2 h).elim x1 x2)
theorem ap_out {H : Nat} (hH : isH H) {n : Nat} (hn : n ≤ 12) {E : Nat → Nat → Bool} : ∀ (d i f : Nat) (s : zSt) (p : Nat → Nat), i + d = n → d < f → zI s H 0 = zn n → sh2 s (H + 2) (H + 3) n E → lab H n s p → apI n E p i 0 → ∃ s' p', lp_X2_apart_30 H f (zn (cus n p n)) (zn i) s = some (zn (cus n p' n), s') ∧ apI n E p' n 0 ∧ zOf (fun o _ => o = H + 6) s s' := by
  intro d
  induction d with
  | zero =>
    intro i f s p hi hf c0 hE hl hI
    obtain ⟨f, rfl⟩ : ∃ g, f = g + 1 := ⟨f - 1, by omega⟩
    have : ¬ zn i < zn n := by rw [zn_lt (by omega) (by omega)]; omega
    have hin : i = n := by omega
    subst hin
    refine ⟨s, p, ?_, hI, zOf.rf⟩
    simp only [lp_X2_apart_30, bd_X2_apart_30, c0, this, if_false]
  | succ d ih =>
    intro i f s p hi hf c0 hE hl hI
    obtain ⟨f, rfl⟩ : ∃ g, f = g + 1 := ⟨f - 1, by omega⟩
    have h1 : zn i < zn n := by rw [zn_lt (by omega) (by omega)]; omega
    obtain ⟨s1, p1, g1, g2, g3, g4⟩ := ap_in hH hn (E := E) (kk := fun l1_4 l2_4 s_4 => lp_X2_apart_30 H f l1_4 (l2_4 + 1) s_4) (show i < n by omega) i 0 zFuel s p (by omega) (by unfold zFuel; omega) c0 hE hl hI
    have g3' : apI n E p1 (i + 1) 0 := ⟨g3.1, fun x y hyx hx hs hE' => g3.2.1 x y hyx hx (by omega) hE', g3.2.2⟩
    obtain ⟨s2, p2, k1, k2, k3⟩ := ih (i + 1) f s1 p1 (by omega) (by omega) ((g4 H 0 (by omega)).1.trans c0) (hE.of (fun o k ho => (g4 o k (by omega)).2.1)) g2 g3'
    refine ⟨s2, p2, ?_, k2, g4.tr k3⟩
    simp only [lp_X2_apart_30, bd_X2_apart_30, c0, h1, if_true]
    rw [show (0 : Int32) = zn 0 from rfl, g1, zn_succ, k1]
def apP (n : Nat) (E : Nat → Nat → Bool) (p : Nat → Nat) : Prop := (∀ k, k < n → p k < n) ∧ (∀ x y, x < n → y < n → E x y = true → p x = p y) ∧ (∀ a b, a < n → b < n → p a = p b → cnn n (fun x y => E x y = true) a b)
theorem apart_eq {H : Nat} (hH : isH H) {n : Nat} (hn : n ≤ 12) {E : Nat → Nat → Bool} (hsy : ∀ x y, E x y = E y x) {s : zSt} (c0 : zI s H 0 = zn n) (hE : sh2 s (H + 2) (H + 3) n E) : ∃ s' p, m_X2_apart H s = some (zn (cus n p n), s') ∧ apP n E p ∧ zOf (fun o _ => o = H + 6) s s' := by
  obtain ⟨s1, g1, g2, g3⟩ := ap_init hH hn (l1 := zI s H 0) (kk := fun l1_2 s_2 => lp_X2_apart_30 H zFuel l1_2 0 s_2) n 0 zFuel s (by omega) (by unfold zFuel; omega) c0 (fun k hk => by omega)
  obtain ⟨s2, p, k1, k2, k3⟩ := ap_out hH hn (E := E) n 0 zFuel s1 (fun k => k) (by omega) (by unfold zFuel; omega) ((g3 H 0 (by omega)).1.trans c0) (hE.of (fun o k ho => (g3 o k (by omega)).2.1)) g2 ⟨fun k hk => hk, fun x y _ _ h => by omega, fun a b _ _ h => by intro q _; exact congrArg q h⟩
  refine ⟨s2, p, ?_, ⟨k2.1, fun x y hx hy hxy => ?_, k2.2.2⟩, g3.tr k3⟩
  · unfold m_X2_apart
    refine Eq.trans g1 ?_
    rw [cus_id n n (Nat.le_refl n)] at k1
    rw [c0]
    exact k1
  · rcases Nat.lt_trichotomy x y with h | h | h
    · exact (k2.2.1 y x h hy (by omega) (by rw [hsy]; exact hxy)).symm
    · rw [h]
    · exact k2.2.1 x y h hx (by omega) hxy
