/-! fit: the rows that count, and their sums -/
def okR (n : Nat) (sd mi nu : Nat → Int) : Prop := n ≤ 40 ∧ ∀ r, r < n → (0 ≤ mi r ∧ mi r ≤ 199) ∧ (-1 ≤ sd r ∧ sd r ≤ 1) ∧ (-999 ≤ nu r ∧ nu r ≤ 999)
def rwC (s : zSt) (n : Nat) (sd mi nu : Nat → Int) (k : Int32) (ct : Nat → Bool) : Prop := zI s 53 0 = zn n ∧ ∀ r, r < n → zI s 54 r = zi (mi r) ∧ zI s 55 r = zi (sd r) ∧ zI s 56 r = zi (nu r) ∧ ((¬ k < zI s 57 r ∧ (zI s 58 r = -1 ∨ k < zI s 58 r)) ↔ ct r = true)
def rwM (t : zSt) (n : Nat) (sd mi nu : Nat → Int) (k : Int32) (ct : Nat → Bool) : Prop := zI t 64 30 = zn n ∧ ∀ r, r < n → zI t 73 r = zi (mi r) ∧ zI t 74 r = zi (sd r) ∧ zI t 75 r = zi (nu r) ∧ ((¬ k < zI t 76 r ∧ (zI t 77 r < 0 ∨ k < zI t 77 r)) ↔ ct r = true)
def tau (sd mi nu : Nat → Int) (r j : Nat) : Int := if j = 0 then 1 else if j = 1 then sd r else if j = 2 then mi r else if j = 3 then sd r * sd r else nu r
def gS (ct : Nat → Bool) (τ : Nat → Nat → Int) (i j : Nat) : Nat → Int
  | 0 => 0
  | r + 1 => gS ct τ i j r + if ct r = true then τ r i * τ r j else 0
theorem rwC.of {s s' : zSt} {n : Nat} {sd mi nu : Nat → Int} {k : Int32} {ct : Nat → Bool} (h : rwC s n sd mi nu k ct) (e : ∀ o k, 53 ≤ o → o ≤ 58 → zI s' o k = zI s o k) : rwC s' n sd mi nu k ct := by
  unfold rwC at h ⊢
  simpa only [e 53 0 (by omega) (by omega), fun r => e 54 r (by omega) (by omega), fun r => e 55 r (by omega) (by omega), fun r => e 56 r (by omega) (by omega), fun r => e 57 r (by omega) (by omega), fun r => e 58 r (by omega) (by omega)] using h
theorem rwM.of {s s' : zSt} {n : Nat} {sd mi nu : Nat → Int} {k : Int32} {ct : Nat → Bool} (h : rwM s n sd mi nu k ct) (e0 : zI s' 64 30 = zI s 64 30) (e : ∀ o k, 73 ≤ o → o ≤ 77 → zI s' o k = zI s o k) : rwM s' n sd mi nu k ct := by
  unfold rwM at h ⊢
  simpa only [e0, fun r => e 73 r (by omega) (by omega), fun r => e 74 r (by omega) (by omega), fun r => e 75 r (by omega) (by omega), fun r => e 76 r (by omega) (by omega), fun r => e 77 r (by omega) (by omega)] using h
theorem zn_mul (a b : Nat) : zn a * zn b = zn (a * b) := (Int32.ofNat_mul a b).symm
theorem countsC_eq {s : zSt} {n : Nat} {sd mi nu : Nat → Int} {k : Int32} {ct : Nat → Bool} (hC : rwC s n sd mi nu k ct) (hn : n ≤ 40) {r : Nat} (hr : r < n) : m_X4_counts 53 (zn r) k s = some (if ct r = true then 1 else 0, s) := by
  obtain ⟨-, -, -, h⟩ := hC.2 r hr
  have h2 : ¬ zn r < 0 := zn_neg (by omega)
  have h3 : (zn r).toNatClampNeg = r := zn_cl (by omega)
  have h4 : ¬ 40 ≤ r := by omega
  simp only [m_X4_counts, zT_53_5, zT_53_6, zN_57, zN_58, h2, h3, h4, or_self, if_false]
  by_cases a1 : k < zI s 57 r
  · rw [if_pos a1, if_neg (fun hc => (h.2 hc).1 a1)]
  · rw [if_neg a1]
    by_cases a2 : zI s 58 r = -1
    · rw [if_pos a2, if_pos (h.1 ⟨a1, Or.inl a2⟩)]
    · rw [if_neg a2]
      by_cases a3 : k < zI s 58 r
      · rw [if_pos a3, if_pos (h.1 ⟨a1, Or.inr a3⟩)]
      · rw [if_neg a3, if_neg (fun hc => (h.2 hc).2.elim a2 a3)]
theorem countsM_eq {s : zSt} {n : Nat} {sd mi nu : Nat → Int} {k : Int32} {ct : Nat → Bool} (hM : rwM s n sd mi nu k ct) (hn : n ≤ 40) {r : Nat} (hr : r < n) : m_X9_counts 64 (zn r) k s = some (if ct r = true then 1 else 0, s) := by
  obtain ⟨-, -, -, h⟩ := hM.2 r hr
  have h2 : ¬ zn r < 0 := zn_neg (by omega)
  have h3 : (zn r).toNatClampNeg = r := zn_cl (by omega)
  have h4 : ¬ 40 ≤ r := by omega
  simp only [m_X9_counts, zT_64_28, zT_64_29, zN_76, zN_77, h2, h3, h4, or_self, if_false]
  by_cases a1 : k < zI s 76 r
  · rw [if_pos a1, if_neg (fun hc => (h.2 hc).1 a1)]
  · rw [if_neg a1]
    by_cases a2 : zI s 77 r < 0
    · rw [if_pos a2, if_pos (h.1 ⟨a1, Or.inl a2⟩)]
    · rw [if_neg a2]
      by_cases a3 : k < zI s 77 r
      · rw [if_pos a3, if_pos (h.1 ⟨a1, Or.inr a3⟩)]
      · rw [if_neg a3, if_neg (fun hc => (h.2 hc).2.elim a2 a3)]
def gAdd (o _ : Nat) : Prop := o = 61
def gGat (o _ : Nat) : Prop := o = 61 ∨ o = 62
theorem row_eq {s : zSt} {n : Nat} {sd mi nu : Nat → Int} {k : Int32} {ct : Nat → Bool} (hC : rwC s n sd mi nu k ct) (hn : n ≤ 40) {r : Nat} (hr : r < n) : ∃ s', m_X4_row 53 (zn r) 62 s = some s' ∧ (∀ j, j < 5 → zI s' 62 j = zi (tau sd mi nu r j)) ∧ zOf (fun o _ => o = 62) s s' := by
  obtain ⟨e1, e2, e3, -⟩ := hC.2 r hr
  have h2 : ¬ zn r < 0 := zn_neg (by omega)
  have h3 : (zn r).toNatClampNeg = r := zn_cl (by omega)
  have h4 : ¬ 40 ≤ r := by omega
  refine ⟨zsI (zsI (zsI (zsI (zsI s 62 0 1) 62 1 (zi (sd r))) 62 2 (zi (mi r))) 62 3 (zi (sd r) * zi (sd r))) 62 4 (zi (nu r)), ?_, ?_, ?_⟩
  · simp only [m_X4_row, zT_53_2, zT_53_3, zT_53_4, zN_54, zN_55, zN_56, zN_62, tc_0, ln_0, tc_1, ln_1, tc_2, ln_2, tc_3, ln_3, tc_4, ln_4, tc_5, ln_5, tc_6, ln_6, tc_7, ln_7, tc_8, ln_8, tc_9, ln_9, tc_10, ln_10, tc_11, ln_11, tc_12, ln_12, tc_13, ln_13, h2, h3, h4, or_self, if_false, zlt_eq, zI_sI, zI_sL, zI_sR, zL_sI, zL_sL, zL_sR, zR_sI, zR_sL, zR_sR, e1, e2, e3, show ¬ (54 : Nat) = 62 by decide, show ¬ (55 : Nat) = 62 by decide, show ¬ (56 : Nat) = 62 by decide, false_and, show ¬ 5 ≤ 0 by decide, show ¬ 5 ≤ 1 by decide, show ¬ 5 ≤ 2 by decide, show ¬ 5 ≤ 3 by decide, show ¬ 5 ≤ 4 by decide]
  · intro j hj
    rcases (show j = 0 ∨ j = 1 ∨ j = 2 ∨ j = 3 ∨ j = 4 by omega) with rfl | rfl | rfl | rfl | rfl
    · simp [zI_sI, zI_sL, zI_sR, zL_sI, zL_sL, zL_sR, zR_sI, zR_sL, zR_sR, tau]; rfl
    · simp [zI_sI, zI_sL, zI_sR, zL_sI, zL_sL, zL_sR, zR_sI, zR_sL, zR_sR, tau]
    · simp [zI_sI, zI_sL, zI_sR, zL_sI, zL_sL, zL_sR, zR_sI, zR_sL, zR_sR, tau]
    · simp [zI_sI, zI_sL, zI_sR, zL_sI, zL_sL, zL_sR, zR_sI, zR_sL, zR_sR, tau, zi_mul]
    · simp [zI_sI, zI_sL, zI_sR, zL_sI, zL_sL, zL_sR, zR_sI, zR_sL, zR_sR, tau]
  · refine ((((zOf.rf.sI ?_).sI ?_).sI ?_).sI ?_).sI ?_ <;> rfl
theorem add_in {τ : Nat → Int} {i : Nat} (hi : i < 4) {kk : Int32 → zSt → Option zSt} : ∀ (d j f : Nat) (s : zSt), j + d = 5 → d < f → (∀ c, c < 5 → zI s 62 c = zi (τ c)) → (∀ c, c < 5 → zib (τ c)) → ∃ s', lp_X1_addRow_12 59 kk f (zn i) (zn j) s = kk (zn i) s' ∧ (∀ c, zL s' 61 c = if 5 * i + j ≤ c ∧ c < 5 * i + 5 then zL s 61 c + zq (τ i * τ (c - 5 * i)) else zL s 61 c) ∧ zOf gAdd s s' := by
  intro d
  induction d with
  | zero =>
    intro j f s hj hf ht hb
    obtain ⟨f, rfl⟩ : ∃ g, f = g + 1 := ⟨f - 1, by omega⟩
    have hj5 : j = 5 := by omega
    subst hj5
    have h1 : ¬ zn 5 < 5 := by decide
    refine ⟨s, ?_, fun c => by rw [if_neg (by omega)], zOf.rf⟩
    simp only [lp_X1_addRow_12, bd_X1_addRow_12, h1, if_false]
  | succ d ih =>
    intro j f s hj hf ht hb
    obtain ⟨f, rfl⟩ : ∃ g, f = g + 1 := ⟨f - 1, by omega⟩
    have h1 : zn j < 5 := (zn_lt (b := 5) (by omega) (by omega)).2 (by omega)
    have hx : (zn i * 5) + zn j = zn (5 * i + j) := by
      rw [show (5 : Int32) = zn 5 from rfl, zn_mul, zn_add, Nat.mul_comm]
    have x2 : ¬ zn (5 * i + j) < 0 := zn_neg (by omega)
    have x3 : (zn (5 * i + j)).toNatClampNeg = 5 * i + j := zn_cl (by omega)
    have x4 : ¬ 20 ≤ 5 * i + j := by omega
    have i2 : ¬ zn i < 0 := zn_neg (by omega)
    have i3 : (zn i).toNatClampNeg = i := zn_cl (by omega)
    have i4 : ¬ 5 ≤ i := by omega
    have j2 : ¬ zn j < 0 := zn_neg (by omega)
    have j3 : (zn j).toNatClampNeg = j := zn_cl (by omega)
    have j4 : ¬ 5 ≤ j := by omega
    have hv : (zI s 62 i).toInt64 * (zI s 62 j).toInt64 = zq (τ i * τ j) := by
      rw [ht i (by omega), ht j (by omega), zq_i32, zq_i32, zi_int (hb i (by omega)), zi_int (hb j (by omega)), zq_mul]
    simp only [lp_X1_addRow_12, bd_X1_addRow_12, h1, if_true, zT_59_3, zT_59_4, zN_61, zN_62, hx, x2, x3, x4, i2, i3, i4, j2, j3, j4, or_self, if_false, zlt_eq, hv, zn_succ]
    obtain ⟨s', g1, g2, g3⟩ := ih (j + 1) f (zsL s 61 (5 * i + j) (zL s 61 (5 * i + j) + zq (τ i * τ j))) (by omega) (by omega) (fun c hc => by rw [zI_sL]; exact ht c hc) hb
    refine ⟨s', g1, fun c => ?_, (zOf.rf.sL (by rfl)).tr g3⟩
    rw [g2 c, zL_sL]
    by_cases hc : c = 5 * i + j
    · rw [if_neg (by omega), if_pos ⟨rfl, hc⟩, if_pos (by omega), hc]
      congr 4
      omega
    · by_cases hc2 : 5 * i + (j + 1) ≤ c ∧ c < 5 * i + 5
      · rw [if_pos hc2, if_neg (fun h => hc h.2), if_pos (by omega)]
      · rw [if_neg hc2, if_neg (fun h => hc h.2), if_neg (by omega)]
theorem add_out {τ : Nat → Int} {u : Nat} (hu : u ≤ 4) : ∀ (d i f : Nat) (s : zSt), i + d = u → d < f → zI s 59 2 = zn u → (∀ c, c < 5 → zI s 62 c = zi (τ c)) → (∀ c, c < 5 → zib (τ c)) → ∃ s', lp_X1_addRow_2 59 f (zn i) s = some s' ∧ (∀ c, zL s' 61 c = if 5 * i ≤ c ∧ c < 5 * u then zL s 61 c + zq (τ (c / 5) * τ (c % 5)) else zL s 61 c) ∧ zOf gAdd s s' := by
  intro d
  induction d with
  | zero =>
    intro i f s hi hf hs ht hb
    obtain ⟨f, rfl⟩ : ∃ g, f = g + 1 := ⟨f - 1, by omega⟩
    have h1 : ¬ zn i < zn u := by rw [zn_lt (by omega) (by omega)]; omega
    refine ⟨s, ?_, fun c => by rw [if_neg (by omega)], zOf.rf⟩
    simp only [lp_X1_addRow_2, bd_X1_addRow_2, hs, h1, if_false]
  | succ d ih =>
    intro i f s hi hf hs ht hb
    obtain ⟨f, rfl⟩ : ∃ g, f = g + 1 := ⟨f - 1, by omega⟩
    have h1 : zn i < zn u := by rw [zn_lt (by omega) (by omega)]; omega
    obtain ⟨s1, a1, a2, a3⟩ := add_in (τ := τ) (show i < 4 by omega) (kk := fun l1_2 s_2 => lp_X1_addRow_2 59 f (l1_2 + 1) s_2) 5 0 zFuel s (by omega) (by unfold zFuel; omega) ht hb
    obtain ⟨s2, b1, b2, b3⟩ := ih (i + 1) f s1 (by omega) (by omega) ((a3 59 2 (by unfold gAdd; omega)).1.trans hs) (fun c hc => (a3 62 c (by unfold gAdd; omega)).1.trans (ht c hc)) hb
    refine ⟨s2, ?_, fun c => ?_, a3.tr b3⟩
    · rw [lp_X1_addRow_2, bd_X1_addRow_2, hs, if_pos h1]
      refine Eq.trans a1 ?_
      rw [zn_succ]
      exact b1
    · rw [b2 c, a2 c]
      by_cases hc : 5 * i ≤ c ∧ c < 5 * i + 5
      · have e1 : c / 5 = i := by omega
        have e2 : c % 5 = c - 5 * i := by omega
        rw [if_neg (by omega), if_pos (by omega), if_pos (by omega), e1, e2]
      · by_cases hc2 : 5 * (i + 1) ≤ c ∧ c < 5 * u
        · rw [if_pos hc2, if_neg (by omega), if_pos (by omega)]
        · rw [if_neg hc2, if_neg (by omega), if_neg (by omega)]
theorem tau_in {n : Nat} {sd mi nu : Nat → Int} (ok : okR n sd mi nu) {r : Nat} (hr : r < n) (j : Nat) : -999 ≤ tau sd mi nu r j ∧ tau sd mi nu r j ≤ 999 := by
  obtain ⟨h1, h2, h3⟩ := ok.2 r hr
  unfold tau
  split
  · omega
  · split
    · omega
    · split
      · omega
      · split
        · rcases (show sd r = -1 ∨ sd r = 0 ∨ sd r = 1 by omega) with h | h | h <;> rw [h] <;> decide
        · omega
theorem ga_zero {p : Int32} {kk : zSt → Option zSt} : ∀ (d i f : Nat) (s : zSt), i + d = 20 → d < f → (∀ c, c < i → zL s 61 c = 0) → ∃ s', lp_X1_gather_2 59 53 p kk f (zn i) s = kk s' ∧ (∀ c, c < 20 → zL s' 61 c = 0) ∧ zOf gAdd s s' := by
  intro d
  induction d with
  | zero =>
    intro i f s hi hf hz
    obtain ⟨f, rfl⟩ : ∃ g, f = g + 1 := ⟨f - 1, by omega⟩
    have hi2 : i = 20 := by omega
    subst hi2
    have h1 : ¬ zn 20 < Int32.ofNat 20 := by decide
    refine ⟨s, ?_, hz, zOf.rf⟩
    simp only [lp_X1_gather_2, bd_X1_gather_2, zT_59_3, zN_61, h1, if_false]
  | succ d ih =>
    intro i f s hi hf hz
    obtain ⟨f, rfl⟩ : ∃ g, f = g + 1 := ⟨f - 1, by omega⟩
    have h1 : zn i < Int32.ofNat 20 := (zn_lt (b := 20) (by omega) (by omega)).2 (by omega)
    have i2 : ¬ zn i < 0 := zn_neg (by omega)
    have i3 : (zn i).toNatClampNeg = i := zn_cl (by omega)
    have i4 : ¬ 20 ≤ i := by omega
    simp only [lp_X1_gather_2, bd_X1_gather_2, zT_59_3, zN_61, h1, if_true, i2, i3, i4, or_self, if_false, zlt_eq, zn_succ]
    obtain ⟨s', g1, g2, g3⟩ := ih (i + 1) f (zsL s 61 i 0) (by omega) (by omega) (fun c hc => by
      rw [zL_sL]
      by_cases h : c = i
      · rw [if_pos ⟨rfl, h⟩]
      · rw [if_neg (fun hh => h hh.2)]; exact hz c (by omega))
    exact ⟨s', g1, g2, (zOf.rf.sL (by rfl)).tr g3⟩
theorem ga_rows {n u : Nat} {sd mi nu : Nat → Int} {k : Int32} {ct : Nat → Bool} (ok : okR n sd mi nu) (hu : u ≤ 4) : ∀ (d r f : Nat) (s : zSt), r + d = n → d < f → zI s 59 2 = zn u → rwC s n sd mi nu k ct → (∀ c, c < 5 * u → zL s 61 c = zq (gS ct (tau sd mi nu) (c / 5) (c % 5) r)) → ∃ s', lp_X1_gather_26 59 53 k f (zn r) s = some s' ∧ (∀ c, c < 5 * u → zL s' 61 c = zq (gS ct (tau sd mi nu) (c / 5) (c % 5) n)) ∧ zOf gGat s s' := by
  have hn := ok.1
  intro d
  induction d with
  | zero =>
    intro r f s hr hf hs hC hT
    obtain ⟨f, rfl⟩ : ∃ g, f = g + 1 := ⟨f - 1, by omega⟩
    have h1 : ¬ zn r < zn n := by rw [zn_lt (by omega) (by omega)]; omega
    have hrn : r = n := by omega
    subst hrn
    refine ⟨s, ?_, hT, zOf.rf⟩
    simp only [lp_X1_gather_26, bd_X1_gather_26, hC.1, h1, if_false]
  | succ d ih =>
    intro r f s hr hf hs hC hT
    obtain ⟨f, rfl⟩ : ∃ g, f = g + 1 := ⟨f - 1, by omega⟩
    have h1 : zn r < zn n := by rw [zn_lt (by omega) (by omega)]; omega
    simp only [lp_X1_gather_26, bd_X1_gather_26, m_X1_gather_56, hC.1, h1, if_true, countsC_eq hC hn (show r < n by omega), zcl_some, zT_59_4, zn_succ]
    by_cases hc : ct r = true
    · obtain ⟨s1, a1, a2, a3⟩ := row_eq hC hn (show r < n by omega)
      obtain ⟨s2, b1, b2, b3⟩ := add_out (τ := tau sd mi nu r) hu u 0 zFuel s1 (by omega) (by unfold zFuel; omega) ((a3 59 2 (by omega)).1.trans hs) a2 (fun c _ => by have := tau_in ok (show r < n by omega) c; unfold zib; omega)
      have e : zOf gGat s s2 := (a3.mono (fun o k h => Or.inr h)).tr (b3.mono (fun o k h => Or.inl h))
      have b1' : m_X1_addRow 59 s1 = some s2 := b1
      obtain ⟨s3, c1, c2, c3⟩ := ih (r + 1) f s2 (by omega) (by omega) ((e 59 2 (by unfold gGat; omega)).1.trans hs) (hC.of (fun o k h1 h2 => (e o k (by unfold gGat; omega)).1)) (fun c hcu => by
        rw [b2 c, if_pos (by omega), (a3 61 c (by omega)).2.1, hT c hcu, zq_add]
        show _ = zq (gS ct (tau sd mi nu) (c / 5) (c % 5) r + if ct r = true then _ else 0)
        rw [if_pos hc])
      refine ⟨s3, ?_, c2, e.tr c3⟩
      simp only [hc, if_true, show ¬ (1 : Int32) = 0 by decide, if_false, a1, zcv_some, b1']
      exact c1
    · obtain ⟨s3, c1, c2, c3⟩ := ih (r + 1) f s (by omega) (by omega) hs hC (fun c hcu => by
        rw [hT c hcu]
        show _ = zq (gS ct (tau sd mi nu) (c / 5) (c % 5) r + if ct r = true then _ else 0)
        rw [if_neg hc, Int.add_zero])
      refine ⟨s3, ?_, c2, c3⟩
      simp only [hc, if_false, if_true]
      exact c1
theorem gather_eq {n u : Nat} {sd mi nu : Nat → Int} {k : Int32} {ct : Nat → Bool} (ok : okR n sd mi nu) (hu : u ≤ 4) {s : zSt} (hs : zI s 59 2 = zn u) (hC : rwC s n sd mi nu k ct) : ∃ s', m_X1_gather 59 53 k s = some s' ∧ (∀ c, c < 5 * u → zL s' 61 c = zq (gS ct (tau sd mi nu) (c / 5) (c % 5) n)) ∧ zOf gGat s s' := by
  obtain ⟨s1, a1, a2, a3⟩ := ga_zero (p := k) (kk := fun s_2 => lp_X1_gather_26 59 53 k zFuel 0 s_2) 20 0 zFuel s (by omega) (by unfold zFuel; omega) (fun c hc => by omega)
  have e : zOf gGat s s1 := a3.mono (fun o k h => Or.inl h)
  obtain ⟨s2, b1, b2, b3⟩ := ga_rows ok hu n 0 zFuel s1 (by omega) (by have := ok.1; unfold zFuel; omega) ((e 59 2 (by unfold gGat; omega)).1.trans hs) (hC.of (fun o k h1 h2 => (e o k (by unfold gGat; omega)).1)) (fun c hc => a2 c (by omega))
  exact ⟨s2, by unfold m_X1_gather; exact Eq.trans a1 b1, b2, e.tr b3⟩
