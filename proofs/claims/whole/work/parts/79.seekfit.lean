theorem goes_eq {t : zSt} {n : Nat} {sd mi nu : Nat → Int} {k : Int32} {ct : Nat → Bool} (hM : rwM t n sd mi nu k ct) (hn : n ≤ 40) {r j : Nat} (hr : r < n) (hj : j < 4) : m_X9_goes 64 (zn r) (zn j) t = some (zi (tau sd mi nu r j), t) := by
  obtain ⟨e1, e2, e3, -⟩ := hM.2 r hr
  have h2 : ¬ zn r < 0 := zn_neg (by omega)
  have h3 : (zn r).toNatClampNeg = r := zn_cl (by omega)
  have h4 : ¬ 40 ≤ r := by omega
  rcases (show j = 0 ∨ j = 1 ∨ j = 2 ∨ j = 3 by omega) with rfl | rfl | rfl | rfl
  · simp only [m_X9_goes, show zn 0 = (0 : Int32) from rfl, if_true]
    rfl
  · simp only [m_X9_goes, show zn 1 = (1 : Int32) from rfl, show ¬ (1 : Int32) = 0 by decide, if_true, if_false, zT_64_26, zN_74, h2, h3, h4, or_self, e2]
    rfl
  · simp only [m_X9_goes, show zn 2 = (2 : Int32) from rfl, show ¬ (2 : Int32) = 0 by decide, show ¬ (2 : Int32) = 1 by decide, if_true, if_false, zT_64_25, zN_73, h2, h3, h4, or_self, e1]
    rfl
  · simp only [m_X9_goes, show zn 3 = (3 : Int32) from rfl, show ¬ (3 : Int32) = 0 by decide, show ¬ (3 : Int32) = 1 by decide, show ¬ (3 : Int32) = 2 by decide, if_false, zT_64_26, zN_74, h2, h3, h4, or_self, e2, zi_mul]
    rfl
theorem tau_i64 {n : Nat} {sd mi nu : Nat → Int} (ok : okR n sd mi nu) {r : Nat} (hr : r < n) (j : Nat) : (zi (tau sd mi nu r j)).toInt64 = zq (tau sd mi nu r j) := by
  have := tau_in ok hr j
  rw [zq_i32, zi_int (by unfold zib; omega)]
theorem sf45 {n : Nat} {sd mi nu : Nat → Int} {k : Int32} {ct : Nat → Bool} (ok : okR n sd mi nu) {p1 : Int32} {i j : Nat} (hi : i < 4) (hj : j < 4) {kk : Int32 → Int32 → zSt → Option zSt} : ∀ (d r f : Nat) (t : zSt), r + d = n → d < f → rwM t n sd mi nu k ct → zL t 78 (4 * i + j) = zq (gS ct (tau sd mi nu) i j r) → ∃ t', lp_X9_seekFit_45 64 p1 k kk f (zn j) (zn i) (zn r) t = kk (zn j) (zn i) t' ∧ zL t' 78 (4 * i + j) = zq (gS ct (tau sd mi nu) i j n) ∧ zOf (fun o c => o = 78 ∧ c = 4 * i + j) t t' := by
  have hn := ok.1
  have x2 : ¬ zn (4 * i + j) < 0 := zn_neg (by omega)
  have x3 : (zn (4 * i + j)).toNatClampNeg = 4 * i + j := zn_cl (by omega)
  have x4 : ¬ 16 ≤ 4 * i + j := by omega
  intro d
  induction d with
  | zero =>
    intro r f t hr hf hM hT
    obtain ⟨f, rfl⟩ : ∃ g, f = g + 1 := ⟨f - 1, by omega⟩
    have h1 : ¬ zn r < zn n := by rw [zn_lt (by omega) (by omega)]; omega
    have hrn : r = n := by omega
    subst hrn
    refine ⟨t, ?_, hT, zOf.rf⟩
    simp only [lp_X9_seekFit_45, bd_X9_seekFit_45, hM.1, h1, if_false]
  | succ d ih =>
    intro r f t hr hf hM hT
    obtain ⟨f, rfl⟩ : ∃ g, f = g + 1 := ⟨f - 1, by omega⟩
    have h1 : zn r < zn n := by rw [zn_lt (by omega) (by omega)]; omega
    have hrn : r < n := by omega
    have go : ∀ v, zq (gS ct (tau sd mi nu) i j r) + v = zq (gS ct (tau sd mi nu) i j (r + 1)) → ∃ t', lp_X9_seekFit_45 64 p1 k kk f (zn j) (zn i) (zn (r + 1)) (zsL t 78 (4 * i + j) (zq (gS ct (tau sd mi nu) i j r) + v)) = kk (zn j) (zn i) t' ∧ zL t' 78 (4 * i + j) = zq (gS ct (tau sd mi nu) i j n) ∧ zOf (fun o c => o = 78 ∧ c = 4 * i + j) t t' := by
      intro v hv
      have e : zOf (fun o c => o = 78 ∧ c = 4 * i + j) t (zsL t 78 (4 * i + j) (zq (gS ct (tau sd mi nu) i j r) + v)) := zOf.rf.sL ⟨rfl, rfl⟩
      obtain ⟨t', a1, a2, a3⟩ := ih (r + 1) f _ (by omega) (by omega) (hM.of (e 64 30 (by omega)).1 (fun o c h1 h2 => (e o c (by omega)).1)) (by rw [zL_sL, if_pos ⟨rfl, rfl⟩]; exact hv)
      exact ⟨t', a1, a2, e.tr a3⟩
    simp only [lp_X9_seekFit_45, bd_X9_seekFit_45, m_X9_seekFit_98, hM.1, h1, if_true, i44, x2, x3, x4, zT_64_32, zN_78, or_self, if_false, countsM_eq hM hn hrn, zcl_some, goes_eq hM hn hrn hi, goes_eq hM hn hrn hj, hT, tau_i64 ok hrn, zq_mul, zlt_eq, zn_succ]
    by_cases hc : ct r = true
    · simp only [hc, if_true, show ¬ (1 : Int32) = 0 by decide, if_false]
      refine go _ ?_
      rw [zq_add]
      show _ = zq (gS ct (tau sd mi nu) i j r + if ct r = true then _ else 0)
      rw [if_pos hc]
    · simp only [hc, if_false, if_true]
      refine go 0 ?_
      rw [Int64.add_zero]
      show _ = zq (gS ct (tau sd mi nu) i j r + if ct r = true then _ else 0)
      rw [if_neg hc, Int.add_zero]
theorem sf24 {n : Nat} {sd mi nu : Nat → Int} {k : Int32} {ct : Nat → Bool} (ok : okR n sd mi nu) {p1 : Int32} {j : Nat} (hj : j < 4) {kk : Int32 → zSt → Option zSt} : ∀ (d i f : Nat) (t : zSt), i + d = 4 → d < f → rwM t n sd mi nu k ct → ∃ t', lp_X9_seekFit_24 64 p1 k kk f (zn j) (zn i) t = kk (zn j) t' ∧ (∀ i', i ≤ i' → i' < 4 → zL t' 78 (4 * i' + j) = zq (gS ct (tau sd mi nu) i' j n)) ∧ zOf (fun o c => o = 78 ∧ 4 * i ≤ c ∧ c % 4 = j) t t' := by
  have hn := ok.1
  intro d
  induction d with
  | zero =>
    intro i f t hi hf hM
    obtain ⟨f, rfl⟩ : ∃ g, f = g + 1 := ⟨f - 1, by omega⟩
    have hi4 : i = 4 := by omega
    subst hi4
    have h1 : ¬ zn 4 < 4 := by decide
    refine ⟨t, ?_, fun i' h1 h2 => by omega, zOf.rf⟩
    simp only [lp_X9_seekFit_24, bd_X9_seekFit_24, h1, if_false]
  | succ d ih =>
    intro i f t hi hf hM
    obtain ⟨f, rfl⟩ : ∃ g, f = g + 1 := ⟨f - 1, by omega⟩
    have h1 : zn i < 4 := (zn_lt (b := 4) (by omega) (by omega)).2 (by omega)
    have x2 : ¬ zn (4 * i + j) < 0 := zn_neg (by omega)
    have x3 : (zn (4 * i + j)).toNatClampNeg = 4 * i + j := zn_cl (by omega)
    have x4 : ¬ 16 ≤ 4 * i + j := by omega
    have e : zOf (fun o c => o = 78 ∧ c = 4 * i + j) t (zsL t 78 (4 * i + j) 0) := zOf.rf.sL ⟨rfl, rfl⟩
    obtain ⟨t1, a1, a2, a3⟩ := sf45 ok (p1 := p1) (k := k) (ct := ct) (show i < 4 by omega) hj (kk := fun l3_11 l4_11 s_11 => lp_X9_seekFit_24 64 p1 k kk f l3_11 (l4_11 + 1) s_11) n 0 zFuel _ (by omega) (by unfold zFuel; omega) (hM.of (e 64 30 (by omega)).1 (fun o c h1 h2 => (e o c (by omega)).1)) (by rw [zL_sL, if_pos ⟨rfl, rfl⟩]; rfl)
    have e1 := e.tr a3
    obtain ⟨t2, b1, b2, b3⟩ := ih (i + 1) f t1 (by omega) (by omega) (hM.of (e1 64 30 (by omega)).1 (fun o c h1 h2 => (e1 o c (by omega)).1))
    refine ⟨t2, ?_, fun i' h1 h2 => ?_, (e1.mono (fun o c h => by omega)).tr (b3.mono (fun o c h => by omega))⟩
    · simp only [lp_X9_seekFit_24, bd_X9_seekFit_24, h1, if_true, i44, x2, x3, x4, zT_64_32, zN_78, or_self, if_false, zlt_eq]
      refine Eq.trans a1 ?_
      rw [zn_succ]
      exact b1
    · by_cases hii : i' = i
      · subst hii
        rw [(b3 78 (4 * i' + j) (by omega)).2.1]
        exact a2
      · exact b2 i' (by omega) h2
theorem sf115 {n : Nat} {sd mi nu : Nat → Int} {k : Int32} {ct : Nat → Bool} (ok : okR n sd mi nu) {p1 : Int32} {j : Nat} (hj : j < 4) {kk : Int32 → zSt → Option zSt} : ∀ (d r f : Nat) (t : zSt), r + d = n → d < f → rwM t n sd mi nu k ct → zL t 79 j = zq (gS ct (tau sd mi nu) j 4 r) → ∃ t', lp_X9_seekFit_115 64 p1 k kk f (zn j) (zn r) t = kk (zn j) t' ∧ zL t' 79 j = zq (gS ct (tau sd mi nu) j 4 n) ∧ zOf (fun o c => o = 79 ∧ c = j) t t' := by
  have hn := ok.1
  have x2 : ¬ zn j < 0 := zn_neg (by omega)
  have x3 : (zn j).toNatClampNeg = j := zn_cl (by omega)
  have x4 : ¬ 4 ≤ j := by omega
  intro d
  induction d with
  | zero =>
    intro r f t hr hf hM hT
    obtain ⟨f, rfl⟩ : ∃ g, f = g + 1 := ⟨f - 1, by omega⟩
    have h1 : ¬ zn r < zn n := by rw [zn_lt (by omega) (by omega)]; omega
    have hrn : r = n := by omega
    subst hrn
    refine ⟨t, ?_, hT, zOf.rf⟩
    simp only [lp_X9_seekFit_115, bd_X9_seekFit_115, hM.1, h1, if_false]
  | succ d ih =>
    intro r f t hr hf hM hT
    obtain ⟨f, rfl⟩ : ∃ g, f = g + 1 := ⟨f - 1, by omega⟩
    have h1 : zn r < zn n := by rw [zn_lt (by omega) (by omega)]; omega
    have hrn : r < n := by omega
    have h2 : ¬ zn r < 0 := zn_neg (by omega)
    have h3 : (zn r).toNatClampNeg = r := zn_cl (by omega)
    have h4 : ¬ 40 ≤ r := by omega
    have nu4 : (zI t 75 r).toInt64 = zq (tau sd mi nu r 4) := by
      rw [(hM.2 r hrn).2.2.1]
      exact tau_i64 ok hrn 4
    have go : ∀ v, zq (gS ct (tau sd mi nu) j 4 r) + v = zq (gS ct (tau sd mi nu) j 4 (r + 1)) → ∃ t', lp_X9_seekFit_115 64 p1 k kk f (zn j) (zn (r + 1)) (zsL t 79 j (zq (gS ct (tau sd mi nu) j 4 r) + v)) = kk (zn j) t' ∧ zL t' 79 j = zq (gS ct (tau sd mi nu) j 4 n) ∧ zOf (fun o c => o = 79 ∧ c = j) t t' := by
      intro v hv
      have e : zOf (fun o c => o = 79 ∧ c = j) t (zsL t 79 j (zq (gS ct (tau sd mi nu) j 4 r) + v)) := zOf.rf.sL ⟨rfl, rfl⟩
      obtain ⟨t', a1, a2, a3⟩ := ih (r + 1) f _ (by omega) (by omega) (hM.of (e 64 30 (by omega)).1 (fun o c h1 h2 => (e o c (by omega)).1)) (by rw [zL_sL, if_pos ⟨rfl, rfl⟩]; exact hv)
      exact ⟨t', a1, a2, e.tr a3⟩
    simp only [lp_X9_seekFit_115, bd_X9_seekFit_115, m_X9_seekFit_162, hM.1, h1, if_true, x2, x3, x4, h2, h3, h4, zT_64_33, zT_64_27, zN_79, zN_75, or_self, if_false, countsM_eq hM hn hrn, zcl_some, goes_eq hM hn hrn hj, hT, tau_i64 ok hrn, nu4, zq_mul, zlt_eq, zn_succ]
    by_cases hc : ct r = true
    · simp only [hc, if_true, show ¬ (1 : Int32) = 0 by decide, if_false]
      refine go _ ?_
      rw [zq_add]
      show _ = zq (gS ct (tau sd mi nu) j 4 r + if ct r = true then _ else 0)
      rw [if_pos hc]
    · simp only [hc, if_false, if_true]
      refine go 0 ?_
      rw [Int64.add_zero]
      show _ = zq (gS ct (tau sd mi nu) j 4 r + if ct r = true then _ else 0)
      rw [if_neg hc, Int.add_zero]
def gSf (o c : Nat) : Prop := o = 78 ∨ o = 79 ∨ o = 80 ∨ o = 81 ∨ (o = 64 ∧ c = 36)
theorem sf2 {n : Nat} {sd mi nu : Nat → Int} {k : Int32} {ct : Nat → Bool} (ok : okR n sd mi nu) {p1 : Int32} {kk : zSt → Option zSt} : ∀ (d j f : Nat) (t : zSt), j + d = 4 → d < f → rwM t n sd mi nu k ct → ∃ t', lp_X9_seekFit_2 64 p1 k kk f (zn j) t = kk t' ∧ (∀ i j', i < 4 → j ≤ j' → j' < 4 → zL t' 78 (4 * i + j') = zq (gS ct (tau sd mi nu) i j' n)) ∧ (∀ j', j ≤ j' → j' < 4 → zL t' 79 j' = zq (gS ct (tau sd mi nu) j' 4 n) ∧ zL t' 81 j' = 0) ∧ zOf (fun o c => (o = 78 ∧ j ≤ c % 4) ∨ (o = 79 ∧ j ≤ c) ∨ (o = 81 ∧ j ≤ c)) t t' := by
  have hn := ok.1
  intro d
  induction d with
  | zero =>
    intro j f t hj hf hM
    obtain ⟨f, rfl⟩ : ∃ g, f = g + 1 := ⟨f - 1, by omega⟩
    have hj4 : j = 4 := by omega
    subst hj4
    have h1 : ¬ zn 4 < 4 := by decide
    refine ⟨t, ?_, fun i j' h0 h1 h2 => by omega, fun j' h1 h2 => by omega, zOf.rf⟩
    simp only [lp_X9_seekFit_2, bd_X9_seekFit_2, h1, if_false]
  | succ d ih =>
    intro j f t hj hf hM
    obtain ⟨f, rfl⟩ : ∃ g, f = g + 1 := ⟨f - 1, by omega⟩
    have h1 : zn j < 4 := (zn_lt (b := 4) (by omega) (by omega)).2 (by omega)
    have x2 : ¬ zn j < 0 := zn_neg (by omega)
    have x3 : (zn j).toNatClampNeg = j := zn_cl (by omega)
    have x4 : ¬ 4 ≤ j := by omega
    have e : zOf (fun o c => (o = 79 ∧ c = j) ∨ (o = 81 ∧ c = j)) t (zsL (zsL t 79 j 0) 81 j 0) := (zOf.rf.sL (Or.inl ⟨rfl, rfl⟩)).sL (Or.inr ⟨rfl, rfl⟩)
    obtain ⟨t1, a1, a2, a3⟩ := sf24 ok (p1 := p1) (k := k) (ct := ct) (show j < 4 by omega) (kk := fun l3_12 s_12 => lp_X9_seekFit_115 64 p1 k (fun l3_18 s_18 => lp_X9_seekFit_2 64 p1 k kk f (l3_18 + 1) s_18) zFuel l3_12 0 s_12) 4 0 zFuel _ (by omega) (by unfold zFuel; omega) (hM.of (e 64 30 (by omega)).1 (fun o c h1 h2 => (e o c (by omega)).1))
    have e1 : zOf (fun o c => (o = 78 ∧ c % 4 = j) ∨ (o = 79 ∧ c = j) ∨ (o = 81 ∧ c = j)) t t1 := (e.mono (fun o c h => by omega)).tr (a3.mono (fun o c h => by omega))
    have z79 : zL t1 79 j = 0 := by
      rw [(a3 79 j (by omega)).2.1, zL_sL, if_neg (by omega), zL_sL, if_pos ⟨rfl, rfl⟩]
    have z81 : zL t1 81 j = 0 := by
      rw [(a3 81 j (by omega)).2.1, zL_sL, if_pos ⟨rfl, rfl⟩]
    obtain ⟨t2, b1, b2, b3⟩ := sf115 ok (p1 := p1) (k := k) (ct := ct) (show j < 4 by omega) (kk := fun l3_18 s_18 => lp_X9_seekFit_2 64 p1 k kk f (l3_18 + 1) s_18) n 0 zFuel t1 (by omega) (by unfold zFuel; omega) (hM.of (e1 64 30 (by omega)).1 (fun o c h1 h2 => (e1 o c (by omega)).1)) z79
    have e2 : zOf (fun o c => (o = 78 ∧ c % 4 = j) ∨ (o = 79 ∧ c = j) ∨ (o = 81 ∧ c = j)) t t2 := e1.tr (b3.mono (fun o c h => by omega))
    obtain ⟨t3, c1, c2, c3, c4⟩ := ih (j + 1) f t2 (by omega) (by omega) (hM.of (e2 64 30 (by omega)).1 (fun o c h1 h2 => (e2 o c (by omega)).1))
    refine ⟨t3, ?_, fun i j' h0 h1 h2 => ?_, fun j' h1 h2 => ?_, (e2.mono (fun o c h => by omega)).tr (c4.mono (fun o c h => by omega))⟩
    · simp only [lp_X9_seekFit_2, bd_X9_seekFit_2, h1, if_true, x2, x3, x4, zT_64_33, zT_64_35, zN_79, zN_81, or_self, if_false, zlt_eq]
      refine Eq.trans a1 (Eq.trans b1 ?_)
      rw [zn_succ]
      exact c1
    · by_cases hjj : j' = j
      · subst hjj
        rw [(c4 78 (4 * i + j') (by omega)).2.1, (b3 78 (4 * i + j') (by omega)).2.1]
        exact a2 i (by omega) h0
      · exact c2 i j' h0 (by omega) h2
    · by_cases hjj : j' = j
      · subst hjj
        rw [(c4 79 j' (by omega)).2.1, (c4 81 j' (by omega)).2.1, (b3 81 j' (by omega)).2.1]
        exact ⟨b2, z81⟩
      · exact c3 j' (by omega) h2
def fUj (ct : Nat → Bool) (sd mi nu : Nat → Int) (n u j : Nat) : Int := if j < u then dM u (swp (gT ct sd mi nu n) j) else 0
theorem sf193 {g : Nat → Nat → Int} {u : Nat} (hu : u = 2 ∨ u = 3 ∨ u = 4) {p1 k : Int32} : ∀ (d j f : Nat) (t : zSt), j + d = u → d < f → smE g t → ∃ t', lp_X9_seekFit_193 64 p1 k f (zn u) (zn j) t = some t' ∧ (∀ j', j ≤ j' → j' < u → zL t' 81 j' = zq (dM u (swp g j'))) ∧ zOf (fun o c => o = 80 ∨ (o = 81 ∧ j ≤ c ∧ c < u)) t t' := by
  intro d
  induction d with
  | zero =>
    intro j f t hj hf hg
    obtain ⟨f, rfl⟩ : ∃ g, f = g + 1 := ⟨f - 1, by omega⟩
    have h1 : ¬ zn j < zn u := by rw [zn_lt (by omega) (by omega)]; omega
    refine ⟨t, ?_, fun j' h1 h2 => by omega, zOf.rf⟩
    simp only [lp_X9_seekFit_193, bd_X9_seekFit_193, h1, if_false]
  | succ d ih =>
    intro j f t hj hf hg
    obtain ⟨f, rfl⟩ : ∃ g, f = g + 1 := ⟨f - 1, by omega⟩
    have h1 : zn j < zn u := by rw [zn_lt (by omega) (by omega)]; omega
    have x2 : ¬ zn j < 0 := zn_neg (by omega)
    have x3 : (zn j).toNatClampNeg = j := zn_cl (by omega)
    have x4 : ¬ 4 ≤ j := by omega
    obtain ⟨t1, a1, a2⟩ := det_md hu (sw := j) (by omega) (by omega) hg
    have ej : eSw j = zn j := by unfold eSw; rw [if_pos (by omega)]
    rw [ej] at a1
    have e : zOf (fun o c => o = 80 ∨ (o = 81 ∧ c = j)) t (zsL t1 81 j (zq (dM u (swp g j)))) := (a2.mono (fun o c h => Or.inl h)).sL (Or.inr ⟨rfl, rfl⟩)
    obtain ⟨t2, b1, b2, b3⟩ := ih (j + 1) f _ (by omega) (by omega) ⟨fun i j' hi hj' => (e 78 (4 * i + j') (by omega)).2.1.trans (hg.1 i j' hi hj'), fun j' hj' => (e 79 j' (by omega)).2.1.trans (hg.2 j' hj')⟩
    refine ⟨t2, ?_, fun j' h1 h2 => ?_, (e.mono (fun o c h => by omega)).tr (b3.mono (fun o c h => by omega))⟩
    · simp only [lp_X9_seekFit_193, bd_X9_seekFit_193, h1, if_true, a1, zcl_some, x2, x3, x4, zT_64_35, zN_81, or_self, if_false, zlt_eq, zn_succ]
      exact b1
    · by_cases hjj : j' = j
      · subst hjj
        rw [(b3 81 j' (by omega)).2.1, zL_sL, if_pos ⟨rfl, rfl⟩]
      · exact b2 j' (by omega) h2
theorem seekFit_eq {n : Nat} {sd mi nu : Nat → Int} {k : Int32} {ct : Nat → Bool} (ok : okR n sd mi nu) {u : Nat} (hu : u = 2 ∨ u = 3 ∨ u = 4) {p1 : Int32} (hp : p1 + 2 = zn u) {t : zSt} (hM : rwM t n sd mi nu k ct) : ∃ t', m_X9_seekFit 64 p1 k t = some t' ∧ zL t' 64 36 = zq (dM u (swp (gT ct sd mi nu n) 5)) ∧ (∀ j, j < 4 → zL t' 81 j = zq (fUj ct sd mi nu n u j)) ∧ zOf gSf t t' := by
  obtain ⟨t1, a1, a2, a3, a4⟩ := sf2 ok (p1 := p1) (k := k) (ct := ct) (kk := fun s_19 => zcl (m_X9_determinant 64 (p1 + 2) (-1) s_19) (fun r21 s20 => zlt (zsL s20 64 36 r21) (fun s22 => lp_X9_seekFit_193 64 p1 k zFuel (p1 + 2) 0 s22))) 4 0 zFuel t (by omega) (by unfold zFuel; omega) hM
  have hg : smE (gT ct sd mi nu n) t1 := ⟨fun i j hi hj => a2 i j hi (by omega) hj, fun j hj => (a3 j (by omega) hj).1⟩
  obtain ⟨t2, b1, b2⟩ := det_md hu (sw := 5) (by omega) (by omega) hg
  have e5 : eSw 5 = -1 := by rfl
  rw [e5] at b1
  have e : zOf (fun o c => o = 80 ∨ (o = 64 ∧ c = 36)) t1 (zsL t2 64 36 (zq (dM u (swp (gT ct sd mi nu n) 5)))) := (b2.mono (fun o c h => Or.inl h)).sL (Or.inr ⟨rfl, rfl⟩)
  obtain ⟨t3, c1, c2, c3⟩ := sf193 hu (p1 := p1) (k := k) (g := gT ct sd mi nu n) u 0 zFuel _ (by omega) (by unfold zFuel; omega) ⟨fun i j' hi hj' => (e 78 (4 * i + j') (by omega)).2.1.trans (hg.1 i j' hi hj'), fun j' hj' => (e 79 j' (by omega)).2.1.trans (hg.2 j' hj')⟩
  refine ⟨t3, ?_, ?_, fun j hj => ?_, ((a4.mono (fun o c h => by unfold gSf; omega)).tr (e.mono (fun o c h => by unfold gSf; omega))).tr (c3.mono (fun o c h => by unfold gSf; omega))⟩
  · unfold m_X9_seekFit
    refine Eq.trans a1 ?_
    simp only [hp, b1, zcl_some, zlt_eq]
    exact c1
  · rw [(c3 64 36 (by omega)).2.1, zL_sL, if_pos ⟨rfl, rfl⟩]
  · unfold fUj
    by_cases hju : j < u
    · rw [if_pos hju]
      exact c2 j (by omega) hju
    · rw [if_neg hju, (c3 81 j (by omega)).2.1, (e 81 j (by omega)).2.1]
      exact (a3 j (by omega) hj).2
