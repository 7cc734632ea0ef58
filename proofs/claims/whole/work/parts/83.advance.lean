/-! the class's advance -/
theorem zn_sub {a b : Nat} (h : b ≤ a) : zn a - zn b = zn (a - b) := by
  have := zn_add (a - b) b
  rw [show a - b + b = a by omega] at this
  rw [← this, Int32.add_sub_cancel]
theorem cbF : ∀ v : Fin 256, (cb v.val = 32 ↔ v.val = 32) ∧ (cb v.val = 10 ↔ v.val = 10) ∧ (isL v.val = true → ¬ cb v.val < 97 ∧ ¬ 122 < cb v.val ∧ ((cb v.val - 97) + 1).toInt64 = zq ((v.val - 96 : Nat) : Int)) ∧ (isL v.val = false → cb v.val < 97 ∨ 122 < cb v.val) ∧ (isD v.val = true → ¬ cb v.val < 48 ∧ ¬ 57 < cb v.val ∧ cb v.val - 48 = zn (v.val - 48)) ∧ (isD v.val = false → cb v.val < 48 ∨ 57 < cb v.val) := by decide +kernel
theorem cbG : ∀ v : Fin 256, (cb v.val = 40 ↔ v.val = 40) ∧ (cb v.val = 41 ↔ v.val = 41) ∧ (cb v.val = 42 ↔ v.val = 42) ∧ (cb v.val = 43 ↔ v.val = 43) ∧ (cb v.val = 45 ↔ v.val = 45) ∧ (cb v.val = 47 ↔ v.val = 47) ∧ (cb v.val = 59 ↔ v.val = 59) := by decide +kernel
def tpC (B : Nat → Nat) (N : Nat) (s : zSt) : Prop := N ≤ 800 ∧ zI s 1 1 = zn N ∧ ∀ k, k < N → B k < 256 ∧ zI s 2 k = cb (B k)
def kwC (s : zSt) : Prop := ∀ i, i < 20 → zL s 4 i = zq (c27 (kw i) : Int)
theorem tpC.of {B : Nat → Nat} {N : Nat} {s s' : zSt} (h : tpC B N s) (e : ∀ o k, (o = 1 ∨ o = 2) → zI s' o k = zI s o k) : tpC B N s' := ⟨h.1, (e 1 1 (by omega)).trans h.2.1, fun k hk => ⟨(h.2.2 k hk).1, (e 2 k (by omega)).trans (h.2.2 k hk).2⟩⟩
def g33 (o k : Nat) : Prop := o = 3 ∧ k = 3
theorem ad_skip {B : Nat → Nat} {N : Nat} {kk : zSt → Option zSt} : ∀ (d p f : Nat) (s : zSt), p + d = N → d < f → tpC B N s → zI s 3 3 = zn p → ∃ s', lp_X3_advance_0 3 kk f s = kk s' ∧ zI s' 3 3 = zn (rn isB B N p) ∧ zOf g33 s s' := by
  intro d
  induction d with
  | zero =>
    intro p f s hp hf hT ha
    obtain ⟨f, rfl⟩ : ∃ g, f = g + 1 := ⟨f - 1, by omega⟩
    have h8 := hT.1
    have h1 : ¬ zn p < zn N := by rw [zn_lt (by omega) (by omega)]; omega
    refine ⟨s, ?_, by rw [rn_end (by omega)]; exact ha, zOf.rf⟩
    simp only [lp_X3_advance_0, bd_X3_advance_0, zT_3_0, ha, hT.2.1, h1, if_false]
  | succ d ih =>
    intro p f s hp hf hT ha
    obtain ⟨f, rfl⟩ : ∃ g, f = g + 1 := ⟨f - 1, by omega⟩
    have h8 := hT.1
    have h1 : zn p < zn N := by rw [zn_lt (by omega) (by omega)]; omega
    have h2 : ¬ zn p < 0 := zn_neg (by omega)
    have h3 : (zn p).toNatClampNeg = p := zn_cl (by omega)
    have h4 : ¬ 800 ≤ p := by omega
    obtain ⟨hb, hc⟩ := hT.2.2 p (by omega)
    obtain ⟨c1, c2, -⟩ := cbF ⟨B p, hb⟩
    dsimp only at c1 c2
    simp only [lp_X3_advance_0, bd_X3_advance_0, m_X3_advance_48, zT_3_0, zT_1_0, zN_2, ha, hT.2.1, h1, if_true, h2, h3, h4, or_self, if_false, hc, c1, c2, zlt_eq, zn_succ]
    have e : zOf g33 s (zsI s 3 3 (zn (p + 1))) := zOf.rf.sI ⟨rfl, rfl⟩
    by_cases hbl : isB (B p) = true
    · obtain ⟨s', a1, a2, a3⟩ := ih (p + 1) f (zsI s 3 3 (zn (p + 1))) (by omega) (by omega) (hT.of (fun o k ho => (e o k (by unfold g33; omega)).1)) (by rw [zI_sI, if_pos ⟨rfl, rfl⟩])
      refine ⟨s', ?_, by rw [rn_yes (by omega) hbl]; exact a2, e.tr a3⟩
      unfold isB at hbl
      rw [decide_eq_true_iff] at hbl
      by_cases x : B p = 32
      · rw [if_pos x]; exact a1
      · rw [if_neg x, if_pos (by omega)]; exact a1
    · refine ⟨s, ?_, by rw [rn_no hbl]; exact ha, zOf.rf⟩
      unfold isB at hbl
      rw [decide_eq_true_iff] at hbl
      rw [if_neg (by omega), if_neg (by omega)]
theorem rw_lp {B : Nat → Nat} {N q : Nat} {kk : Int64 → zSt → Option zSt} : ∀ (d n f : Nat) (s : zSt), q + n + d = N → d < f → tpC B N s → zI s 3 3 = zn (q + n) → ∃ s', lp_X3_readWord_2 3 kk f (zq (c27 (wl B q n) : Int)) s = kk (zq (c27 (wl B q (rn isL B N (q + n) - q)) : Int)) s' ∧ zI s' 3 3 = zn (rn isL B N (q + n)) ∧ zOf g33 s s' := by
  intro d
  induction d with
  | zero =>
    intro n f s hp hf hT ha
    obtain ⟨f, rfl⟩ : ∃ g, f = g + 1 := ⟨f - 1, by omega⟩
    have h8 := hT.1
    have h1 : ¬ zn (q + n) < zn N := by rw [zn_lt (by omega) (by omega)]; omega
    rw [rn_end (by omega), show q + n - q = n by omega]
    refine ⟨s, ?_, ha, zOf.rf⟩
    simp only [lp_X3_readWord_2, bd_X3_readWord_2, zT_3_0, ha, hT.2.1, h1, if_false]
  | succ d ih =>
    intro n f s hp hf hT ha
    obtain ⟨f, rfl⟩ : ∃ g, f = g + 1 := ⟨f - 1, by omega⟩
    have h8 := hT.1
    have h1 : zn (q + n) < zn N := by rw [zn_lt (by omega) (by omega)]; omega
    have h2 : ¬ zn (q + n) < 0 := zn_neg (by omega)
    have h3 : (zn (q + n)).toNatClampNeg = q + n := zn_cl (by omega)
    have h4 : ¬ 800 ≤ q + n := by omega
    obtain ⟨hb, hc⟩ := hT.2.2 (q + n) (by omega)
    obtain ⟨-, -, c3, c4, -⟩ := cbF ⟨B (q + n), hb⟩
    dsimp only at c3 c4
    simp only [lp_X3_readWord_2, bd_X3_readWord_2, zT_3_0, zT_1_0, zN_2, ha, hT.2.1, h1, if_true, h2, h3, h4, or_self, if_false, hc, zlt_eq, zn_succ]
    have e : zOf g33 s (zsI s 3 3 (zn (q + n + 1))) := zOf.rf.sI ⟨rfl, rfl⟩
    by_cases hl : isL (B (q + n)) = true
    · obtain ⟨k1, k2, k3⟩ := c3 hl
      obtain ⟨s', a1, a2, a3⟩ := ih (n + 1) f (zsI s 3 3 (zn (q + n + 1))) (by omega) (by omega) (hT.of (fun o k ho => (e o k (by unfold g33; omega)).1)) (by rw [zI_sI, if_pos ⟨rfl, rfl⟩]; rfl)
      rw [rn_yes (by omega) hl]
      refine ⟨s', ?_, a2, e.tr a3⟩
      rw [if_neg k1, if_neg k2, k3, show (27 : Int64) = zq 27 from rfl, zq_mul, zq_add]
      have ec : ((c27 (wl B q (n + 1)) : Nat) : Int) = (c27 (wl B q n) : Int) * 27 + ((B (q + n) - 96 : Nat) : Int) := by
        show ((c27 (wl B q n) * 27 + (B (q + n) - 96) : Nat) : Int) = _
        rw [Int.natCast_add, Int.natCast_mul]; rfl
      rw [ec] at a1
      exact a1
    · rw [rn_no hl, show q + n - q = n by omega]
      refine ⟨s, ?_, ha, zOf.rf⟩
      rcases c4 (by cases h : isL (B (q + n)); rfl; exact absurd h hl) with x | x
      · rw [if_pos x]
      · by_cases y : cb (B (q + n)) < 97
        · rw [if_pos y]
        · rw [if_neg y, if_pos x]
theorem rd_lp {B : Nat → Nat} {N q : Nat} {kk : Int32 → zSt → Option zSt} : ∀ (d n f : Nat) (s : zSt), q + n + d = N → d < f → tpC B N s → zI s 3 3 = zn (q + n) → ∃ s', lp_X3_readNumber_2 3 kk f (zn (nv B q n)) s = kk (zn (nv B q (rn isD B N (q + n) - q))) s' ∧ zI s' 3 3 = zn (rn isD B N (q + n)) ∧ zOf g33 s s' := by
  intro d
  induction d with
  | zero =>
    intro n f s hp hf hT ha
    obtain ⟨f, rfl⟩ : ∃ g, f = g + 1 := ⟨f - 1, by omega⟩
    have h8 := hT.1
    have h1 : ¬ zn (q + n) < zn N := by rw [zn_lt (by omega) (by omega)]; omega
    rw [rn_end (by omega), show q + n - q = n by omega]
    refine ⟨s, ?_, ha, zOf.rf⟩
    simp only [lp_X3_readNumber_2, bd_X3_readNumber_2, zT_3_0, ha, hT.2.1, h1, if_false]
  | succ d ih =>
    intro n f s hp hf hT ha
    obtain ⟨f, rfl⟩ : ∃ g, f = g + 1 := ⟨f - 1, by omega⟩
    have h8 := hT.1
    have h1 : zn (q + n) < zn N := by rw [zn_lt (by omega) (by omega)]; omega
    have h2 : ¬ zn (q + n) < 0 := zn_neg (by omega)
    have h3 : (zn (q + n)).toNatClampNeg = q + n := zn_cl (by omega)
    have h4 : ¬ 800 ≤ q + n := by omega
    obtain ⟨hb, hc⟩ := hT.2.2 (q + n) (by omega)
    obtain ⟨-, -, -, -, c3, c4⟩ := cbF ⟨B (q + n), hb⟩
    dsimp only at c3 c4
    simp only [lp_X3_readNumber_2, bd_X3_readNumber_2, zT_3_0, zT_1_0, zN_2, ha, hT.2.1, h1, if_true, h2, h3, h4, or_self, if_false, hc, zlt_eq, zn_succ]
    have e : zOf g33 s (zsI s 3 3 (zn (q + n + 1))) := zOf.rf.sI ⟨rfl, rfl⟩
    by_cases hl : isD (B (q + n)) = true
    · obtain ⟨k1, k2, k3⟩ := c3 hl
      obtain ⟨s', a1, a2, a3⟩ := ih (n + 1) f (zsI s 3 3 (zn (q + n + 1))) (by omega) (by omega) (hT.of (fun o k ho => (e o k (by unfold g33; omega)).1)) (by rw [zI_sI, if_pos ⟨rfl, rfl⟩]; rfl)
      rw [rn_yes (by omega) hl]
      refine ⟨s', ?_, a2, e.tr a3⟩
      rw [if_neg k1, if_neg k2, k3, show (10 : Int32) = zn 10 from rfl, zn_mul, zn_add]
      exact a1
    · rw [rn_no hl, show q + n - q = n by omega]
      refine ⟨s, ?_, ha, zOf.rf⟩
      rcases c4 (by cases h : isD (B (q + n)); rfl; exact absurd h hl) with x | x
      · rw [if_pos x]
      · by_cases y : cb (B (q + n)) < 48
        · rw [if_pos y]
        · rw [if_neg y, if_pos x]
theorem kw_lp {w : List Nat} (hw : okW w) : ∀ (d i f : Nat) (s : zSt), i + d = 20 → d < f → kwC s → zI s 3 4 = zn (kwF w i) → ∃ s', lp_X3_readWord_120 3 f (zq (c27 w : Int)) (zn i) s = some s' ∧ zI s' 3 4 = zn (kwF w 20) ∧ zOf (fun o k => o = 3 ∧ k = 4) s s' := by
  intro d
  induction d with
  | zero =>
    intro i f s hi hf hK ha
    obtain ⟨f, rfl⟩ : ∃ g, f = g + 1 := ⟨f - 1, by omega⟩
    have hi2 : i = 20 := by omega
    subst hi2
    have h1 : ¬ zn 20 < 20 := by decide
    refine ⟨s, ?_, ha, zOf.rf⟩
    simp only [lp_X3_readWord_120, bd_X3_readWord_120, h1, if_false]
  | succ d ih =>
    intro i f s hi hf hK ha
    obtain ⟨f, rfl⟩ : ∃ g, f = g + 1 := ⟨f - 1, by omega⟩
    have h1 : zn i < 20 := (zn_lt (b := 20) (by omega) (by omega)).2 (by omega)
    have h2 : ¬ zn i < 0 := zn_neg (by omega)
    have h3 : (zn i).toNatClampNeg = i := zn_cl (by omega)
    have h4 : ¬ 20 ≤ i := by omega
    have hk : kwF w (i + 1) = if kw i = w then 256 + i else kwF w i := rfl
    simp only [lp_X3_readWord_120, bd_X3_readWord_120, m_X3_readWord_146, h1, if_true, zT_3_1, zN_4, h2, h3, h4, or_self, if_false, hK i (by omega), nm27 (kw_okW (show i < 20 by omega)) hw, zlt_eq, zn_succ, show (256 : Int32) + zn i = zn (256 + i) from zn_add 256 i]
    by_cases hc : kw i = w
    · rw [if_pos hc]
      rw [if_pos hc] at hk
      have e : zOf (fun o k => o = 3 ∧ k = 4) s (zsI s 3 4 (zn (256 + i))) := zOf.rf.sI ⟨rfl, rfl⟩
      obtain ⟨s', a1, a2, a3⟩ := ih (i + 1) f (zsI s 3 4 (zn (256 + i))) (by omega) (by omega) (fun j hj => (e 4 j (by omega)).2.1.trans (hK j hj)) (by rw [zI_sI, if_pos ⟨rfl, rfl⟩, hk])
      exact ⟨s', a1, a2, e.tr a3⟩
    · rw [if_neg hc]
      rw [if_neg hc] at hk
      exact ih (i + 1) f s (by omega) (by omega) hK (by rw [hk]; exact ha)
def tkC (B : Nat → Nat) (N : Nat) (sm : Bool) (p : Nat) (s : zSt) : Prop := zI s 3 4 = zn (tkd B N sm p) ∧ zI s 3 5 = zn (tpl B N p) ∧ zI s 3 3 = zn (tnx B N p) ∧ (tkd B N sm p = 3 → zI s 3 6 = zn (tnu B N p)) ∧ (tkd B N sm p = 2 → zL s 3 7 = zq (c27 (twd B N p) : Int))
def gAdv (o k : Nat) : Prop := o = 3 ∧ (k = 3 ∨ k = 4 ∨ k = 5 ∨ k = 6 ∨ k = 7)
theorem twd_ok {B : Nat → Nat} {N p : Nat} (hq : tpl B N p ≤ N) (h : ¬ 8 < rn isL B N (tpl B N p) - tpl B N p) : okW (twd B N p) := by
  unfold twd
  refine ⟨by rw [wl_len]; omega, wl_ok _ (fun k hk => rn_all (P := isL) (B := B) (N := N) (N - tpl B N p) (tpl B N p) (by omega) k (by omega))⟩
theorem isSignC {sm : Bool} {v : Nat} (hv : v < 256) {s : zSt} (h2 : zI s 3 2 = zn sm.toNat) : m_X3_isSign 3 (cb v) s = some (if isG sm v = true then 1 else 0, s) := by
  obtain ⟨e1, e2, e3, e4, e5, e6, e7⟩ := cbG ⟨v, hv⟩
  dsimp only at e1 e2 e3 e4 e5 e6 e7
  have hs : zI s 3 2 = 0 ∨ zI s 3 2 = 1 := by rw [h2]; cases sm; exact Or.inl rfl; exact Or.inr rfl
  have hv2 : zI s 3 2 = if sm = true then 1 else 0 := by rw [h2]; cases sm <;> rfl
  simp only [m_X3_isSign, e1, e2, e3, e4, e5, e6, e7, hs, if_true, hv2]
  unfold isG
  by_cases x1 : v = 40
  · subst x1; cases sm <;> rfl
  by_cases x2 : v = 41
  · subst x2; cases sm <;> rfl
  by_cases x3 : v = 42
  · subst x3; cases sm <;> rfl
  by_cases x4 : v = 43
  · subst x4; cases sm <;> rfl
  by_cases x5 : v = 45
  · subst x5; cases sm <;> rfl
  by_cases x6 : v = 47
  · subst x6; cases sm <;> rfl
  by_cases x7 : v = 59
  · subst x7; cases sm <;> rfl
  simp [x1, x2, x3, x4, x5, x6, x7]
theorem advance_eq {B : Nat → Nat} {N : Nat} {sm : Bool} {s : zSt} (hT : tpC B N s) (hK : kwC s) (h2 : zI s 3 2 = zn sm.toNat) {p : Nat} (hp : p ≤ N) (ha : zI s 3 3 = zn p) : ∃ s', m_X3_advance 3 s = some s' ∧ tkC B N sm p s' ∧ zOf gAdv s s' := by
  obtain ⟨s1, a1, a2, a3⟩ := ad_skip (kk := fun s_2 => m_X3_advance_61 3 s_2) (N - p) p zFuel s (by omega) (by have := hT.1; unfold zFuel; omega) hT ha
  have h8 := hT.1
  have hq := rn_bd (P := isB) (B := B) hp
  have eq : rn isB B N p = tpl B N p := rfl
  rw [eq] at a2 hq
  have a3' : zOf gAdv s s1 := a3.mono (fun o k h => by unfold g33 at h; unfold gAdv; omega)
  have e2 : zOf gAdv s (zsI s1 3 5 (zn (tpl B N p))) := a3'.sI (by unfold gAdv; omega)
  have i3 : zI (zsI s1 3 5 (zn (tpl B N p))) 3 3 = zn (tpl B N p) := by rw [zI_sI, if_neg (by omega)]; exact a2
  have i5 : zI (zsI s1 3 5 (zn (tpl B N p))) 3 5 = zn (tpl B N p) := by rw [zI_sI, if_pos ⟨rfl, rfl⟩]
  have hT2 : tpC B N (zsI s1 3 5 (zn (tpl B N p))) := hT.of (fun o k ho => (e2 o k (by unfold gAdv; omega)).1)
  have hK2 : kwC (zsI s1 3 5 (zn (tpl B N p))) := fun i hi => (e2 4 i (by unfold gAdv; omega)).2.1.trans (hK i hi)
  have h22 : zI (zsI s1 3 5 (zn (tpl B N p))) 3 2 = zn sm.toNat := (e2 3 2 (by unfold gAdv; omega)).1.trans h2
  have go : (∃ s', m_X3_advance_61 3 s1 = some s' ∧ tkC B N sm p s' ∧ zOf gAdv (zsI s1 3 5 (zn (tpl B N p))) s') → ∃ s', m_X3_advance 3 s = some s' ∧ tkC B N sm p s' ∧ zOf gAdv s s' := by
    rintro ⟨s', b1, b2, b3⟩
    exact ⟨s', by unfold m_X3_advance; exact Eq.trans a1 b1, b2, e2.tr b3⟩
  apply go
  clear go
  unfold m_X3_advance_61
  rw [a2, zlt_eq]
  generalize zsI s1 3 5 (zn (tpl B N p)) = s2 at *
  clear a1 a2 a3 a3' e2 hT hK h2 ha s1
  simp only [i3, zT_3_0, zT_1_0, zN_2, hT2.2.1]
  by_cases hN : tpl B N p < N
  rotate_left
  · have h1 : ¬ zn (tpl B N p) < zn N := by rw [zn_lt (by omega) (by omega)]; exact hN
    have kz : tkd B N sm p = 0 := by unfold tkd; rw [if_pos (by omega)]
    refine ⟨zsI s2 3 4 0, by simp only [h1, if_false, zlt_eq], ⟨?_, ?_, ?_, ?_, ?_⟩, zOf.rf.sI (by unfold gAdv; omega)⟩
    · rw [kz, zI_sI, if_pos ⟨rfl, rfl⟩]; rfl
    · rw [zI_sI, if_neg (by omega)]; exact i5
    · unfold tnx; rw [if_pos (by omega), zI_sI, if_neg (by omega)]; exact i3
    · intro h; omega
    · intro h; omega
  have h1 : zn (tpl B N p) < zn N := by rw [zn_lt (by omega) (by omega)]; exact hN
  have g2 : ¬ zn (tpl B N p) < 0 := zn_neg (by omega)
  have g3 : (zn (tpl B N p)).toNatClampNeg = tpl B N p := zn_cl (by omega)
  have g4 : ¬ 800 ≤ tpl B N p := by omega
  obtain ⟨hb, hc⟩ := hT2.2.2 (tpl B N p) hN
  obtain ⟨-, -, c3, c4, c5, c6⟩ := cbF ⟨B (tpl B N p), hb⟩
  dsimp only at c3 c4 c5 c6
  simp only [h1, if_true, g2, g3, g4, or_self, if_false, hc]
  by_cases hl : isL (B (tpl B N p)) = true
  · obtain ⟨k1, k2, -⟩ := c3 hl
    rw [if_neg k1, if_neg k2]
    have hr := rn_bd (P := isL) (B := B) (show tpl B N p ≤ N by omega)
    obtain ⟨s3, b1, b2, b3⟩ := rw_lp (B := B) (N := N) (q := tpl B N p) (kk := fun l1_2 s_2 => m_X3_readWord_88 3 l1_2 s_2) (N - tpl B N p) 0 zFuel s2 (by omega) (by unfold zFuel; omega) hT2 i3
    have b1' : m_X3_readWord 3 s2 = m_X3_readWord_88 3 (zq (c27 (twd B N p) : Int)) s3 := b1
    rw [Nat.add_zero] at b2
    have j5 : zI s3 3 5 = zn (tpl B N p) := (b3 3 5 (by unfold g33; omega)).1.trans i5
    have kk1 : tkd B N sm p = if 8 < rn isL B N (tpl B N p) - tpl B N p then 1 else kwF (twd B N p) 20 := by
      unfold tkd; rw [if_neg (by omega), if_pos hl]
    have nx : tnx B N p = rn isL B N (tpl B N p) := by unfold tnx; rw [if_neg (by omega), if_pos hl]
    have l8 : (8 : Int32) < zn (rn isL B N (tpl B N p) - tpl B N p) ↔ 8 < rn isL B N (tpl B N p) - tpl B N p := zn_lt (a := 8) (by omega) (by omega)
    have b3' : zOf gAdv s2 s3 := b3.mono (fun o k h => by unfold g33 at h; unfold gAdv; omega)
    rw [b1']
    unfold m_X3_readWord_88
    rw [b2, j5, zn_sub (by omega)]
    simp only [l8]
    by_cases h9 : 8 < rn isL B N (tpl B N p) - tpl B N p
    · rw [if_pos h9] at kk1
      refine ⟨zsI s3 3 4 1, by simp only [h9, if_true, zlt_eq, zcv_some], ⟨?_, ?_, ?_, ?_, ?_⟩, b3'.sI (by unfold gAdv; omega)⟩
      · rw [kk1, zI_sI, if_pos ⟨rfl, rfl⟩]; rfl
      · rw [zI_sI, if_neg (by omega)]; exact j5
      · rw [nx, zI_sI, if_neg (by omega)]; exact b2
      · intro h; omega
      · intro h; omega
    · rw [if_neg h9] at kk1
      have hw := twd_ok (B := B) (N := N) (p := p) (by omega) h9
      have e4 : zOf gAdv s2 (zsI (zsL s3 3 7 (zq (c27 (twd B N p) : Int))) 3 4 2) := (b3'.sL (by unfold gAdv; omega)).sI (by unfold gAdv; omega)
      obtain ⟨s4, d1, d2, d3⟩ := kw_lp hw 20 0 zFuel (zsI (zsL s3 3 7 (zq (c27 (twd B N p) : Int))) 3 4 2) (by omega) (by unfold zFuel; omega) (fun i hi => (e4 4 i (by unfold gAdv; omega)).2.1.trans (hK2 i hi)) (by rw [zI_sI, if_pos ⟨rfl, rfl⟩]; rfl)
      have d1' : lp_X3_readWord_120 3 zFuel (zq (c27 (twd B N p) : Int)) 0 (zsI (zsL s3 3 7 (zq (c27 (twd B N p) : Int))) 3 4 2) = some s4 := d1
      refine ⟨s4, by simp only [h9, if_false, zlt_eq, d1', zcv_some], ⟨?_, ?_, ?_, ?_, ?_⟩, e4.tr (d3.mono (fun o k h => by unfold gAdv; omega))⟩
      · rw [kk1]; exact d2
      · rw [(d3 3 5 (by omega)).1, zI_sI, if_neg (by omega), zI_sL]; exact j5
      · rw [nx, (d3 3 3 (by omega)).1, zI_sI, if_neg (by omega), zI_sL]; exact b2
      · intro h
        rcases kwF_spec (w := twd B N p) 20 (by omega) with ⟨x, -⟩ | ⟨i, -, x, -⟩ <;> omega
      · intro _
        rw [(d3 3 7 (by omega)).2.1, zL_sI, zL_sL, if_pos ⟨rfl, rfl⟩]
  have nl : ¬ (isL (B (tpl B N p)) = true) := hl
  have c4' := c4 (by cases h : isL (B (tpl B N p)); rfl; exact absurd h hl)
  have e121 : (if cb (B (tpl B N p)) < 97 then m_X3_advance_121 3 (cb (B (tpl B N p))) s2 else if 122 < cb (B (tpl B N p)) then m_X3_advance_121 3 (cb (B (tpl B N p))) s2 else zcv (m_X3_readWord 3 s2) (fun s9 => some s9)) = m_X3_advance_121 3 (cb (B (tpl B N p))) s2 := by
    rcases c4' with x | x
    · rw [if_pos x]
    · by_cases y : cb (B (tpl B N p)) < 97
      · rw [if_pos y]
      · rw [if_neg y, if_pos x]
  rw [e121]
  unfold m_X3_advance_121
  by_cases hd : isD (B (tpl B N p)) = true
  · obtain ⟨k1, k2, -⟩ := c5 hd
    rw [if_neg k1, if_neg k2]
    have hr := rn_bd (P := isD) (B := B) (show tpl B N p ≤ N by omega)
    obtain ⟨s3, b1, b2, b3⟩ := rd_lp (B := B) (N := N) (q := tpl B N p) (kk := fun l1_2 s_2 => m_X3_readNumber_84 3 l1_2 s_2) (N - tpl B N p) 0 zFuel s2 (by omega) (by unfold zFuel; omega) hT2 i3
    have b1' : m_X3_readNumber 3 s2 = m_X3_readNumber_84 3 (zn (tnu B N p)) s3 := b1
    rw [Nat.add_zero] at b2
    have b3' : zOf gAdv s2 s3 := b3.mono (fun o k h => by unfold g33 at h; unfold gAdv; omega)
    have j5 : zI s3 3 5 = zn (tpl B N p) := (b3 3 5 (by unfold g33; omega)).1.trans i5
    have hT3 : tpC B N s3 := hT2.of (fun o k ho => (b3 o k (by unfold g33; omega)).1)
    have kk1 : tkd B N sm p = if 4 < rn isD B N (tpl B N p) - tpl B N p ∨ (rn isD B N (tpl B N p) < N ∧ isL (B (rn isD B N (tpl B N p))) = true) then 1 else 3 := by
      unfold tkd; rw [if_neg (by omega), if_neg hl, if_pos hd]
    have nx : tnx B N p = rn isD B N (tpl B N p) := by unfold tnx; rw [if_neg (by omega), if_neg hl, if_pos hd]
    have key : m_X3_readNumber_84 3 (zn (tnu B N p)) s3 = m_X3_readNumber_137 3 (zn (tnu B N p)) (if rn isD B N (tpl B N p) < N ∧ isL (B (rn isD B N (tpl B N p))) = true then 1 else 0) s3 := by
      unfold m_X3_readNumber_84 m_X3_readNumber_136
      simp only [b2, zT_3_0, zT_1_0, zN_2, hT3.2.1]
      by_cases hx : rn isD B N (tpl B N p) < N
      · have y1 : zn (rn isD B N (tpl B N p)) < zn N := by rw [zn_lt (by omega) (by omega)]; exact hx
        have y2 : ¬ zn (rn isD B N (tpl B N p)) < 0 := zn_neg (by omega)
        have y3 : (zn (rn isD B N (tpl B N p))).toNatClampNeg = rn isD B N (tpl B N p) := zn_cl (by omega)
        have y4 : ¬ 800 ≤ rn isD B N (tpl B N p) := by omega
        obtain ⟨hb3, hc3⟩ := hT3.2.2 (rn isD B N (tpl B N p)) hx
        obtain ⟨-, -, u3, u4, -⟩ := cbF ⟨B (rn isD B N (tpl B N p)), hb3⟩
        dsimp only at u3 u4
        simp only [y1, if_true, y2, y3, y4, or_self, if_false, hc3, hx, true_and]
        by_cases hlx : isL (B (rn isD B N (tpl B N p))) = true
        · obtain ⟨v1, v2, -⟩ := u3 hlx
          rw [if_neg v1, if_neg v2, if_pos hlx]
        · rw [if_neg hlx]
          rcases u4 (by cases h : isL (B (rn isD B N (tpl B N p))); rfl; exact absurd h hlx) with x | x
          · rw [if_pos x]
          · by_cases y : cb (B (rn isD B N (tpl B N p))) < 97
            · rw [if_pos y]
            · rw [if_neg y, if_pos x]
      · have y1 : ¬ zn (rn isD B N (tpl B N p)) < zn N := by rw [zn_lt (by omega) (by omega)]; exact hx
        rw [if_neg y1, if_neg (fun h => hx h.1)]
    rw [b1', key]
    have z3 : zI (zsI s3 3 6 (zn (tnu B N p))) 3 3 = zn (rn isD B N (tpl B N p)) := by rw [zI_sI, if_neg (by omega)]; exact b2
    have z5 : zI (zsI s3 3 6 (zn (tnu B N p))) 3 5 = zn (tpl B N p) := by rw [zI_sI, if_neg (by omega)]; exact j5
    have l4 : (4 : Int32) < zn (rn isD B N (tpl B N p) - tpl B N p) ↔ 4 < rn isD B N (tpl B N p) - tpl B N p := zn_lt (a := 4) (by omega) (by omega)
    have fin : ∀ (x : Int32) (k : Nat), x = zn k → tkd B N sm p = k → (k = 1 ∨ k = 3) → ∃ s', some (zsI (zsI s3 3 6 (zn (tnu B N p))) 3 4 x) = some s' ∧ tkC B N sm p s' ∧ zOf gAdv s2 s' := by
      intro x k hx hk h13
      refine ⟨zsI (zsI s3 3 6 (zn (tnu B N p))) 3 4 x, rfl, ⟨?_, ?_, ?_, ?_, ?_⟩, (b3'.sI (by unfold gAdv; omega)).sI (by unfold gAdv; omega)⟩
      · rw [hk, zI_sI, if_pos ⟨rfl, rfl⟩, hx]
      · rw [zI_sI, if_neg (by omega)]; exact z5
      · rw [nx, zI_sI, if_neg (by omega)]; exact z3
      · intro _; rw [zI_sI, if_neg (by omega), zI_sI, if_pos ⟨rfl, rfl⟩]
      · intro h; omega
    unfold m_X3_readNumber_137 m_X3_readNumber_161
    simp only [zlt_eq, z3, z5, zn_sub hr.1, l4]
    by_cases hx : rn isD B N (tpl B N p) < N ∧ isL (B (rn isD B N (tpl B N p))) = true
    · rw [if_pos hx, if_neg (by decide)]
      rw [if_pos (Or.inr hx)] at kk1
      exact fin 1 1 rfl kk1 (Or.inl rfl)
    · rw [if_neg hx, if_pos rfl]
      by_cases h4 : 4 < rn isD B N (tpl B N p) - tpl B N p
      · rw [if_pos h4]
        rw [if_pos (Or.inl h4)] at kk1
        exact fin 1 1 rfl kk1 (Or.inl rfl)
      · rw [if_neg h4]
        rw [if_neg (fun h => h.elim h4 hx)] at kk1
        exact fin 3 3 rfl kk1 (Or.inr rfl)
  have c6' := c6 (by cases h : isD (B (tpl B N p)); rfl; exact absurd h hd)
  have e140 : (if cb (B (tpl B N p)) < 48 then m_X3_advance_140 3 (cb (B (tpl B N p))) s2 else if 57 < cb (B (tpl B N p)) then m_X3_advance_140 3 (cb (B (tpl B N p))) s2 else zcv (m_X3_readNumber 3 s2) (fun s8 => some s8)) = m_X3_advance_140 3 (cb (B (tpl B N p))) s2 := by
    rcases c6' with x | x
    · rw [if_pos x]
    · by_cases y : cb (B (tpl B N p)) < 48
      · rw [if_pos y]
      · rw [if_neg y, if_pos x]
  rw [e140]
  unfold m_X3_advance_140 m_X3_advance_154
  rw [isSignC hb h22, zcl_some]
  have nx : tnx B N p = tpl B N p + 1 := by unfold tnx; rw [if_neg (by omega), if_neg hl, if_neg hd]
  have kk1 : tkd B N sm p = if isG sm (B (tpl B N p)) = true then B (tpl B N p) else 1 := by
    unfold tkd; rw [if_neg (by omega), if_neg hl, if_neg hd]
  have fin : ∀ (x : Int32) (k : Nat), x = zn k → tkd B N sm p = k → k ≠ 2 → k ≠ 3 → ∃ s', some (zsI (zsI s2 3 4 x) 3 3 (zn (tpl B N p) + 1)) = some s' ∧ tkC B N sm p s' ∧ zOf gAdv s2 s' := by
    intro x k hx hk n2 n3
    refine ⟨zsI (zsI s2 3 4 x) 3 3 (zn (tpl B N p) + 1), rfl, ⟨?_, ?_, ?_, ?_, ?_⟩, (zOf.rf.sI (by unfold gAdv; omega)).sI (by unfold gAdv; omega)⟩
    · rw [hk, zI_sI, if_neg (by omega), zI_sI, if_pos ⟨rfl, rfl⟩, hx]
    · rw [zI_sI, if_neg (by omega), zI_sI, if_neg (by omega)]; exact i5
    · rw [nx, zI_sI, if_pos ⟨rfl, rfl⟩, zn_succ]
    · intro h; omega
    · intro h; omega
  have z3 : ∀ x, zI (zsI s2 3 4 x) 3 3 = zn (tpl B N p) := fun x => by rw [zI_sI, if_neg (by omega)]; exact i3
  simp only [zlt_eq, z3]
  by_cases hg : isG sm (B (tpl B N p)) = true
  · simp only [hg, if_true, show ¬ (1 : Int32) = 0 by decide, if_false]
    rw [if_pos hg] at kk1
    have hgv : B (tpl B N p) = 59 ∨ B (tpl B N p) = 45 ∨ B (tpl B N p) = 40 ∨ B (tpl B N p) = 41 ∨ B (tpl B N p) = 42 ∨ B (tpl B N p) = 43 ∨ B (tpl B N p) = 47 := by
      unfold isG at hg
      rw [Bool.or_eq_true, Bool.and_eq_true, decide_eq_true_iff, decide_eq_true_iff] at hg
      omega
    refine fin (cb (B (tpl B N p))) _ ?_ kk1 (by omega) (by omega)
    unfold cb; rw [if_pos (by omega)]
  · simp only [hg, if_false, if_true]
    rw [if_neg hg] at kk1
    exact fin 1 1 rfl kk1 (by omega) (by omega)
