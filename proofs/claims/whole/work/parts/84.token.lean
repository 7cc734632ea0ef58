/-! the model's token -/
def tpM (B : Nat → Nat) (N : Nat) (t : zSt) : Prop := N ≤ 800 ∧ zI t 64 5 = zn N ∧ ∀ k, k < N → B k < 256 ∧ zI t 65 k = zn (B k)
theorem tpM.of {B : Nat → Nat} {N : Nat} {t t' : zSt} (h : tpM B N t) (e0 : zI t' 64 5 = zI t 64 5) (e : ∀ k, zI t' 65 k = zI t 65 k) : tpM B N t' := ⟨h.1, e0.trans h.2.1, fun k hk => ⟨(h.2.2 k hk).1, (e k).trans (h.2.2 k hk).2⟩⟩
def hv (B : Nat → Nat) (N k : Nat) : Int32 := if k < N then zn (B k) else -1
theorem here_eq {B : Nat → Nat} {N : Nat} {t : zSt} (hT : tpM B N t) {a n : Nat} (ha : zI t 64 4 = zn a) (hn : a + n ≤ N) : m_X9_here 64 (zn n) t = some (hv B N (a + n), t) := by
  have h8 := hT.1
  unfold hv
  simp only [m_X9_here, ha, zn_add, hT.2.1, zT_64_0, zN_65]
  by_cases h : a + n < N
  · have h1 : zn (a + n) < zn N := by rw [zn_lt (by omega) (by omega)]; exact h
    have h2 : ¬ zn (a + n) < 0 := zn_neg (by omega)
    have h3 : (zn (a + n)).toNatClampNeg = a + n := zn_cl (by omega)
    have h4 : ¬ 800 ≤ a + n := by omega
    simp only [h1, if_true, h2, h3, h4, or_self, if_false, h, (hT.2.2 (a + n) h).2]
  · have h1 : ¬ zn (a + n) < zn N := by rw [zn_lt (by omega) (by omega)]; exact h
    simp only [h1, if_false, h]
theorem isLetterM {B : Nat → Nat} {N : Nat} {t : zSt} (hT : tpM B N t) (k : Nat) (s : zSt) : m_X9_isLetter (hv B N k) s = some (if k < N ∧ isL (B k) = true then 1 else 0, s) := by
  unfold hv
  by_cases h : k < N
  · have hb := (hT.2.2 k h).1
    have l1 : zn (B k) < 97 ↔ B k < 97 := zn_lt (b := 97) (by omega) (by omega)
    have l2 : 122 < zn (B k) ↔ 122 < B k := zn_lt (a := 122) (by omega) (by omega)
    simp only [m_X9_isLetter, h, if_true, l1, l2, true_and, isL, decide_eq_true_iff]
    by_cases x : B k < 97
    · rw [if_pos x, if_neg (by omega)]
    · by_cases y : 122 < B k
      · rw [if_neg x, if_pos y, if_neg (by omega)]
      · rw [if_neg x, if_neg y, if_pos (by omega)]
  · simp only [m_X9_isLetter, h, if_false, false_and, show (-1 : Int32) < 97 by decide, if_true]
theorem isDigitM {B : Nat → Nat} {N : Nat} {t : zSt} (hT : tpM B N t) (k : Nat) (s : zSt) : m_X9_isDigit (hv B N k) s = some (if k < N ∧ isD (B k) = true then 1 else 0, s) := by
  unfold hv
  by_cases h : k < N
  · have hb := (hT.2.2 k h).1
    have l1 : zn (B k) < 48 ↔ B k < 48 := zn_lt (b := 48) (by omega) (by omega)
    have l2 : 57 < zn (B k) ↔ 57 < B k := zn_lt (a := 57) (by omega) (by omega)
    simp only [m_X9_isDigit, h, if_true, l1, l2, true_and, isD, decide_eq_true_iff]
    by_cases x : B k < 48
    · rw [if_pos x, if_neg (by omega)]
    · by_cases y : 57 < B k
      · rw [if_neg x, if_pos y, if_neg (by omega)]
      · rw [if_neg x, if_neg y, if_pos (by omega)]
  · simp only [m_X9_isDigit, h, if_false, false_and, show (-1 : Int32) < 48 by decide, if_true]
theorem hv_eq {B : Nat → Nat} {N : Nat} {t : zSt} (hT : tpM B N t) {k c : Nat} (hc : c < 256) : hv B N k = zn c ↔ (k < N ∧ B k = c) := by
  unfold hv
  by_cases h : k < N
  · have hb := (hT.2.2 k h).1
    rw [if_pos h, zn_inj (by omega) (by omega)]
    exact ⟨fun x => ⟨h, x⟩, fun x => x.2⟩
  · rw [if_neg h]
    refine ⟨fun x => ?_, fun x => absurd x.1 h⟩
    have h1 : (-1 : Int32).toInt = -1 := rfl
    have h2 := zn_int (a := c) (by omega)
    rw [← x, h1] at h2
    omega
def g644 (o k : Nat) : Prop := o = 64 ∧ k = 4
theorem to_skip {B : Nat → Nat} {N : Nat} {kk : zSt → Option zSt} : ∀ (d p f : Nat) (t : zSt), p + d = N → d < f → tpM B N t → zI t 64 4 = zn p → ∃ t', lp_X9_token_0 64 kk f t = kk t' ∧ zI t' 64 4 = zn (rn isB B N p) ∧ zOf g644 t t' := by
  intro d
  induction d with
  | zero =>
    intro p f t hp hf hT ha
    obtain ⟨f, rfl⟩ : ∃ g, f = g + 1 := ⟨f - 1, by omega⟩
    have hh := here_eq hT (n := 0) ha (by omega)
    rw [Nat.add_zero, show zn 0 = (0 : Int32) from rfl] at hh
    have e1 : ¬ hv B N p = 32 := fun h => by have := ((hv_eq hT (c := 32) (by omega)).1 h).1; omega
    have e2 : ¬ hv B N p = 10 := fun h => by have := ((hv_eq hT (c := 10) (by omega)).1 h).1; omega
    refine ⟨t, ?_, by rw [rn_end (by omega)]; exact ha, zOf.rf⟩
    simp only [lp_X9_token_0, bd_X9_token_0, hh, zcl_some, e1, e2, if_false]
  | succ d ih =>
    intro p f t hp hf hT ha
    obtain ⟨f, rfl⟩ : ∃ g, f = g + 1 := ⟨f - 1, by omega⟩
    have hh := here_eq hT (n := 0) ha (by omega)
    rw [Nat.add_zero, show zn 0 = (0 : Int32) from rfl] at hh
    have e1 : hv B N p = 32 ↔ B p = 32 := by
      have := hv_eq hT (k := p) (c := 32) (by omega)
      exact ⟨fun h => (this.1 h).2, fun h => this.2 ⟨by omega, h⟩⟩
    have e2 : hv B N p = 10 ↔ B p = 10 := by
      have := hv_eq hT (k := p) (c := 10) (by omega)
      exact ⟨fun h => (this.1 h).2, fun h => this.2 ⟨by omega, h⟩⟩
    simp only [lp_X9_token_0, bd_X9_token_0, m_X9_token_20, hh, zcl_some, e1, e2, ha, zn_succ, zlt_eq]
    have e : zOf g644 t (zsI t 64 4 (zn (p + 1))) := zOf.rf.sI ⟨rfl, rfl⟩
    by_cases hbl : isB (B p) = true
    · obtain ⟨t', a1, a2, a3⟩ := ih (p + 1) f (zsI t 64 4 (zn (p + 1))) (by omega) (by omega) (hT.of (e 64 5 (by unfold g644; omega)).1 (fun k => (e 65 k (by unfold g644; omega)).1)) (by rw [zI_sI, if_pos ⟨rfl, rfl⟩])
      refine ⟨t', ?_, by rw [rn_yes (by omega) hbl]; exact a2, e.tr a3⟩
      unfold isB at hbl
      rw [decide_eq_true_iff] at hbl
      by_cases x : B p = 32
      · rw [if_pos x]; exact a1
      · rw [if_neg x, if_pos (by omega)]; exact a1
    · refine ⟨t, ?_, by rw [rn_no hbl]; exact ha, zOf.rf⟩
      unfold isB at hbl
      rw [decide_eq_true_iff] at hbl
      rw [if_neg (by omega), if_neg (by omega)]
theorem shl8 {W v : Nat} (hW : W < 36028797018963968) (hv : v < 256) : (zq (W : Int) <<< ((8 : Int32).toInt64 &&& 63)) ||| (zn v).toInt64 = zq ((W * 256 + v : Nat) : Int) := by
  have e1 : (zn v).toInt64 = zq ((v : Nat) : Int) := by rw [zq_i32, zn_int (by omega)]
  rw [e1]
  apply Int64.toBitVec_inj.1
  have h1 : ((zq (W : Int) <<< ((8 : Int32).toInt64 &&& 63)) ||| zq (v : Int)).toBitVec = ((zq (W : Int)).toBitVec <<< 8) ||| (zq (v : Int)).toBitVec := rfl
  have h2 : ∀ x : Nat, (zq (x : Int)).toBitVec = BitVec.ofNat 64 x := fun x => BitVec.ofInt_natCast 64 x
  rw [h1, h2, h2, h2]
  apply BitVec.eq_of_toNat_eq
  rw [BitVec.toNat_or, BitVec.toNat_shiftLeft, BitVec.toNat_ofNat, BitVec.toNat_ofNat, BitVec.toNat_ofNat]
  rw [Nat.mod_eq_of_lt (show W < 2 ^ 64 by omega), Nat.mod_eq_of_lt (show v < 2 ^ 64 by omega), Nat.mod_eq_of_lt (show W * 256 + v < 2 ^ 64 by omega), Nat.shiftLeft_eq, Nat.mod_eq_of_lt (show W * 2 ^ 8 < 2 ^ 64 by omega)]
  have := Nat.two_pow_add_eq_or_of_lt (i := 8) (b := v) (by omega) W
  rw [Nat.mul_comm W (2 ^ 8), ← this]
theorem c256_7 {w : List Nat} (h : w.length < 8) (h2 : ∀ x ∈ w, 1 ≤ x ∧ x ≤ 26) : c256 w < 36028797018963968 := by
  have h1 := c256_lt w h2
  have h2 : 256 ^ (w.length - 1) ≤ 256 ^ 6 := Nat.pow_le_pow_right (by omega) (by omega)
  have h3 : 256 ^ 6 = 281474976710656 := by decide
  omega
theorem tw_lp {B : Nat → Nat} {N q : Nat} {kk : Int32 → zSt → Option zSt} : ∀ (d n f : Nat) (t : zSt), q + n + d = N → d < f → tpM B N t → zI t 64 4 = zn q → (∀ k, k < n → isL (B (q + k)) = true) → (n ≤ 8 → zL t 64 9 = zq (c256 (wl B q n) : Int)) → ∃ t', lp_X9_token_78 64 kk f (zn n) t = kk (zn (rn isL B N (q + n) - q)) t' ∧ (rn isL B N (q + n) - q ≤ 8 → zL t' 64 9 = zq (c256 (wl B q (rn isL B N (q + n) - q)) : Int)) ∧ zOf (fun o k => o = 64 ∧ k = 9) t t' := by
  intro d
  induction d with
  | zero =>
    intro n f t hp hf hT ha hL hw
    obtain ⟨f, rfl⟩ : ∃ g, f = g + 1 := ⟨f - 1, by omega⟩
    rw [rn_end (by omega), show q + n - q = n by omega]
    refine ⟨t, ?_, hw, zOf.rf⟩
    simp only [lp_X9_token_78, bd_X9_token_78, here_eq hT ha (show q + n ≤ N by omega), zcl_some, isLetterM hT, show ¬ (q + n < N) by omega, false_and, if_false, if_true]
  | succ d ih =>
    intro n f t hp hf hT ha hL hw
    have h8 := hT.1
    obtain ⟨f, rfl⟩ : ∃ g, f = g + 1 := ⟨f - 1, by omega⟩
    have l8 : zn n < 8 ↔ n < 8 := zn_lt (b := 8) (by omega) (by omega)
    simp only [lp_X9_token_78, bd_X9_token_78, m_X9_token_113, here_eq hT ha (show q + n ≤ N by omega), zcl_some, isLetterM hT, show q + n < N by omega, true_and, l8, zlt_eq, zn_succ]
    by_cases hl : isL (B (q + n)) = true
    · have hL' : ∀ k, k < n + 1 → isL (B (q + k)) = true := fun k hk => by
        by_cases h : k = n
        · rw [h]; exact hl
        · exact hL k (by omega)
      rw [rn_yes (by omega) hl]
      simp only [hl, if_true, show ¬ (1 : Int32) = 0 by decide, if_false]
      by_cases hn : n < 8
      · rw [if_pos hn, hw (by omega)]
        have hb := (hT.2.2 (q + n) (by omega)).1
        have eh : hv B N (q + n) = zn (B (q + n)) := by unfold hv; rw [if_pos (by omega)]
        have hlv : 97 ≤ B (q + n) := by unfold isL at hl; rw [decide_eq_true_iff] at hl; omega
        rw [eh, shl8 (c256_7 (by rw [wl_len]; omega) (wl_ok n hL)) hb]
        have ec : c256 (wl B q n) * 256 + B (q + n) = c256 (wl B q (n + 1)) := by
          show _ = c256 (wl B q n) * 256 + (B (q + n) - 96 + 96)
          omega
        rw [ec]
        have e : zOf (fun o k => o = 64 ∧ k = 9) t (zsL t 64 9 (zq (c256 (wl B q (n + 1)) : Int))) := zOf.rf.sL ⟨rfl, rfl⟩
        obtain ⟨t', a1, a2, a3⟩ := ih (n + 1) f _ (by omega) (by omega) (hT.of (e 64 5 (by omega)).1 (fun k => (e 65 k (by omega)).1)) ((e 64 4 (by omega)).1.trans ha) hL' (fun _ => by rw [zL_sL, if_pos ⟨rfl, rfl⟩])
        exact ⟨t', a1, a2, e.tr a3⟩
      · rw [if_neg hn]
        exact ih (n + 1) f t (by omega) (by omega) hT ha hL' (fun h => by omega)
    · rw [rn_no hl, show q + n - q = n by omega]
      simp only [hl, if_false, if_true]
      exact ⟨t, rfl, hw, zOf.rf⟩
theorem td_lp {B : Nat → Nat} {N q : Nat} {kk : Int32 → zSt → Option zSt} : ∀ (d n f : Nat) (t : zSt), q + n + d = N → d < f → tpM B N t → zI t 64 4 = zn q → (n ≤ 4 → zI t 64 8 = zn (nv B q n)) → ∃ t', lp_X9_token_144 64 kk f (zn n) t = kk (zn (rn isD B N (q + n) - q)) t' ∧ (rn isD B N (q + n) - q ≤ 4 → zI t' 64 8 = zn (nv B q (rn isD B N (q + n) - q))) ∧ zOf (fun o k => o = 64 ∧ k = 8) t t' := by
  intro d
  induction d with
  | zero =>
    intro n f t hp hf hT ha hw
    obtain ⟨f, rfl⟩ : ∃ g, f = g + 1 := ⟨f - 1, by omega⟩
    rw [rn_end (by omega), show q + n - q = n by omega]
    refine ⟨t, ?_, hw, zOf.rf⟩
    simp only [lp_X9_token_144, bd_X9_token_144, here_eq hT ha (show q + n ≤ N by omega), zcl_some, isDigitM hT, show ¬ (q + n < N) by omega, false_and, if_false, if_true]
  | succ d ih =>
    intro n f t hp hf hT ha hw
    have h8 := hT.1
    obtain ⟨f, rfl⟩ : ∃ g, f = g + 1 := ⟨f - 1, by omega⟩
    have l4 : zn n < 4 ↔ n < 4 := zn_lt (b := 4) (by omega) (by omega)
    simp only [lp_X9_token_144, bd_X9_token_144, m_X9_token_180, here_eq hT ha (show q + n ≤ N by omega), zcl_some, isDigitM hT, show q + n < N by omega, true_and, l4, zlt_eq, zn_succ]
    by_cases hl : isD (B (q + n)) = true
    · rw [rn_yes (by omega) hl]
      simp only [hl, if_true, show ¬ (1 : Int32) = 0 by decide, if_false]
      by_cases hn : n < 4
      · rw [if_pos hn, hw (by omega)]
        have hb := (hT.2.2 (q + n) (by omega)).1
        have eh : hv B N (q + n) = zn (B (q + n)) := by unfold hv; rw [if_pos (by omega)]
        have hlv : 48 ≤ B (q + n) := by unfold isD at hl; rw [decide_eq_true_iff] at hl; omega
        have ev : ((10 : Int32) * zn (nv B q n) + zn (B (q + n))) - 48 = zn (nv B q (n + 1)) := by
          rw [show (10 : Int32) = zn 10 from rfl, zn_mul, zn_add, show (48 : Int32) = zn 48 from rfl, zn_sub (by omega)]
          congr 1
          show _ = nv B q n * 10 + (B (q + n) - 48)
          omega
        rw [eh, ev]
        have e : zOf (fun o k => o = 64 ∧ k = 8) t (zsI t 64 8 (zn (nv B q (n + 1)))) := zOf.rf.sI ⟨rfl, rfl⟩
        obtain ⟨t', a1, a2, a3⟩ := ih (n + 1) f _ (by omega) (by omega) (hT.of (e 64 5 (by omega)).1 (fun k => (e 65 k (by omega)).1)) ((e 64 4 (by omega)).1.trans ha) (fun _ => by rw [zI_sI, if_pos ⟨rfl, rfl⟩])
        exact ⟨t', a1, a2, e.tr a3⟩
      · rw [if_neg hn]
        exact ih (n + 1) f t (by omega) (by omega) hT ha (fun h => by omega)
    · rw [rn_no hl, show q + n - q = n by omega]
      simp only [hl, if_false, if_true]
      exact ⟨t, rfl, hw, zOf.rf⟩
def msr (k : Nat) : Nat := if k = 0 then 0 else if k = 1 then 3 else if k = 2 ∨ 256 ≤ k then 1 else if k = 3 then 2 else k
def tkM (B : Nat → Nat) (N : Nat) (sm : Bool) (p : Nat) (t : zSt) : Prop := zI t 64 6 = zn (msr (tkd B N sm p)) ∧ zI t 64 7 = zn (tpl B N p) ∧ (tkd B N sm p ≠ 1 → zI t 64 4 = zn (tnx B N p)) ∧ (tkd B N sm p = 3 → zI t 64 8 = zn (tnu B N p)) ∧ ((tkd B N sm p = 2 ∨ 256 ≤ tkd B N sm p) → zL t 64 9 = zq (c256 (twd B N p) : Int))
def gTok (o k : Nat) : Prop := o = 64 ∧ (k = 4 ∨ k = 6 ∨ k = 7 ∨ k = 8 ∨ k = 9)
theorem isSignM {B : Nat → Nat} {N : Nat} {t : zSt} (hT : tpM B N t) {sm : Bool} {k : Nat} (hk : k < N) {s : zSt} (h2 : zI s 64 10 = zn sm.toNat) : m_X9_isSign 64 (hv B N k) s = some (if isG sm (B k) = true then 1 else 0, s) := by
  have he : ∀ c, c < 256 → (hv B N k = zn c ↔ B k = c) := fun c hc => by
    have := hv_eq hT (k := k) (c := c) hc
    exact ⟨fun h => (this.1 h).2, fun h => this.2 ⟨hk, h⟩⟩
  have e1 : hv B N k = 59 ↔ B k = 59 := he 59 (by omega)
  have e2 : hv B N k = 45 ↔ B k = 45 := he 45 (by omega)
  have e3 : hv B N k = 40 ↔ B k = 40 := he 40 (by omega)
  have e4 : hv B N k = 41 ↔ B k = 41 := he 41 (by omega)
  have e5 : hv B N k = 43 ↔ B k = 43 := he 43 (by omega)
  have e6 : hv B N k = 42 ↔ B k = 42 := he 42 (by omega)
  have e7 : hv B N k = 47 ↔ B k = 47 := he 47 (by omega)
  have hv2 : (zI s 64 10 = 0) ↔ sm = false := by rw [h2]; exact zn_b0 sm
  simp only [m_X9_isSign, e1, e2, e3, e4, e5, e6, e7, hv2]
  generalize B k = v
  unfold isG
  by_cases x1 : v = 59
  · subst x1; rfl
  by_cases x2 : v = 45
  · subst x2; rfl
  cases sm
  · simp [x1, x2]
  · by_cases x3 : v = 40
    · subst x3; rfl
    by_cases x4 : v = 41
    · subst x4; rfl
    by_cases x5 : v = 43
    · subst x5; rfl
    by_cases x6 : v = 42
    · subst x6; rfl
    by_cases x7 : v = 47
    · subst x7; rfl
    simp [x1, x2, x3, x4, x5, x6, x7]
