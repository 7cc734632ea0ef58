theorem tkd_w {B : Nat → Nat} {N : Nat} {sm : Bool} {p : Nat} (h : tkd B N sm p = 2 ∨ 256 ≤ tkd B N sm p) (hB : ∀ k, k < N → B k < 256) (hp : p ≤ N) : okW (twd B N p) ∧ tkd B N sm p = kwF (twd B N p) 20 ∧ tpl B N p < N := by
  have hq := rn_bd (P := isB) (B := B) hp
  have eq : rn isB B N p = tpl B N p := rfl
  rw [eq] at hq
  unfold tkd at h ⊢
  by_cases h1 : N ≤ tpl B N p
  · rw [if_pos h1] at h; omega
  rw [if_neg h1] at h ⊢
  by_cases h2 : isL (B (tpl B N p)) = true
  · rw [if_pos h2] at h ⊢
    by_cases h3 : 8 < rn isL B N (tpl B N p) - tpl B N p
    · rw [if_pos h3] at h; omega
    · rw [if_neg h3]
      exact ⟨twd_ok (by omega) h3, rfl, by omega⟩
  · rw [if_neg h2] at h ⊢
    by_cases h3 : isD (B (tpl B N p)) = true
    · rw [if_pos h3] at h
      split at h <;> omega
    · rw [if_neg h3] at h
      split at h
      · rename_i hg
        have := hB (tpl B N p) (by omega)
        unfold isG at hg
        rw [Bool.or_eq_true, Bool.and_eq_true, decide_eq_true_iff, decide_eq_true_iff] at hg
        omega
      · omega
theorem tkd_lt {B : Nat → Nat} {N : Nat} {sm : Bool} {p : Nat} (hB : ∀ k, k < N → B k < 256) : tkd B N sm p < 276 := by
  unfold tkd
  split
  · omega
  · split
    · split
      · omega
      · rcases kwF_spec (w := twd B N p) 20 (by omega) with ⟨x, -⟩ | ⟨i, hi, x, -⟩ <;> omega
    · split
      · split <;> omega
      · split
        · have := hB (tpl B N p) (by omega); omega
        · omega
theorem nv_lt {B : Nat → Nat} {p : Nat} : ∀ n, (∀ k, k < n → isD (B (p + k)) = true) → nv B p n < 10 ^ n := by
  intro n
  induction n with
  | zero => intro _; exact Nat.one_pos
  | succ n ih =>
    intro h
    have h1 := ih (fun k hk => h k (by omega))
    have h2 := h n (by omega)
    unfold isD at h2
    rw [decide_eq_true_iff] at h2
    show nv B p n * 10 + (B (p + n) - 48) < _
    rw [Nat.pow_succ]
    omega
theorem tnu_lt {B : Nat → Nat} {N : Nat} {sm : Bool} {p : Nat} (h : tkd B N sm p = 3) (hp : p ≤ N) : tnu B N p ≤ 9999 := by
  have hq := rn_bd (P := isB) (B := B) hp
  have eq : rn isB B N p = tpl B N p := rfl
  rw [eq] at hq
  have h4 : rn isD B N (tpl B N p) - tpl B N p ≤ 4 := by
    unfold tkd at h
    by_cases h1 : N ≤ tpl B N p
    · rw [if_pos h1] at h; omega
    rw [if_neg h1] at h
    by_cases h2 : isL (B (tpl B N p)) = true
    · rw [if_pos h2] at h
      split at h
      · omega
      · rcases kwF_spec (w := twd B N p) 20 (by omega) with ⟨x, -⟩ | ⟨i, hi, x, -⟩ <;> omega
    · rw [if_neg h2] at h
      by_cases h3 : isD (B (tpl B N p)) = true
      · rw [if_pos h3] at h
        split at h
        · omega
        · rename_i hc
          have : ¬ 4 < rn isD B N (tpl B N p) - tpl B N p := fun x => hc (Or.inl x)
          omega
      · rw [if_neg h3, ] at h
        split at h
        · rename_i hg
          unfold isG at hg
          rw [Bool.or_eq_true, Bool.and_eq_true, decide_eq_true_iff, decide_eq_true_iff] at hg
          omega
        · omega
  have := nv_lt (B := B) (p := tpl B N p) (rn isD B N (tpl B N p) - tpl B N p) (fun k hk => rn_all (P := isD) (B := B) (N := N) (N - tpl B N p) (tpl B N p) (by omega) k (by omega))
  have h5 : 10 ^ (rn isD B N (tpl B N p) - tpl B N p) ≤ 10 ^ 4 := Nat.pow_le_pow_right (by omega) h4
  unfold tnu
  omega
theorem tnx_bd {B : Nat → Nat} {N p : Nat} (hp : p ≤ N) : tpl B N p ≤ tnx B N p ∧ tnx B N p ≤ N ∧ p ≤ tpl B N p ∧ (tpl B N p < N → tpl B N p < tnx B N p) := by
  have hq := rn_bd (P := isB) (B := B) hp
  have eq : rn isB B N p = tpl B N p := rfl
  rw [eq] at hq
  unfold tnx
  by_cases h1 : N ≤ tpl B N p
  · rw [if_pos h1]; omega
  rw [if_neg h1]
  by_cases h2 : isL (B (tpl B N p)) = true
  · rw [if_pos h2]
    have := rn_bd (P := isL) (B := B) (show tpl B N p ≤ N by omega)
    have h3 := rn_bd (P := isL) (B := B) (show tpl B N p + 1 ≤ N by omega)
    rw [rn_yes (by omega) h2] at this ⊢
    omega
  · rw [if_neg h2]
    by_cases h3 : isD (B (tpl B N p)) = true
    · rw [if_pos h3]
      have := rn_bd (P := isD) (B := B) (show tpl B N p ≤ N by omega)
      have h3' := rn_bd (P := isD) (B := B) (show tpl B N p + 1 ≤ N by omega)
      rw [rn_yes (by omega) h3] at this ⊢
      omega
    · rw [if_neg h3]; omega
theorem token_eq {B : Nat → Nat} {N : Nat} {sm : Bool} {t : zSt} (hT : tpM B N t) (h2 : zI t 64 10 = zn sm.toNat) {p : Nat} (hp : p ≤ N) (ha : zI t 64 4 = zn p) : ∃ t', m_X9_token 64 t = some t' ∧ tkM B N sm p t' ∧ zOf gTok t t' := by
  obtain ⟨t1, a1, a2, a3⟩ := to_skip (kk := fun s_6 => zlt (zsI s_6 64 7 (zI s_6 64 4)) (fun s7 => zcl (m_X9_here 64 0 s7) (fun r9 s8 => zlt (zsL s8 64 9 0) (fun s10 => zlt (zsI s10 64 8 0) (fun s11 => (if r9 < 0 then
  zlt (zsI s11 64 6 0) (fun s12 => m_X9_token_233 64 0 s12)
  else
  zcl (m_X9_isLetter r9 s11) (fun r15 s14 => (if r15 = 0 then
    zcl (m_X9_isDigit r9 s14) (fun r17 s16 => (if r17 = 0 then
      zcl (m_X9_isSign 64 r9 s16) (fun r19 s18 => (if r19 = 0 then
        m_X9_token_230 64 1 64 3 s18
        else
        m_X9_token_230 64 1 64 r9 s18))
      else
      lp_X9_token_144 64 (fun l2_28 s_28 => (if 4 < l2_28 then
        m_X9_token_203 64 l2_28 64 s_28
        else
        zcl (m_X9_here 64 l2_28 s_28) (fun r31 s30 => zcl (m_X9_isLetter r31 s30) (fun r33 s32 => (if r33 = 0 then
          m_X9_token_208 64 l2_28 64 2 s32
          else
          m_X9_token_203 64 l2_28 64 s32))))) zFuel 0 s16))
    else
    lp_X9_token_78 64 (fun l2_41 s_41 => (if 8 < l2_41 then
      m_X9_token_131 64 l2_41 64 3 s_41
      else
      m_X9_token_131 64 l2_41 64 1 s_41)) zFuel 0 s14)))))))) (N - p) p zFuel t (by omega) (by have := hT.1; unfold zFuel; omega) hT ha
  have h8 := hT.1
  have hq := rn_bd (P := isB) (B := B) hp
  have eq : rn isB B N p = tpl B N p := rfl
  rw [eq] at a2 hq
  have a3' : zOf gTok t t1 := a3.mono (fun o k h => by unfold g644 at h; unfold gTok; omega)
  have e1 : zOf gTok t (zsI t1 64 7 (zn (tpl B N p))) := a3'.sI (by unfold gTok; omega)
  have e2 : zOf gTok t (zsI (zsL (zsI t1 64 7 (zn (tpl B N p))) 64 9 0) 64 8 0) := (e1.sL (by unfold gTok; omega)).sI (by unfold gTok; omega)
  have hh := here_eq (hT.of (e1 64 5 (by unfold gTok; omega)).1 (fun k => (e1 65 k (by unfold gTok; omega)).1)) (a := tpl B N p) (n := 0) (by rw [zI_sI, if_neg (by omega)]; exact a2) (by omega)
  rw [Nat.add_zero, show zn 0 = (0 : Int32) from rfl] at hh
  have i4 : zI (zsI (zsL (zsI t1 64 7 (zn (tpl B N p))) 64 9 0) 64 8 0) 64 4 = zn (tpl B N p) := by rw [zI_sI, if_neg (by omega), zI_sL, zI_sI, if_neg (by omega)]; exact a2
  have i7 : zI (zsI (zsL (zsI t1 64 7 (zn (tpl B N p))) 64 9 0) 64 8 0) 64 7 = zn (tpl B N p) := by rw [zI_sI, if_neg (by omega), zI_sL, zI_sI, if_pos ⟨rfl, rfl⟩]
  have i8 : zI (zsI (zsL (zsI t1 64 7 (zn (tpl B N p))) 64 9 0) 64 8 0) 64 8 = 0 := by rw [zI_sI, if_pos ⟨rfl, rfl⟩]
  have i9 : zL (zsI (zsL (zsI t1 64 7 (zn (tpl B N p))) 64 9 0) 64 8 0) 64 9 = 0 := by rw [zL_sI, zL_sL, if_pos ⟨rfl, rfl⟩]
  have hT2 : tpM B N (zsI (zsL (zsI t1 64 7 (zn (tpl B N p))) 64 9 0) 64 8 0) := hT.of (e2 64 5 (by unfold gTok; omega)).1 (fun k => (e2 65 k (by unfold gTok; omega)).1)
  have h22 : zI (zsI (zsL (zsI t1 64 7 (zn (tpl B N p))) 64 9 0) 64 8 0) 64 10 = zn sm.toNat := (e2 64 10 (by unfold gTok; omega)).1.trans h2
  unfold m_X9_token
  rw [a1]
  simp only [a2, zlt_eq, hh, zcl_some]
  generalize zsI (zsL (zsI t1 64 7 (zn (tpl B N p))) 64 9 0) 64 8 0 = t2 at *
  clear a1 a2 a3 a3' e1 hh
  -- the end of each road
  have fin : ∀ (t3 : zSt) (n k : Nat), zOf gTok t2 t3 → zI t3 64 4 = zn (tpl B N p) → zI t3 64 7 = zn (tpl B N p) → tkd B N sm p = k → (k ≠ 1 → tnx B N p = tpl B N p + n) → (k = 3 → zI t3 64 8 = zn (tnu B N p)) → ((k = 2 ∨ 256 ≤ k) → zL t3 64 9 = zq (c256 (twd B N p) : Int)) → (msr k = 3 ↔ k = 1) → (k < 2147483648) → ∃ t', m_X9_token_233 64 (zn n) (zsI t3 64 6 (zn (msr k))) = some t' ∧ tkM B N sm p t' ∧ zOf gTok t t' := by
    intro t3 n k o3 f4 f7 fk fn f8 f9 fm fb
    have hms : msr k < 2147483648 := by unfold msr; split; omega; split; omega; split; omega; split <;> omega
    have s6 : zI (zsI t3 64 6 (zn (msr k))) 64 6 = zn (msr k) := by rw [zI_sI, if_pos ⟨rfl, rfl⟩]
    have s4 : zI (zsI t3 64 6 (zn (msr k))) 64 4 = zn (tpl B N p) := by rw [zI_sI, if_neg (by omega)]; exact f4
    have s3 : zn (msr k) = 3 ↔ k = 1 := by rw [← fm]; exact zn_inj (b := 3) hms (by omega)
    unfold m_X9_token_233
    simp only [s6, s3, s4, zlt_eq, zn_add]
    by_cases h1 : k = 1
    · rw [if_pos h1]
      refine ⟨_, rfl, ⟨?_, ?_, ?_, ?_, ?_⟩, (e2.tr o3).sI (by unfold gTok; omega)⟩
      · rw [s6, fk]
      · rw [zI_sI, if_neg (by omega)]; exact f7
      · intro h; omega
      · intro h; omega
      · intro h; omega
    · rw [if_neg h1]
      refine ⟨_, rfl, ⟨?_, ?_, ?_, ?_, ?_⟩, ((e2.tr o3).sI (by unfold gTok; omega)).sI (by unfold gTok; omega)⟩
      · rw [zI_sI, if_neg (by omega), s6, fk]
      · rw [zI_sI, if_neg (by omega), zI_sI, if_neg (by omega)]; exact f7
      · intro _; rw [zI_sI, if_pos ⟨rfl, rfl⟩, fn h1]
      · intro h; rw [zI_sI, if_neg (by omega), zI_sI, if_neg (by omega)]; exact f8 (by omega)
      · intro h; rw [zL_sI, zL_sI]; exact f9 (by omega)
  have m0 : msr 0 = 0 := rfl
  have m1 : msr 1 = 3 := rfl
  have m3 : msr 3 = 2 := rfl
  by_cases hN : tpl B N p < N
  rotate_left
  · have kz : tkd B N sm p = 0 := by unfold tkd; rw [if_pos (by omega)]
    have hn : hv B N (tpl B N p) < 0 := by unfold hv; rw [if_neg hN]; decide
    rw [if_pos hn]
    exact fin t2 0 0 zOf.rf i4 i7 kz (fun _ => by unfold tnx; rw [if_pos (by omega)]; omega) (fun h => by omega) (fun h => by omega) (by decide) (by omega)
  have hb := (hT2.2.2 (tpl B N p) hN).1
  have hn : ¬ hv B N (tpl B N p) < 0 := by unfold hv; rw [if_pos hN]; exact zn_neg (by omega)
  rw [if_neg hn, isLetterM hT2, zcl_some]
  by_cases hl : isL (B (tpl B N p)) = true
  · simp only [hN, hl, and_self, if_true, show ¬ (1 : Int32) = 0 by decide, if_false]
    have hr := rn_bd (P := isL) (B := B) (show tpl B N p ≤ N by omega)
    obtain ⟨t3, b1, b2, b3⟩ := tw_lp (B := B) (N := N) (q := tpl B N p) (kk := fun l2_41 s_41 => (if 8 < l2_41 then m_X9_token_131 64 l2_41 64 3 s_41 else m_X9_token_131 64 l2_41 64 1 s_41)) (N - tpl B N p) 0 zFuel t2 (by omega) (by unfold zFuel; omega) hT2 i4 (fun k hk => by omega) (fun _ => i9)
    rw [Nat.add_zero] at b1 b2
    have b3' : zOf gTok t2 t3 := b3.mono (fun o k h => by unfold gTok; omega)
    have kk1 : tkd B N sm p = if 8 < rn isL B N (tpl B N p) - tpl B N p then 1 else kwF (twd B N p) 20 := by
      unfold tkd; rw [if_neg (by omega), if_pos hl]
    have nx : tnx B N p = rn isL B N (tpl B N p) := by unfold tnx; rw [if_neg (by omega), if_pos hl]
    have l8 : (8 : Int32) < zn (rn isL B N (tpl B N p) - tpl B N p) ↔ 8 < rn isL B N (tpl B N p) - tpl B N p := zn_lt (a := 8) (by omega) (by omega)
    have b1' : lp_X9_token_78 64 (fun l2_41 s_41 => (if 8 < l2_41 then m_X9_token_131 64 l2_41 64 3 s_41 else m_X9_token_131 64 l2_41 64 1 s_41)) zFuel 0 t2 = _ := b1
    rw [b1']
    simp only [l8, m_X9_token_131, zlt_eq]
    have q4 : zI t3 64 4 = zn (tpl B N p) := (b3 64 4 (by omega)).1.trans i4
    have q7 : zI t3 64 7 = zn (tpl B N p) := (b3 64 7 (by omega)).1.trans i7
    by_cases h9 : 8 < rn isL B N (tpl B N p) - tpl B N p
    · rw [if_pos h9] at kk1
      rw [if_pos h9]
      exact fin t3 (rn isL B N (tpl B N p) - tpl B N p) 1 b3' q4 q7 kk1 (fun h => by omega) (fun h => by omega) (fun h => by omega) (by decide) (by omega)
    · rw [if_neg h9] at kk1
      rw [if_neg h9]
      have hk2 : kwF (twd B N p) 20 = 2 ∨ (256 ≤ kwF (twd B N p) 20 ∧ kwF (twd B N p) 20 < 276) := by
        rcases kwF_spec (w := twd B N p) 20 (by omega) with ⟨x, -⟩ | ⟨i, hi, x, -⟩ <;> omega
      have hm : msr (kwF (twd B N p) 20) = 1 := by unfold msr; rw [if_neg (by omega), if_neg (by omega), if_pos (by omega)]
      have := fin t3 (rn isL B N (tpl B N p) - tpl B N p) (kwF (twd B N p) 20) b3' q4 q7 kk1 (fun _ => by rw [nx]; omega) (fun h => by omega) (fun _ => b2 (by omega)) (by rw [hm]; omega) (by omega)
      rw [hm] at this
      exact this
  simp only [hN, hl, true_and, if_false, if_true]
  rw [isDigitM hT2, zcl_some]
  by_cases hd : isD (B (tpl B N p)) = true
  · simp only [hN, hd, and_self, if_true, show ¬ (1 : Int32) = 0 by decide, if_false]
    have hr := rn_bd (P := isD) (B := B) (show tpl B N p ≤ N by omega)
    obtain ⟨t3, b1, b2, b3⟩ := td_lp (B := B) (N := N) (q := tpl B N p) (kk := fun l2_28 s_28 => (if 4 < l2_28 then
        m_X9_token_203 64 l2_28 64 s_28
        else
        zcl (m_X9_here 64 l2_28 s_28) (fun r31 s30 => zcl (m_X9_isLetter r31 s30) (fun r33 s32 => (if r33 = 0 then
          m_X9_token_208 64 l2_28 64 2 s32
          else
          m_X9_token_203 64 l2_28 64 s32))))) (N - tpl B N p) 0 zFuel t2 (by omega) (by unfold zFuel; omega) hT2 i4 (fun _ => i8)
    rw [Nat.add_zero] at b1 b2
    have b3' : zOf gTok t2 t3 := b3.mono (fun o k h => by unfold gTok; omega)
    have kk1 : tkd B N sm p = if 4 < rn isD B N (tpl B N p) - tpl B N p ∨ (rn isD B N (tpl B N p) < N ∧ isL (B (rn isD B N (tpl B N p))) = true) then 1 else 3 := by
      unfold tkd; rw [if_neg (by omega), if_neg hl, if_pos hd]
    have nx : tnx B N p = rn isD B N (tpl B N p) := by unfold tnx; rw [if_neg (by omega), if_neg hl, if_pos hd]
    have l4 : (4 : Int32) < zn (rn isD B N (tpl B N p) - tpl B N p) ↔ 4 < rn isD B N (tpl B N p) - tpl B N p := zn_lt (a := 4) (by omega) (by omega)
    have q4 : zI t3 64 4 = zn (tpl B N p) := (b3 64 4 (by omega)).1.trans i4
    have q7 : zI t3 64 7 = zn (tpl B N p) := (b3 64 7 (by omega)).1.trans i7
    have hT3 : tpM B N t3 := hT2.of (b3 64 5 (by omega)).1 (fun k => (b3 65 k (by omega)).1)
    have hh3 := here_eq hT3 (a := tpl B N p) (n := rn isD B N (tpl B N p) - tpl B N p) q4 (by omega)
    rw [show tpl B N p + (rn isD B N (tpl B N p) - tpl B N p) = rn isD B N (tpl B N p) by omega] at hh3
    have b1' : lp_X9_token_144 64 (fun l2_28 s_28 => (if 4 < l2_28 then
        m_X9_token_203 64 l2_28 64 s_28
        else
        zcl (m_X9_here 64 l2_28 s_28) (fun r31 s30 => zcl (m_X9_isLetter r31 s30) (fun r33 s32 => (if r33 = 0 then
          m_X9_token_208 64 l2_28 64 2 s32
          else
          m_X9_token_203 64 l2_28 64 s32))))) zFuel 0 t2 = _ := b1
    rw [b1']
    simp only [l4, m_X9_token_203, m_X9_token_208, zlt_eq, hh3, zcl_some, isLetterM hT3]
    by_cases h4 : 4 < rn isD B N (tpl B N p) - tpl B N p
    · rw [if_pos (Or.inl h4)] at kk1
      rw [if_pos h4]
      exact fin t3 (rn isD B N (tpl B N p) - tpl B N p) 1 b3' q4 q7 kk1 (fun h => by omega) (fun h => by omega) (fun h => by omega) (by decide) (by omega)
    · rw [if_neg h4]
      by_cases hx : rn isD B N (tpl B N p) < N ∧ isL (B (rn isD B N (tpl B N p))) = true
      · rw [if_pos (Or.inr hx)] at kk1
        rw [if_pos hx, if_neg (show ¬ (1 : Int32) = 0 by decide)]
        exact fin t3 (rn isD B N (tpl B N p) - tpl B N p) 1 b3' q4 q7 kk1 (fun h => by omega) (fun h => by omega) (fun h => by omega) (by decide) (by omega)
      · rw [if_neg (fun h => h.elim h4 hx)] at kk1
        rw [if_neg hx, if_pos rfl]
        exact fin t3 (rn isD B N (tpl B N p) - tpl B N p) 3 b3' q4 q7 kk1 (fun _ => by rw [nx]; omega) (fun _ => b2 (by omega)) (fun h => by omega) (by decide) (by omega)
  simp only [hN, hd, true_and, if_false, if_true]
  rw [isSignM hT2 hN h22, zcl_some]
  have nx : tnx B N p = tpl B N p + 1 := by unfold tnx; rw [if_neg (by omega), if_neg hl, if_neg hd]
  have kk1 : tkd B N sm p = if isG sm (B (tpl B N p)) = true then B (tpl B N p) else 1 := by
    unfold tkd; rw [if_neg (by omega), if_neg hl, if_neg hd]
  by_cases hg : isG sm (B (tpl B N p)) = true
  · simp only [hg, if_true, show ¬ (1 : Int32) = 0 by decide, if_false, m_X9_token_230, zlt_eq]
    rw [if_pos hg] at kk1
    have hgv : B (tpl B N p) = 59 ∨ B (tpl B N p) = 45 ∨ B (tpl B N p) = 40 ∨ B (tpl B N p) = 41 ∨ B (tpl B N p) = 42 ∨ B (tpl B N p) = 43 ∨ B (tpl B N p) = 47 := by
      unfold isG at hg
      rw [Bool.or_eq_true, Bool.and_eq_true, decide_eq_true_iff, decide_eq_true_iff] at hg
      omega
    have hm : msr (B (tpl B N p)) = B (tpl B N p) := by unfold msr; rw [if_neg (by omega), if_neg (by omega), if_neg (by omega), if_neg (by omega)]
    have := fin t2 1 (B (tpl B N p)) zOf.rf i4 i7 kk1 (fun _ => nx) (fun h => by omega) (fun h => by omega) (by rw [hm]; omega) (by omega)
    rw [hm] at this
    have eh : hv B N (tpl B N p) = zn (B (tpl B N p)) := by unfold hv; rw [if_pos hN]
    rw [eh]
    exact this
  · simp only [hg, if_false, if_true, m_X9_token_230, zlt_eq]
    rw [if_neg hg] at kk1
    exact fin t2 1 1 zOf.rf i4 i7 kk1 (fun h => by omega) (fun h => by omega) (fun h => by omega) (by decide) (by omega)
