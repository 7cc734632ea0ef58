theorem isLess_gen {t : zSt} {a1 a2 a3 b1 b2 b3 : Nat} (ha : a1 < 10000 ∧ a2 < 10000 ∧ a3 < 10000) (hb : b1 < 10000 ∧ b2 < 10000 ∧ b3 < 10000) (h1 : zL t 83 0 = zq a1) (h2 : zL t 83 1 = zq a2) (h3 : zL t 83 2 = zq a3) (g1 : zL t 82 0 = zq b1) (g2 : zL t 82 1 = zq b2) (g3 : zL t 82 2 = zq b3) {k : Int32 → zSt → Option (Int32 × zSt)} (hk : k = fun l1_1 s_1 => (if l1_1 < 0 ∨ zN (zT 64 38) ≤ Int32.toNatClampNeg l1_1 then none else (if l1_1 < 0 ∨ zN (zT 64 37) ≤ Int32.toNatClampNeg l1_1 then none else (if zL s_1 (zT 64 38) (Int32.toNatClampNeg l1_1) < zL s_1 (zT 64 37) (Int32.toNatClampNeg l1_1) then some (1, s_1) else some (0, s_1))))) (f : Nat) : lp_X9_isLess_2 64 k (f + 1 + 1 + 1 + 1) 0 t = some (if (a1 * 10000 + a2) * 10000 + a3 < (b1 * 10000 + b2) * 10000 + b3 then 1 else 0, t) := by
  have e1 : (0 : Int32) + 1 = 1 := by decide
  have e2 : (1 : Int32) + 1 = 2 := by decide
  have e3 : (2 : Int32) + 1 = 3 := by decide
  have c0 : (0 : Int32) < 3 := by decide
  have c1 : (1 : Int32) < 3 := by decide
  have c2 : (2 : Int32) < 3 := by decide
  have c3 : ¬ (3 : Int32) < 3 := by decide
  have qi : ∀ a b : Nat, a < 10000 → b < 10000 → (zq a = zq b ↔ a = b) := fun a b h h' => by rw [zq_inj (by unfold zin; omega) (by unfold zin; omega)]; omega
  have ql : ∀ a b : Nat, a < 10000 → b < 10000 → (zq a < zq b ↔ a < b) := fun a b h h' => by rw [zq_lt (by unfold zin; omega) (by unfold zin; omega)]; omega
  subst hk
  simp only [lp_X9_isLess_2, bd_X9_isLess_2, e1, e2, e3, c0, c1, c2, c3, if_true, if_false, zT_64_38, zT_64_37, zN_83, zN_82, tc_0, ln_0, tc_1, ln_1, tc_2, ln_2, tc_3, ln_3, tc_4, ln_4, tc_5, ln_5, tc_6, ln_6, tc_7, ln_7, tc_8, ln_8, tc_9, ln_9, tc_10, ln_10, tc_11, ln_11, tc_12, ln_12, tc_13, ln_13, false_or, show ¬ 3 ≤ 0 by decide, show ¬ 3 ≤ 1 by decide, show ¬ 3 ≤ 2 by decide, h1, h2, h3, g1, g2, g3, qi a1 b1 ha.1 hb.1, qi a2 b2 ha.2.1 hb.2.1, qi a3 b3 ha.2.2 hb.2.2, ql a1 b1 ha.1 hb.1, ql a2 b2 ha.2.1 hb.2.1, ql a3 b3 ha.2.2 hb.2.2]
  by_cases x1 : a1 = b1
  · rw [if_pos x1]
    by_cases x2 : a2 = b2
    · rw [if_pos x2]
      by_cases x3 : a3 = b3
      · rw [if_pos x3, if_neg (by omega)]
      · rw [if_neg x3]
        by_cases y : a3 < b3
        · rw [if_pos y, if_pos (by omega)]
        · rw [if_neg y, if_neg (by omega)]
    · rw [if_neg x2]
      by_cases y : a2 < b2
      · rw [if_pos y, if_pos (by omega)]
      · rw [if_neg y, if_neg (by omega)]
  · rw [if_neg x1]
    by_cases y : a1 < b1
    · rw [if_pos y, if_pos (by omega)]
    · rw [if_neg y, if_neg (by omega)]
theorem copy_eq {p1 l2 l3 : Int32} {k : Int32 → Int32 → zSt → Option (Int32 × zSt)} (f : Nat) (t : zSt) : lp_X9_order_68 64 p1 k (f + 1 + 1 + 1 + 1) l2 l3 0 t = k l2 l3 (zthree t 82 (zL t 83 0) (zL t 83 1) (zL t 83 2)) := by
  have e1 : (0 : Int32) + 1 = 1 := by decide
  have e2 : (1 : Int32) + 1 = 2 := by decide
  have e3 : (2 : Int32) + 1 = 3 := by decide
  have c0 : (0 : Int32) < 3 := by decide
  have c1 : (1 : Int32) < 3 := by decide
  have c2 : (2 : Int32) < 3 := by decide
  have c3 : ¬ (3 : Int32) < 3 := by decide
  simp only [lp_X9_order_68, bd_X9_order_68, e1, e2, e3, c0, c1, c2, c3, if_true, if_false, zT_64_38, zT_64_37, zN_83, zN_82, tc_0, ln_0, tc_1, ln_1, tc_2, ln_2, tc_3, ln_3, tc_4, ln_4, tc_5, ln_5, tc_6, ln_6, tc_7, ln_7, tc_8, ln_8, tc_9, ln_9, tc_10, ln_10, tc_11, ln_11, tc_12, ln_12, tc_13, ln_13, false_or, show ¬ 3 ≤ 0 by decide, show ¬ 3 ≤ 1 by decide, show ¬ 3 ≤ 2 by decide, zlt_eq, zthree, zI_sI, zI_sL, zI_sR, zL_sI, zL_sL, zL_sR, zR_sI, zR_sL, zR_sR, show ¬ (83 : Nat) = 82 by decide, false_and]
def boF (n : Nat) : Nat → Nat → Nat → Nat
  | 0, _, b => b
  | d + 1, row, b => boF n d (row + 2) (if pc row * 2 = n ∧ (b = 0 ∨ owt row n < owt b n) then row else b)
theorem owt_in {row n : Nat} (hn : n ≤ 12) : zin (owt row n : Nat) := by
  obtain ⟨b1, b2, b3⟩ := ow_le (row := row) hn
  unfold owt zin
  omega
theorem zn_p2 (a : Nat) : zn a + 2 = zn (a + 2) := zn_add a 2
theorem zn_t2 {p n : Nat} (hp : p ≤ 16) (hn : n ≤ 12) : (zn p * 2 = zn n) ↔ p * 2 = n := by
  have : zn p * 2 = zn (p * 2) := (Int32.ofNat_mul p 2).symm
  rw [this, zn_inj (by omega) (by omega)]
theorem bo_class {n : Nat} (hn : n ≤ 12) : ∀ (d row f b : Nat) (w : Int64) (s : zSt), row + 2 * d = 2 ^ n + 1 → d < f → (b = 0 ∨ w = zq (owt b n : Nat)) → b < 4096 → lp_X8_bestOrder_7 (zn n) f (zn b) w (zn row) s = some (zn (boF n d row b), s) := by
  have h12 : 2 ^ n ≤ 4096 := pow_le (n := 12) hn
  have sl : (1 : Int32) <<< (zn n &&& 31) = zn (2 ^ n) := zn_shl ⟨n, by omega⟩
  intro d
  induction d with
  | zero =>
    intro row f b w s hr hf hb hbl
    obtain ⟨f, rfl⟩ : ∃ g, f = g + 1 := ⟨f - 1, by omega⟩
    have : ¬ zn row < zn (2 ^ n) := by rw [zn_lt (by omega) (by omega)]; omega
    simp only [lp_X8_bestOrder_7, bd_X8_bestOrder_7, sl, this, if_false, boF]
  | succ d ih =>
    intro row f b w s hr hf hb hbl
    obtain ⟨f, rfl⟩ : ∃ g, f = g + 1 := ⟨f - 1, by omega⟩
    have h1 : zn row < zn (2 ^ n) := by rw [zn_lt (by omega) (by omega)]; omega
    have hp := pc_le row
    have b0 : zn b = 0 ↔ b = 0 := z0iff (by omega)
    simp only [lp_X8_bestOrder_7, bd_X8_bestOrder_7, m_X8_bestOrder_45, m_X8_bestOrder_51, sl, h1, if_true, bitCount_eq (show row < 4096 by omega), zcl_some, zn_t2 hp hn, orderWeight_eq (show row < 2147483648 by omega) hn, b0, zn_p2, boF]
    by_cases h2 : pc row * 2 = n
    · rw [if_pos h2]
      by_cases h3 : b = 0
      · rw [if_pos h3, if_pos ⟨h2, Or.inl h3⟩]
        exact ih (row + 2) f _ _ _ (by omega) (by omega) (Or.inr rfl) (by omega)
      · have hw := hb.resolve_left h3
        rw [if_neg h3, hw]
        have ql : zq (owt row n : Nat) < zq (owt b n : Nat) ↔ owt row n < owt b n := by rw [zq_lt (owt_in hn) (owt_in hn)]; omega
        by_cases h4 : owt row n < owt b n
        · rw [if_pos (ql.2 h4), if_pos ⟨h2, Or.inr h4⟩]
          exact ih (row + 2) f _ _ _ (by omega) (by omega) (Or.inr rfl) (by omega)
        · rw [if_neg (fun h => h4 (ql.1 h)), if_neg (fun h => h.2.elim h3 h4)]
          exact ih (row + 2) f _ _ _ (by omega) (by omega) (Or.inr rfl) hbl
    · rw [if_neg h2, if_neg (fun h => h2 h.1)]
      exact ih (row + 2) f _ _ _ (by omega) (by omega) hb hbl
