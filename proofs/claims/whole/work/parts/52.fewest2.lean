def sk0 : Nat → Bool := fun _ => false
theorem fwS_no {T : Nat → Option Nat} {sk : Nat → Bool} {sh : Nat → Nat} {b i : Nat} {best : Option Nat} (h : ¬ (sk i = false ∧ b &&& sh i ≠ 0 ∧ adn b (sh i) ≠ 0)) : fwS T sk sh b i best = best := by
  unfold fwS; rw [if_neg h]
theorem fwS_n1 {T : Nat → Option Nat} {sk : Nat → Bool} {sh : Nat → Nat} {b i : Nat} {best : Option Nat} (h : T (b &&& sh i) = none) : fwS T sk sh b i best = best := by
  unfold fwS; rw [h]; split <;> rfl
theorem fwS_n2 {T : Nat → Option Nat} {sk : Nat → Bool} {sh : Nat → Nat} {b i : Nat} {best : Option Nat} (h : T (adn b (sh i)) = none) : fwS T sk sh b i best = best := by
  unfold fwS; rw [h]
  split
  · cases T (b &&& sh i) <;> rfl
  · rfl
theorem fwS_yes {T : Nat → Option Nat} {sk : Nat → Bool} {sh : Nat → Nat} {b i x y : Nat} {best : Option Nat} (h : sk i = false ∧ b &&& sh i ≠ 0 ∧ adn b (sh i) ≠ 0) (h1 : T (b &&& sh i) = some x) (h2 : T (adn b (sh i)) = some y) : fwS T sk sh b i best = fwB best (1 + max x y) := by
  unfold fwS; rw [if_pos h, h1, h2]
theorem fwB_lt {best : Option Nat} {m : Nat} (h : ∀ z, best = some z → z < 1000) (hm : m < 1000) : ∀ z, fwB best m = some z → z < 1000 := by
  intro z hz
  cases best with
  | none => cases hz; exact hm
  | some w =>
    have hz' : (if m < w then some m else some w) = some z := hz
    have := h w rfl
    split at hz'
    · cases hz'; omega
    · cases hz'; omega
theorem enc_some (n : Nat) : enc (some n) = zn n := id rfl
theorem zn_1add (m : Nat) : (1 : Int32) + zn m = zn (1 + m) := zn_add 1 m
theorem fwt_16 {nt : Nat} {sk : Nat → Bool} {sh : Nat → Nat} {b : Nat} (hb : b < 65536) {n : Nat} (h : fwt nt sk sh b = some n) : n ≤ 16 := Nat.le_trans (fwt_le nt sk sh b hb n h) (pc_le b)
theorem z0iff {x : Nat} (h : x < 2147483648) : zn x = 0 ↔ x = 0 := zn_inj (b := 0) h (by omega)
theorem ff_lp {S : Nat} (hS : isS S) {s : zSt} {nt : Nat} {sh : Nat → Nat} (c1 : zI s (S + 1) 1 = zn nt) (c4 : ∀ k : Nat, k < nt → zI s (S + 4) k = zn (sh k)) (hnt : nt ≤ 8) {b : Nat} (hb : b < 256) (hT : ∀ x : Nat, x < b → zI s (S + 5) x = enc (fwt nt sk0 sh x)) : ∀ (d i f : Nat) (best : Option Nat), i + d = nt → d < f → (∀ z, best = some z → z < 1000) → lp_X0_fewestFor_4 (S + 1) (zn b) f (enc best) (zn i) s = some (enc (fwF (fwt nt sk0 sh) sk0 sh b d i best), s) := by
  obtain ⟨t0, t1, t2, t3, t4, t5⟩ := hS.c2
  intro d
  induction d with
  | zero =>
    intro i f best hi hf hz
    obtain ⟨f, rfl⟩ : ∃ g, f = g + 1 := ⟨f - 1, by omega⟩
    have : ¬ zn i < zn nt := by rw [zn_lt (by omega) (by omega)]; omega
    simp only [lp_X0_fewestFor_4, bd_X0_fewestFor_4, c1, this, if_false, fwF]
  | succ d ih =>
    intro i f best hi hf hz
    obtain ⟨f, rfl⟩ : ∃ g, f = g + 1 := ⟨f - 1, by omega⟩
    have h1 : zn i < zn nt := by rw [zn_lt (by omega) (by omega)]; omega
    have h2 : ¬ zn i < 0 := zn_neg (by omega)
    have h3 : (zn i).toNatClampNeg = i := zn_cl (by omega)
    have h4 : ¬ 8 ≤ i := by omega
    have a1 : b &&& sh i < 256 := Nat.lt_of_le_of_lt Nat.and_le_left (by omega)
    have a2 : adn b (sh i) < 256 := Nat.lt_of_le_of_lt (adn_le _ _) (by omega)
    have a3 : ¬ zn (b &&& sh i) < 0 := zn_neg (by omega)
    have a4 : ¬ zn (adn b (sh i)) < 0 := zn_neg (by omega)
    have a5 : (zn (b &&& sh i)).toNatClampNeg = b &&& sh i := zn_cl (by omega)
    have a6 : (zn (adn b (sh i))).toNatClampNeg = adn b (sh i) := zn_cl (by omega)
    have a7 : ¬ 256 ≤ b &&& sh i := by omega
    have a8 : ¬ 256 ≤ adn b (sh i) := by omega
    simp only [lp_X0_fewestFor_4, bd_X0_fewestFor_4, m_X0_fewestFor_98, m_X0_fewestFor_101, c1, h1, if_true, t2, t3, t4, t5, h2, h3, h4, or_self, if_false, c4 i (by omega), zn_andn, zn_and, zn_succ, z0iff (show b &&& sh i < 2147483648 by omega), z0iff (show adn b (sh i) < 2147483648 by omega), a3, a4, a5, a6, a7, a8]
    have same : fwS (fwt nt sk0 sh) sk0 sh b i best = best → lp_X0_fewestFor_4 (S + 1) (zn b) f (enc best) (zn (i + 1)) s = some (enc (fwF (fwt nt sk0 sh) sk0 sh b (d + 1) i best), s) := by
      intro e
      show _ = some (enc (fwF (fwt nt sk0 sh) sk0 sh b d (i + 1) (fwS (fwt nt sk0 sh) sk0 sh b i best)), s)
      rw [e]
      exact ih (i + 1) f best (by omega) (by omega) hz
    by_cases A0 : b &&& sh i = 0
    · rw [if_pos A0]
      exact same (fwS_no (fun h => h.2.1 A0))
    rw [if_neg A0]
    by_cases B0 : adn b (sh i) = 0
    · rw [if_pos B0]
      exact same (fwS_no (fun h => h.2.2 B0))
    rw [if_neg B0, hT _ (and_lt B0), hT _ (adn_lt A0)]
    have l1 := fwt_lt (nt := nt) (sk := sk0) (sh := sh) (show b &&& sh i < 65536 by omega)
    have l2 := fwt_lt (nt := nt) (sk := sk0) (sh := sh) (show adn b (sh i) < 65536 by omega)
    by_cases X0 : fwt nt sk0 sh (b &&& sh i) = none
    · rw [if_pos ((enc_m1 l1).2 X0)]
      exact same (fwS_n1 X0)
    rw [if_neg (fun h => X0 ((enc_m1 l1).1 h))]
    by_cases Y0 : fwt nt sk0 sh (adn b (sh i)) = none
    · rw [if_pos ((enc_m1 l2).2 Y0)]
      exact same (fwS_n2 Y0)
    rw [if_neg (fun h => Y0 ((enc_m1 l2).1 h))]
    obtain ⟨x, hx⟩ := Option.ne_none_iff_exists'.1 X0
    obtain ⟨y, hy⟩ := Option.ne_none_iff_exists'.1 Y0
    have lx := fwt_16 (by omega) hx
    have ly := fwt_16 (by omega) hy
    have e := fwS_yes (best := best) (T := fwt nt sk0 sh) (sk := sk0) ⟨rfl, A0, B0⟩ hx hy
    have new : lp_X0_fewestFor_4 (S + 1) (zn b) f (enc (fwB best (1 + max x y))) (zn (i + 1)) s = some (enc (fwF (fwt nt sk0 sh) sk0 sh b (d + 1) i best), s) := by
      show _ = some (enc (fwF (fwt nt sk0 sh) sk0 sh b d (i + 1) (fwS (fwt nt sk0 sh) sk0 sh b i best)), s)
      rw [e]
      exact ih (i + 1) f _ (by omega) (by omega) (fwB_lt hz (by omega))
    rw [hx, hy]
    simp only [enc_some, max_eq x y (by omega) (by omega), zcl_some, zn_1add]
    cases best with
    | none => rw [if_pos (show enc none = -1 from rfl)]; exact new
    | some z =>
      have lz := hz z rfl
      rw [if_neg (fun h => by have := (enc_m1 (o := some z) hz).1 h; cases this)]
      have en : enc (some z) = zn z := rfl
      rw [en]
      by_cases hlt : 1 + max x y < z
      · rw [if_pos ((zn_lt (by omega) (by omega)).2 hlt)]
        have eb : fwB (some z) (1 + max x y) = some (1 + max x y) := by unfold fwB; simp [hlt]
        rw [eb] at new
        exact new
      · rw [if_neg (fun h => hlt ((zn_lt (by omega) (by omega)).1 h))]
        have eb : fwB (some z) (1 + max x y) = some z := by unfold fwB; simp [hlt]
        rw [eb] at new
        exact new
theorem enc_byte {o : Option Nat} (h : ∀ n, o = some n → n ≤ 16) : vp_nar .byte (enc o).toInt8.toInt32 = enc o := by
  have key : ∀ n : Fin 17, vp_nar .byte (zn n.val).toInt8.toInt32 = zn n.val := by decide +kernel
  cases o with
  | none => decide +kernel
  | some n => exact key ⟨n, by have := h n rfl; omega⟩
theorem fill_lp {S : Nat} (hS : isS S) {nc nt : Nat} {sh : Nat → Nat} (hnc : nc ≤ 8) (hnt : nt ≤ 8) : ∀ (d b f : Nat) (s : zSt), 1 ≤ b → b + d = 2 ^ nc → d < f → zI s (S + 1) 0 = zn nc → zI s (S + 1) 1 = zn nt → (∀ k : Nat, k < nt → zI s (S + 4) k = zn (sh k)) → (∀ x : Nat, x < b → zI s (S + 5) x = enc (fwt nt sk0 sh x)) →
    ∃ s' : zSt, lp_X0_fillFewest_9 (S + 1) f (zn b) s = some s' ∧ (∀ x : Nat, x < 2 ^ nc → zI s' (S + 5) x = enc (fwt nt sk0 sh x)) ∧ zOf (fun o _ => o = S + 5) s s' := by
  obtain ⟨t0, t1, t2, t3, t4, t5⟩ := hS.c2
  have h8 := pow8 hnc
  intro d
  induction d with
  | zero =>
    intro b f s hb1 hb hf c0 c1 c4 hT
    obtain ⟨f, rfl⟩ : ∃ g, f = g + 1 := ⟨f - 1, by omega⟩
    have hbb : b = 2 ^ nc := by omega
    refine ⟨s, ?_, fun x hx => hT x (by omega), zOf.rf⟩
    have sl : (1 : Int32) <<< (zn nc &&& 31) = zn (2 ^ nc) := zn_shl ⟨nc, by omega⟩
    have : ¬ zn b < zn (2 ^ nc) := by rw [zn_lt (by omega) (by omega)]; omega
    simp only [lp_X0_fillFewest_9, bd_X0_fillFewest_9, c0, sl, this, if_false]
  | succ d ih =>
    intro b f s hb1 hb hf c0 c1 c4 hT
    obtain ⟨f, rfl⟩ : ∃ g, f = g + 1 := ⟨f - 1, by omega⟩
    have sl : (1 : Int32) <<< (zn nc &&& 31) = zn (2 ^ nc) := zn_shl ⟨nc, by omega⟩
    have h1 : zn b < zn (2 ^ nc) := by rw [zn_lt (by omega) (by omega)]; omega
    have h2 : ¬ zn b < 0 := zn_neg (by omega)
    have h3 : (zn b).toNatClampNeg = b := zn_cl (by omega)
    have h4 : ¬ 256 ≤ b := by omega
    have hp := pc_le b
    have hpos := pc_pos (x := b) (by omega) (by omega)
    have stepd : ∃ s' : zSt, lp_X0_fillFewest_9 (S + 1) f (zn (b + 1)) (zsI s (S + 5) b (enc (fwt nt sk0 sh b))) = some s' ∧ (∀ x : Nat, x < 2 ^ nc → zI s' (S + 5) x = enc (fwt nt sk0 sh x)) ∧ zOf (fun o _ => o = S + 5) s s' := by
      obtain ⟨s', e1, e2, e3⟩ := ih (b + 1) f (zsI s (S + 5) b (enc (fwt nt sk0 sh b))) (by omega) (by omega) (by omega) (by rw [zI_sI, if_neg (by omega)]; exact c0) (by rw [zI_sI, if_neg (by omega)]; exact c1) (fun k hk => by rw [zI_sI, if_neg (by omega)]; exact c4 k hk) (fun x hx => by
        rw [zI_sI]
        by_cases hxb : x = b
        · rw [if_pos ⟨rfl, hxb⟩, hxb]
        · rw [if_neg (fun h => hxb h.2)]
          exact hT x (by omega))
      exact ⟨s', e1, e2, (zOf.rf.sI (by rfl)).tr e3⟩
    have one : zn (pc b) = 1 ↔ pc b = 1 := zn_inj (b := 1) (by omega) (by omega)
    have hfe := fwt_eq nt sk0 sh b
    simp only [lp_X0_fillFewest_9, bd_X0_fillFewest_9, m_X0_fillFewest_41, c0, sl, h1, if_true, bitCount_eq (show b < 4096 by omega), zcl_some, one, t4, t5, h2, h3, h4, or_self, if_false, zlt_eq, zn_succ, m_X0_fewestFor]
    by_cases hp1 : pc b = 1
    · rw [if_pos hp1]
      have e0 : fwt nt sk0 sh b = some 0 := by rw [hfe]; unfold fwT; rw [if_pos (by omega)]
      have ev : vp_nar .byte ((0 : Int32).toInt8.toInt32) = enc (fwt nt sk0 sh b) := by rw [e0]; decide +kernel
      rw [ev]
      exact stepd
    · rw [if_neg hp1]
      have e0 : fwt nt sk0 sh b = fwF (fwt nt sk0 sh) sk0 sh b nt 0 none := by rw [hfe]; unfold fwT; rw [if_neg (by omega)]
      have hff := ff_lp hS c1 c4 hnt (show b < 256 by omega) hT nt 0 zFuel none (by omega) (by unfold zFuel; omega) (fun z hz => by cases hz)
      rw [show (-1 : Int32) = enc none from rfl, show (0 : Int32) = zn 0 from rfl, hff, zcl_some, ← e0, enc_byte (fun n hn => Nat.le_trans (fwt_le nt sk0 sh b (by omega) n hn) hp)]
      exact stepd
theorem fill_eq {S : Nat} (hS : isS S) {nc nt : Nat} {sh : Nat → Nat} (hnc : nc ≤ 8) (hnt : nt ≤ 8) {s : zSt} (c0 : zI s (S + 1) 0 = zn nc) (c1 : zI s (S + 1) 1 = zn nt) (c4 : ∀ k : Nat, k < nt → zI s (S + 4) k = zn (sh k)) :
    ∃ s' : zSt, m_X0_fillFewest (S + 1) s = some s' ∧ (∀ x : Nat, x < 2 ^ nc → zI s' (S + 5) x = enc (fwt nt sk0 sh x)) ∧ zOf (fun o _ => o = S + 5) s s' := by
  obtain ⟨t0, t1, t2, t3, t4, t5⟩ := hS.c2
  have h8 := pow8 hnc
  have h1 : 1 ≤ 2 ^ nc := Nat.one_le_two_pow
  have e0 : fwt nt sk0 sh 0 = some 0 := by rw [fwt_eq]; unfold fwT; rw [if_pos (by decide)]
  have ev : vp_nar .byte 0 = enc (fwt nt sk0 sh 0) := by rw [e0]; decide +kernel
  obtain ⟨s', e1, e2, e3⟩ := fill_lp hS (sh := sh) hnc hnt (2 ^ nc - 1) 1 zFuel (zsI s (S + 5) 0 (enc (fwt nt sk0 sh 0))) (by omega) (by omega) (by unfold zFuel; omega) (by rw [zI_sI, if_neg (by omega)]; exact c0) (by rw [zI_sI, if_neg (by omega)]; exact c1) (fun k hk => by rw [zI_sI, if_neg (by omega)]; exact c4 k hk) (fun x hx => by
    have : x = 0 := by omega
    subst this
    rw [zI_sI, if_pos ⟨rfl, rfl⟩])
  refine ⟨s', ?_, e2, (zOf.rf.sI (by rfl)).tr e3⟩
  simp only [m_X0_fillFewest, t4, t5, tc_0, ln_0, tc_1, ln_1, tc_2, ln_2, tc_3, ln_3, tc_4, ln_4, tc_5, ln_5, tc_6, ln_6, tc_7, ln_7, tc_8, ln_8, tc_9, ln_9, tc_10, ln_10, tc_11, ln_11, tc_12, ln_12, tc_13, ln_13, false_or, show ¬ 256 ≤ 0 by decide, if_false, zlt_eq, ev]
  exact e1
