theorem rCauM.of {t t' : zSt} {nc nt kn po : Nat} {sh : Nat → Nat} (h : rCauM t nc nt kn po sh) (e : ∀ o k, o ≠ 107 → zI t' o k = zI t o k) : rCauM t' nc nt kn po sh := by
  unfold rCauM at h ⊢
  simpa only [e 64 21 (by decide), e 64 22 (by decide), fun k => e 69 k (by decide), fun k => e 105 k (by decide), fun k => e 106 k (by decide)] using h
theorem fi_lp {nc nt kn po : Nat} {sh : Nat → Nat} (ok : okCau nc nt kn po sh) {all b : Nat} (hb : b < 256) (hp : 2 ≤ pc b) {k : Int32 → Int32 → zSt → Option (Int32 × zSt)} : ∀ (d i f : Nat) (best : Option Nat) (t : zSt), i + d = nt → d < f → (∀ z, best = some z → z < 1000) → rCauM t nc nt kn po sh → (∀ x : Nat, x < b → zI t 107 x = enc (fwt nt (fun i => kn.testBit i) sh x)) → zI t 107 b = enc best →
    ∃ t' : zSt, lp_X9_fewest_38 64 k f (zn all) (zn b) (zn i) t = k (zn all) (zn b) t' ∧ zI t' 107 b = enc (fwF (fwt nt (fun i => kn.testBit i) sh) (fun i => kn.testBit i) sh b d i best) ∧ zOf (fun o k => o = 107 ∧ k = b) t t' := by
  obtain ⟨k0, k1, k2, k3, k4⟩ := ok
  generalize hT : fwt nt (fun i => kn.testBit i) sh = T at *
  intro d
  induction d with
  | zero =>
    intro i f best t hi hf hz hM htab hbest
    obtain ⟨f, rfl⟩ : ∃ g, f = g + 1 := ⟨f - 1, by omega⟩
    obtain ⟨c0, c1, c2, c3⟩ := hM
    have : ¬ zn i < zn nt := by rw [zn_lt (by omega) (by omega)]; omega
    refine ⟨t, ?_, hbest, zOf.rf⟩
    simp only [lp_X9_fewest_38, bd_X9_fewest_38, c1, this, if_false]
  | succ d ih =>
    intro i f best t hi hf hz hM htab hbest
    obtain ⟨f, rfl⟩ : ∃ g, f = g + 1 := ⟨f - 1, by omega⟩
    have hM' := hM
    obtain ⟨c0, c1, c2, c3⟩ := hM
    obtain ⟨c5, -⟩ := c3 i (by omega)
    have h1 : zn i < zn nt := by rw [zn_lt (by omega) (by omega)]; omega
    have h2 : ¬ zn i < 0 := zn_neg (by omega)
    have h3 : (zn i).toNatClampNeg = i := zn_cl (by omega)
    have h4 : ¬ 8 ≤ i := by omega
    have hpc := pc_le b
    have hp1 : 1 < zn (pc b) := (zn_lt (a := 1) (by omega) (by omega)).2 (by omega)
    have b3 : ¬ zn b < 0 := zn_neg (by omega)
    have b5 : (zn b).toNatClampNeg = b := zn_cl (by omega)
    have b7 : ¬ 256 ≤ b := by omega
    have a1 : b &&& sh i < 256 := Nat.lt_of_le_of_lt Nat.and_le_left (by omega)
    have a2 : adn b (sh i) < 256 := Nat.lt_of_le_of_lt (adn_le _ _) (by omega)
    have a3 : ¬ zn (b &&& sh i) < 0 := zn_neg (by omega)
    have a4 : ¬ zn (adn b (sh i)) < 0 := zn_neg (by omega)
    have a5 : (zn (b &&& sh i)).toNatClampNeg = b &&& sh i := zn_cl (by omega)
    have a6 : (zn (adn b (sh i))).toNatClampNeg = adn b (sh i) := zn_cl (by omega)
    have a7 : ¬ 256 ≤ b &&& sh i := by omega
    have a8 : ¬ 256 ≤ adn b (sh i) := by omega
    simp only [lp_X9_fewest_38, bd_X9_fewest_38, m_X9_fewest_153, m_X9_fewest_176, m_X9_fewest_184, c1, h1, if_true, ones_eq (show b < 2147483648 by omega), zcl_some, hp1, zT_64_14, zT_64_69, zT_64_71, zN_69, zN_105, zN_107, h2, h3, h4, or_self, if_false, c5, zn_b0, c2 i (by omega), zn_andn, zn_and, zn_succ, z0iff (show b &&& sh i < 2147483648 by omega), z0iff (show adn b (sh i) < 2147483648 by omega), a3, a4, a5, a6, a7, a8, b3, b5, b7, zlt_eq]
    have same : fwS T (fun i => kn.testBit i) sh b i best = best → ∃ t' : zSt, lp_X9_fewest_38 64 k f (zn all) (zn b) (zn (i + 1)) t = k (zn all) (zn b) t' ∧ zI t' 107 b = enc (fwF T (fun i => kn.testBit i) sh b (d + 1) i best) ∧ zOf (fun o k => o = 107 ∧ k = b) t t' := by
      intro e
      show ∃ t' : zSt, _ ∧ zI t' 107 b = enc (fwF T (fun i => kn.testBit i) sh b d (i + 1) (fwS T (fun i => kn.testBit i) sh b i best)) ∧ _
      rw [e]
      exact ih (i + 1) f best t (by omega) (by omega) hz hM' htab hbest
    by_cases hk : kn.testBit i = false
    rotate_left
    · rw [if_neg hk]
      exact same (fwS_no (fun h => hk h.1))
    rw [if_pos hk]
    by_cases A0 : b &&& sh i = 0
    · rw [if_pos A0]
      exact same (fwS_no (fun h => h.2.1 A0))
    rw [if_neg A0]
    by_cases B0 : adn b (sh i) = 0
    · rw [if_pos B0]
      exact same (fwS_no (fun h => h.2.2 B0))
    rw [if_neg B0, htab _ (and_lt B0), htab _ (adn_lt A0), hbest]
    have q1 : ∀ n, T (b &&& sh i) = some n → n ≤ 16 := fun n hn => by rw [← hT] at hn; exact fwt_16 (by omega) hn
    have q2 : ∀ n, T (adn b (sh i)) = some n → n ≤ 16 := fun n hn => by rw [← hT] at hn; exact fwt_16 (by omega) hn
    have l1 : ∀ n, T (b &&& sh i) = some n → n < 1000 := fun n hn => by have := q1 n hn; omega
    have l2 : ∀ n, T (adn b (sh i)) = some n → n < 1000 := fun n hn => by have := q2 n hn; omega
    by_cases X0 : T (b &&& sh i) = none
    · rw [if_pos ((enc_neg l1).2 X0)]
      exact same (fwS_n1 X0)
    rw [if_neg (fun h => X0 ((enc_neg l1).1 h))]
    by_cases Y0 : T (adn b (sh i)) = none
    · rw [if_pos ((enc_neg l2).2 Y0)]
      exact same (fwS_n2 Y0)
    rw [if_neg (fun h => Y0 ((enc_neg l2).1 h))]
    obtain ⟨x, hx⟩ := Option.ne_none_iff_exists'.1 X0
    obtain ⟨y, hy⟩ := Option.ne_none_iff_exists'.1 Y0
    have lx := q1 x hx
    have ly := q2 y hy
    have e := fwS_yes (best := best) (T := T) (sk := fun i => kn.testBit i) ⟨hk, A0, B0⟩ hx hy
    have new : ∃ t' : zSt, lp_X9_fewest_38 64 k f (zn all) (zn b) (zn (i + 1)) (zsI t 107 b (enc (fwB best (1 + max x y)))) = k (zn all) (zn b) t' ∧ zI t' 107 b = enc (fwF T (fun i => kn.testBit i) sh b (d + 1) i best) ∧ zOf (fun o k => o = 107 ∧ k = b) t t' := by
      show ∃ t' : zSt, _ ∧ zI t' 107 b = enc (fwF T (fun i => kn.testBit i) sh b d (i + 1) (fwS T (fun i => kn.testBit i) sh b i best)) ∧ _
      rw [e]
      obtain ⟨t', e1, e2, e3⟩ := ih (i + 1) f (fwB best (1 + max x y)) (zsI t 107 b (enc (fwB best (1 + max x y)))) (by omega) (by omega) (fwB_lt hz (by omega)) (hM'.of (fun o k ho => by rw [zI_sI, if_neg (fun h => ho h.1)])) (fun x hx => by rw [zI_sI, if_neg (by omega)]; exact htab x hx) (by rw [zI_sI, if_pos ⟨rfl, rfl⟩])
      exact ⟨t', e1, e2, (zOf.rf.sI (by exact ⟨rfl, rfl⟩)).tr e3⟩
    have mx : ∀ m : Nat, m = max x y → (∃ t' : zSt, (if enc best < 0 then lp_X9_fewest_38 64 k f (zn all) (zn b) (zn (i + 1)) (zsI t 107 b (zn (1 + m))) else if zn (1 + m) < enc best then lp_X9_fewest_38 64 k f (zn all) (zn b) (zn (i + 1)) (zsI t 107 b (zn (1 + m))) else lp_X9_fewest_38 64 k f (zn all) (zn b) (zn (i + 1)) t) = k (zn all) (zn b) t' ∧ zI t' 107 b = enc (fwF T (fun i => kn.testBit i) sh b (d + 1) i best) ∧ zOf (fun o k => o = 107 ∧ k = b) t t') := by
      intro m hm
      subst hm
      cases best with
      | none =>
        rw [if_pos (show enc none < 0 by decide)]
        exact new
      | some z =>
        have lz := hz z rfl
        rw [if_neg (fun h => by have := (enc_neg (o := some z) hz).1 h; cases this), enc_some]
        by_cases hlt : 1 + max x y < z
        · rw [if_pos ((zn_lt (by omega) (by omega)).2 hlt)]
          have eb : fwB (some z) (1 + max x y) = some (1 + max x y) := by unfold fwB; simp [hlt]
          rw [eb] at new
          exact new
        · rw [if_neg (fun h => hlt ((zn_lt (by omega) (by omega)).1 h))]
          have eb : fwB (some z) (1 + max x y) = some z := by unfold fwB; simp [hlt]
          exact same (e.trans eb)
    rw [hx, hy]
    simp only [enc_some, zn_1add, zn_lt (show y < 2147483648 by omega) (show x < 2147483648 by omega)]
    by_cases hyx : y < x
    · rw [if_pos hyx]
      exact mx x (by omega)
    · rw [if_neg hyx]
      exact mx y (by omega)
theorem fo_lp {nc nt kn po : Nat} {sh : Nat → Nat} (ok : okCau nc nt kn po sh) {all : Nat} (hall : all < 2 ^ nc) : ∀ (d b f : Nat) (t : zSt), b + d = 2 ^ nc → d < f → rCauM t nc nt kn po sh → (∀ x : Nat, x < b → zI t 107 x = enc (fwt nt (fun i => kn.testBit i) sh x)) →
    ∃ t' : zSt, lp_X9_fewest_7 64 f (zn all) (zn b) t = some (enc (fwt nt (fun i => kn.testBit i) sh all), t') ∧ zOf (fun o _ => o = 107) t t' := by
  have h8 := pow8 ok.1
  have sl : (1 : Int32) <<< (zn nc &&& 31) = zn (2 ^ nc) := zn_shl ⟨nc, by have := ok.1; omega⟩
  intro d
  induction d with
  | zero =>
    intro b f t hb hf hM htab
    obtain ⟨f, rfl⟩ : ∃ g, f = g + 1 := ⟨f - 1, by omega⟩
    have : ¬ zn b < zn (2 ^ nc) := by rw [zn_lt (by omega) (by omega)]; omega
    have b3 : ¬ zn all < 0 := zn_neg (by omega)
    have b5 : (zn all).toNatClampNeg = all := zn_cl (by omega)
    have b7 : ¬ 256 ≤ all := by omega
    refine ⟨t, ?_, zOf.rf⟩
    simp only [lp_X9_fewest_7, bd_X9_fewest_7, hM.1, sl, this, if_false, zT_64_71, zN_107, b3, b5, b7, or_self, htab all (by omega)]
  | succ d ih =>
    intro b f t hb hf hM htab
    obtain ⟨f, rfl⟩ : ∃ g, f = g + 1 := ⟨f - 1, by omega⟩
    have h1 : zn b < zn (2 ^ nc) := by rw [zn_lt (by omega) (by omega)]; omega
    have b3 : ¬ zn b < 0 := zn_neg (by omega)
    have b5 : (zn b).toNatClampNeg = b := zn_cl (by omega)
    have b7 : ¬ 256 ≤ b := by omega
    have hpc := pc_le b
    have h2 : zn (pc b) < 2 ↔ pc b < 2 := zn_lt (b := 2) (by omega) (by omega)
    have hfe := fwt_eq nt (fun i => kn.testBit i) sh b
    -- the next one
    have go : ∀ t1 : zSt, zOf (fun o _ => o = 107) t t1 → (∀ x : Nat, x < b + 1 → zI t1 107 x = enc (fwt nt (fun i => kn.testBit i) sh x)) → ∃ t' : zSt, lp_X9_fewest_7 64 f (zn all) (zn (b + 1)) t1 = some (enc (fwt nt (fun i => kn.testBit i) sh all), t') ∧ zOf (fun o _ => o = 107) t t' := by
      intro t1 h1 h2
      obtain ⟨t', e1, e2⟩ := ih (b + 1) f t1 (by omega) (by omega) (hM.of (fun o k ho => (h1 o k ho).1)) h2
      exact ⟨t', e1, h1.tr e2⟩
    simp only [lp_X9_fewest_7, bd_X9_fewest_7, m_X9_fewest_35, m_X9_fewest_190, hM.1, sl, h1, if_true, ones_eq (show b < 2147483648 by omega), zcl_some, h2, zT_64_71, zN_107, b3, b5, b7, or_self, if_false, zlt_eq, zn_succ]
    by_cases hp : pc b < 2
    · rw [if_pos hp]
      have e0 : fwt nt (fun i => kn.testBit i) sh b = some 0 := by rw [hfe]; unfold fwT; rw [if_pos hp]
      have hM2 : rCauM (zsI t 107 b 0) nc nt kn po sh := hM.of (fun o k ho => by rw [zI_sI, if_neg (fun h => ho h.1)])
      have ex : lp_X9_fewest_38 64 (fun l1_9 l2_9 s_9 => lp_X9_fewest_7 64 f l1_9 (l2_9 + 1) s_9) zFuel (zn all) (zn b) 0 (zsI t 107 b 0) = lp_X9_fewest_7 64 f (zn all) (zn b + 1) (zsI t 107 b 0) := by
        have hn : ¬ 1 < zn (pc b) := fun h => by have := (zn_lt (a := 1) (by omega) (by omega)).1 h; omega
        have gen : ∀ g : Nat, lp_X9_fewest_38 64 (fun l1_9 l2_9 s_9 => lp_X9_fewest_7 64 f l1_9 (l2_9 + 1) s_9) (g + 1) (zn all) (zn b) 0 (zsI t 107 b 0) = lp_X9_fewest_7 64 f (zn all) (zn b + 1) (zsI t 107 b 0) := by
          intro g
          rw [lp_X9_fewest_38, bd_X9_fewest_38, ones_eq (show b < 2147483648 by omega), zcl_some, if_neg hn]
          split <;> rfl
        exact gen 999999
      rw [ex, zn_succ]
      refine go _ (zOf.rf.sI (by rfl)) (fun x hx => ?_)
      rw [zI_sI]
      by_cases hxb : x = b
      · rw [if_pos ⟨rfl, hxb⟩, hxb, e0]; rfl
      · rw [if_neg (fun h => hxb h.2)]
        exact htab x (by omega)
    · rw [if_neg hp]
      have e0 : fwt nt (fun i => kn.testBit i) sh b = fwF (fwt nt (fun i => kn.testBit i) sh) (fun i => kn.testBit i) sh b nt 0 none := by rw [hfe]; unfold fwT; rw [if_neg hp]
      have hM2 : rCauM (zsI t 107 b (-1)) nc nt kn po sh := hM.of (fun o k ho => by rw [zI_sI, if_neg (fun h => ho h.1)])
      obtain ⟨t1, f1, f2, f3⟩ := fi_lp ok (all := all) (show b < 256 by omega) (by omega) (k := fun l1_9 l2_9 s_9 => lp_X9_fewest_7 64 f l1_9 (l2_9 + 1) s_9) nt 0 zFuel none (zsI t 107 b (-1)) (by omega) (by have := ok.2.1; unfold zFuel; omega) (fun z hz => by cases hz) hM2 (fun x hx => by rw [zI_sI, if_neg (by omega)]; exact htab x hx) (by rw [zI_sI, if_pos ⟨rfl, rfl⟩]; rfl)
      rw [show (0 : Int32) = zn 0 from rfl, f1, zn_succ]
      refine go t1 (zOf.tr (zOf.rf.sI (by rfl)) (f3.mono (fun o k h => h.1))) (fun x hx => ?_)
      by_cases hxb : x = b
      · rw [hxb, f2, ← e0]
      · rw [(f3 107 x (fun h => hxb h.2)).1, zI_sI, if_neg (fun h => hxb h.2)]
        exact htab x (by omega)
def rFew (S nc nt : Nat) (sh : Nat → Nat) (s : zSt) : Prop := ∀ x : Nat, x < 2 ^ nc → zI s (S + 5) x = enc (fwt nt sk0 sh x)
theorem call_fewest {σ : zSt} {S : Nat} (hS : isS S) (h1 : zR σ 0 2 = S) {nc nt kn po : Nat} {sh : Nat → Nat} (hC : rCauC S σ nc nt kn po sh) (hM : rCauM σ nc nt kn po sh) (ok : okCau nc nt kn po sh) (hF : rFew S nc nt sh σ) : zCa (fun _ => True) (fun o _ => o = 107) (m_X8_fewest 0) (m_X9_fewest 64) σ := by
  have hlt := may_lt nc nt kn po sh
  have h8 := pow8 ok.1
  obtain ⟨t0, t1, t2, t3, t4, t5⟩ := hS.c2
  obtain ⟨t', e1, e2⟩ := fo_lp ok hlt (2 ^ nc) 0 zFuel σ (by omega) (by unfold zFuel; omega) hM (fun x hx => by omega)
  refine zCa.mk (r := enc (fwt nt sk0 sh (may nc nt kn po sh))) (σ1 := σ) (σ2 := t') ?_ ?_ trivial e2
  · have e255 : Int32.ofNat 256 - 1 = zn 255 := by decide +kernel
    have ea : may nc nt kn po sh &&& 255 = may nc nt kn po sh := by
      have := Nat.and_two_pow_sub_one_eq_mod (may nc nt kn po sh) 8
      rw [show (2 : Nat) ^ 8 - 1 = 255 from rfl] at this
      rw [this]
      omega
    have b3 : ¬ zn (may nc nt kn po sh) < 0 := zn_neg (by omega)
    have b5 : (zn (may nc nt kn po sh)).toNatClampNeg = may nc nt kn po sh := zn_cl (by omega)
    have b7 : ¬ 256 ≤ may nc nt kn po sh := by omega
    simp only [m_X8_fewest, h1, t0, t1, if_true, m_X0_fewestTrials, possible_eq hS hC ok, zcl_some, t4, t5, e255, zn_and, ea, b3, b5, b7, or_self, if_false, hF _ hlt]
  · simp only [m_X9_fewest, mayBe_eq hM ok, zcl_some]
    rw [show (0 : Int32) = zn 0 from rfl, e1]
    congr 2
    exact congrArg enc (fwt_told nt kn sh _ (may_unp nc nt kn po sh)).symm
