/-! reading a house -/
theorem had_lp {t : zSt} {n : Nat} (hn : n ≤ 12) : ∀ (d i f : Nat) (x : Bool), i + d = n → d < f → ∃ y : Bool, (∀ kk, lp_X9_readHouse_30 64 kk f (zn n) (zn x.toNat) (zn i) t = kk (zn n) (zn y.toNat) t) ∧ (zI t 64 6 = 1 → (y = true ↔ (x = true ∨ ∃ k, i ≤ k ∧ k < n ∧ zL t 84 k = zL t 64 9))) := by
  intro d
  induction d with
  | zero =>
    intro i f x hi hf
    obtain ⟨f, rfl⟩ : ∃ g, f = g + 1 := ⟨f - 1, by omega⟩
    have h1 : ¬ zn i < zn n := by rw [zn_lt (by omega) (by omega)]; omega
    refine ⟨x, fun kk => by simp only [lp_X9_readHouse_30, bd_X9_readHouse_30, h1, if_false], fun _ => ⟨fun h => Or.inl h, fun h => h.elim id (fun ⟨k, h2, h3, _⟩ => by omega)⟩⟩
  | succ d ih =>
    intro i f x hi hf
    obtain ⟨f, rfl⟩ : ∃ g, f = g + 1 := ⟨f - 1, by omega⟩
    have h1 : zn i < zn n := by rw [zn_lt (by omega) (by omega)]; omega
    have h2 : ¬ zn i < 0 := zn_neg (by omega)
    have h3 : (zn i).toNatClampNeg = i := zn_cl (by omega)
    have h4 : ¬ 12 ≤ i := by omega
    have go : ∀ x' : Bool, (zI t 64 6 = 1 → (x' = true ↔ (x = true ∨ zL t 84 i = zL t 64 9))) → (∀ kk, lp_X9_readHouse_30 64 kk (f + 1) (zn n) (zn x.toNat) (zn i) t = lp_X9_readHouse_30 64 kk f (zn n) (zn x'.toNat) (zn (i + 1)) t) → ∃ y : Bool, (∀ kk, lp_X9_readHouse_30 64 kk (f + 1) (zn n) (zn x.toNat) (zn i) t = kk (zn n) (zn y.toNat) t) ∧ (zI t 64 6 = 1 → (y = true ↔ (x = true ∨ ∃ k, i ≤ k ∧ k < n ∧ zL t 84 k = zL t 64 9))) := by
      intro x' hx' hl
      obtain ⟨y, y1, y2⟩ := ih (i + 1) f x' (by omega) (by omega)
      refine ⟨y, fun kk => (hl kk).trans (y1 kk), fun hs => ?_⟩
      rw [y2 hs, hx' hs]
      constructor
      · rintro ((h | h) | ⟨k, k1, k2, k3⟩)
        · exact Or.inl h
        · exact Or.inr ⟨i, by omega, by omega, h⟩
        · exact Or.inr ⟨k, by omega, k2, k3⟩
      · rintro (h | ⟨k, k1, k2, k3⟩)
        · exact Or.inl (Or.inl h)
        · by_cases hk : k = i
          · subst hk; exact Or.inl (Or.inr k3)
          · exact Or.inr ⟨k, by omega, k2, k3⟩
    cases x
    · by_cases hs : zI t 64 6 = 1
      · by_cases he : zL t 84 i = zL t 64 9
        · exact go true (fun _ => ⟨fun _ => Or.inr he, fun _ => rfl⟩) (fun kk => by
            simp only [lp_X9_readHouse_30, bd_X9_readHouse_30, m_X9_readHouse_61, m_X9_readHouse_66, h1, if_true, show zn (false).toNat = (0 : Int32) from rfl, hs, zT_64_39, zN_84, h2, h3, h4, or_self, if_false, he, zn_succ]
            rfl)
        · exact go false (fun _ => ⟨fun h => absurd h (by decide), fun h => h.elim id (fun h => absurd h he)⟩) (fun kk => by
            simp only [lp_X9_readHouse_30, bd_X9_readHouse_30, m_X9_readHouse_65, m_X9_readHouse_66, h1, if_true, show zn (false).toNat = (0 : Int32) from rfl, hs, zT_64_39, zN_84, h2, h3, h4, or_self, if_false, he, zn_succ])
      · exact go false (fun h => absurd h hs) (fun kk => by
          simp only [lp_X9_readHouse_30, bd_X9_readHouse_30, m_X9_readHouse_65, m_X9_readHouse_66, h1, if_true, show zn (false).toNat = (0 : Int32) from rfl, hs, if_false, zn_succ])
    · exact go true (fun _ => ⟨fun _ => Or.inl rfl, fun _ => rfl⟩) (fun kk => by
        simp only [lp_X9_readHouse_30, bd_X9_readHouse_30, m_X9_readHouse_61, m_X9_readHouse_66, h1, if_true, show ¬ zn (true).toNat = (0 : Int32) by decide, if_false, zn_succ]
        rfl)
theorem had_eq {t : zSt} {n : Nat} (hn : n ≤ 12) : ∃ y : Bool, (∀ kk, lp_X9_readHouse_30 64 kk zFuel (zn n) 0 0 t = kk (zn n) (zn y.toNat) t) ∧ (zI t 64 6 = 1 → (y = true ↔ ∃ k, k < n ∧ zL t 84 k = zL t 64 9)) := by
  obtain ⟨y, y1, y2⟩ := had_lp (t := t) hn n 0 zFuel false (by omega) (by unfold zFuel; omega)
  refine ⟨y, y1, fun hs => ?_⟩
  rw [y2 hs]
  constructor
  · rintro (h | ⟨k, -, k2, k3⟩)
    · exact absurd h (by decide)
    · exact ⟨k, k2, k3⟩
  · rintro ⟨k, k2, k3⟩
    exact Or.inr ⟨k, by omega, k2, k3⟩
def hsC (H n : Nat) (W P Q : Nat → List Nat) (sy sp : Nat → Nat) (s : zSt) : Prop := zI s H 0 = zn n ∧ nmC W n (H + 1) s ∧ ∀ k, k < n → zL s (H + 2) k = zq (c27 (P k) : Int) ∧ zL s (H + 3) k = zq (c27 (Q k) : Int) ∧ zI s (H + 4) k = zi ((sy k : Int) - sp k) ∧ zI s (H + 5) k = zi ((sy k : Int) + sp k)
def hsM (n : Nat) (W P Q : Nat → List Nat) (sy sp : Nat → Nat) (t : zSt) : Prop := zI t 64 48 = zn n ∧ nmM W n 84 t ∧ ∀ k, k < n → zL t 85 k = zq (c256 (P k) : Int) ∧ zL t 86 k = zq (c256 (Q k) : Int) ∧ zI t 89 k = zn (sy k) ∧ zI t 90 k = zn (sp k)
def hsO (n : Nat) (W P Q : Nat → List Nat) (sy sp : Nat → Nat) : Prop := n ≤ 12 ∧ nmL W n ∧ ∀ k, k < n → okW (P k) ∧ okW (Q k) ∧ sy k ≤ 9999 ∧ sp k ≤ 999
def up {α : Type} (f : Nat → α) (n : Nat) (v : α) : Nat → α := fun k => if k = n then v else f k
theorem up_eq {α : Type} (f : Nat → α) (n : Nat) (v : α) : up f n v n = v := by unfold up; rw [if_pos rfl]
theorem up_ne {α : Type} (f : Nat → α) {n k : Nat} (v : α) (h : k < n) : up f n v k = f k := by unfold up; rw [if_neg (by omega)]
theorem nmL_up {W : Nat → List Nat} {n : Nat} (h : nmL W n) {w : List Nat} (hw : okW w) (hn : ∀ k, k < n → W k ≠ w) : nmL (up W n w) (n + 1) := by
  refine ⟨fun k hk => ?_, fun j k hj hk e => ?_⟩
  · unfold up; split
    · exact hw
    · exact h.1 k (by omega)
  · unfold up at e
    by_cases h1 : j = n
    · by_cases h2 : k = n
      · omega
      · rw [if_pos h1, if_neg h2] at e
        exact absurd e.symm (hn k (by omega))
    · by_cases h2 : k = n
      · rw [if_neg h1, if_pos h2] at e
        exact absurd e (hn j (by omega))
      · rw [if_neg h1, if_neg h2] at e
        exact h.2 j k (by omega) (by omega) e
def gHoC (H : Nat) (o k : Nat) : Prop := gPC o k ∨ (H ≤ o ∧ o ≤ H + 5)
def gHoM (o k : Nat) : Prop := gPM o k ∨ (o = 64 ∧ k = 48) ∨ o = 84 ∨ o = 85 ∨ o = 86 ∨ o = 89 ∨ o = 90
/-- one house, side by side -/
theorem house_step {B : Nat → Nat} {N : Nat} {p : Nat} {s t : zSt} (h : rkC B N false p s) (h' : rkM B N false p t) {H n : Nat} (hH : isH H) {W P Q : Nat → List Nat} {sy sp : Nat → Nat} (hC : hsC H n W P Q sy sp s) (hM : hsM n W P Q sy sp t) (hO : hsO n W P Q sy sp) (hk0 : tkd B N false p ≠ 0) :
    ∃ r s' t', m_X2_readHouse H 3 s = some (r, s') ∧ m_X9_readHouse 64 t = some t' ∧ ((r = 1 ∧ n < 12 ∧ ∃ p' W' P' Q' sy' sp', p < p' ∧ rkC B N false p' s' ∧ rkM B N false p' t' ∧ hsC H n W' P' Q' sy' sp' s' ∧ hsM (n + 1) W' P' Q' sy' sp' t' ∧ hsO (n + 1) W' P' Q' sy' sp' ∧ zL s' (H + 1) n = zq (c27 (W' n) : Int) ∧ zL s' (H + 2) n = zq (c27 (P' n) : Int) ∧ zL s' (H + 3) n = zq (c27 (Q' n) : Int) ∧ zI s' (H + 4) n = zi ((sy' n : Int) - sp' n) ∧ zI s' (H + 5) n = zi ((sy' n : Int) + sp' n)) ∨ (r = 0 ∧ ∃ f pl, f ≠ 0 ∧ f < 100 ∧ flC f pl s' ∧ flM f pl t')) ∧ zOf (gHoC H) s s' ∧ zOf gHoM t t' := by
  have hH5 : 5 ≤ H := by rcases hH with rfl | rfl <;> omega
  obtain ⟨-, ⟨t1, t2, t3, t4, t5, -⟩, ⟨n1, n2, n3, n4, n5, -⟩⟩ := hH.c
  obtain ⟨O1, O2, O3⟩ := hO
  obtain ⟨C1, C2, C3⟩ := hC
  obtain ⟨M1, M2, M3⟩ := hM
  have fC : ∀ {a b : zSt}, zOf gPC a b → zOf (gHoC H) a b := fun e => e.mono (fun o k hw => Or.inl hw)
  have fM : ∀ {a b : zSt}, zOf gPM a b → zOf gHoM a b := fun e => e.mono (fun o k hw => Or.inl hw)
  by_cases hn : n < 12
  rotate_left
  · have hn12 : n = 12 := by omega
    subst hn12
    obtain ⟨s1, a1, a2, a3⟩ := refC h 2
    have a1' : m_X3_refuse 3 2 s = some (0, s1) := a1
    obtain ⟨u1, b1, b2, b3⟩ := wrM h' 2
    have b1' : m_X9_wrong 64 2 t = some u1 := b1
    have hp := b2.pos (fc_ne (by omega)) (fc_lt (by omega))
    have hz : ¬ zI u1 64 2 = 0 := fun hz => by rw [hz] at hp; exact absurd hp (by decide)
    have c48 : zI u1 64 48 = zn 12 := (b3 64 48 (by unfold gPM; omega)).1.trans M1
    obtain ⟨y, y1, -⟩ := had_eq (t := u1) (n := 12) (by omega)
    refine ⟨0, s1, u1, ?_, ?_, Or.inr ⟨rfl, _, _, fc_ne (by omega), fc_lt (by omega), a2, b2⟩, fC a3, fM b3⟩
    · simp only [m_X2_readHouse, C1, show ¬ zn 12 < 12 by decide, if_false, a1', zcl_some, true_or, if_true]
    · simp only [m_X9_readHouse, m_X9_readHouse_14, m_X9_readHouse_162, M1, show zn 12 = (12 : Int32) from rfl, if_true, b1', zcv_some, wantF hp]
      rw [show zI u1 64 48 = zn 12 from c48, y1]
      simp only [wantF hp, toldF hp, nameF hp, zcl_some, zcv_some, hz, if_false, hp, if_true]
  have l12 : zn n < 12 := (zn_lt (b := 12) (by omega) (by omega)).2 hn
  have e12 : ¬ zn n = 12 := fun x => by have := (zn_inj (b := 12) (by omega) (by omega)).1 x; omega
  have g2 : ¬ zn n < 0 := zn_neg (by omega)
  have g3 : (zn n).toNatClampNeg = n := zn_cl (by omega)
  have g4 : ¬ 12 ≤ n := by omega
  have one0 : ¬ (1 : Int32) = 0 := by decide
  -- house
  obtain ⟨s1, a1, a2, a3, a4⟩ := takeC h (k := 270) (by omega)
  have A1 : m_X3_take 3 270 s = _ := a1
  obtain ⟨u1, b1, b2, b3, b4⟩ := wantM h' (i := 14) (by omega)
  have B1 : m_X9_want 64 448546567013 t = some u1 := b1
  have c48 : zI u1 64 48 = zn n := (b4 64 48 (by unfold gPM; omega)).1.trans M1
  obtain ⟨y, y1, y2⟩ := had_eq (t := u1) (n := n) (by omega)
  by_cases k1 : tkd B N false p = 270
  rotate_left
  · have hp := (b3 k1).pos (fc_ne (by omega)) (fc_lt (by omega))
    have hz : ¬ zI u1 64 2 = 0 := fun hz => by rw [hz] at hp; exact absurd hp (by decide)
    refine ⟨0, s1, u1, ?_, ?_, Or.inr ⟨rfl, _, _, fc_ne (by omega), fc_lt (by omega), a3 k1, b3 k1⟩, fC a4, fM b4⟩
    · simp only [m_X2_readHouse, C1, l12, if_true, A1, k1, if_false, zcl_some]
    · simp only [m_X9_readHouse, m_X9_readHouse_14, m_X9_readHouse_162, M1, e12, if_false, B1, zcv_some, c48, y1, wantF hp, toldF hp, nameF hp, zcl_some, hz, hp, if_true]
  replace a2 := a2 k1
  replace b2 := b2 k1
  clear a3 b3
  -- its name
  have eW : ∀ k, k < n → zL u1 84 k = zq (c256 (W k) : Int) := fun k hk => (b4 84 k (by unfold gPM; omega)).2.1.trans (M2 k hk)
  obtain ⟨r2, s2, c1, c2, c3⟩ := newNameC a2 (o := H + 1) (n := n) n1 hn (by omega) (by omega) O2 (fun k hk => (a4 (H + 1) k (by unfold gPC; omega)).2.1.trans (C2 k hk))
  obtain ⟨v2, u2, d1, d2, d3⟩ := namedM b2 y
  have C1a : zI s1 H 0 = zn n := (a4 H 0 (by unfold gPC; omega)).1.trans C1
  have fs2 : zOf (gHoC H) s s2 := (fC a4).tr (c3.mono (fun o k hw => hw.elim Or.inl (fun q => Or.inr (by omega))))
  have fu2 : zOf gHoM t u2 := (fM b4).tr (fM d3)
  have yk : tkd B N false (tnx B N p) = 2 → (y = true ↔ ∃ k, k < n ∧ W k = twd B N (tnx B N p)) := fun hk => by
    have hs : zI u1 64 6 = 1 := (b2.so (k := 1) (by omega)).2 ((msr_1 _).2 (Or.inl hk))
    have hw := (tkd_w (Or.inl hk) (fun k hk => (b2.2.1.2.2 k hk).1) b2.1).1
    rw [y2 hs, b2.2.2.2.1.2.2.2.2 (Or.inl hk)]
    constructor
    · rintro ⟨k, k1, k2⟩
      rw [eW k k1, nm256 (O2.1 k k1) hw] at k2
      exact ⟨k, k1, k2⟩
    · rintro ⟨k, k1, k2⟩
      exact ⟨k, k1, by rw [eW k k1, nm256 (O2.1 k k1) hw]; exact k2⟩
  have two : (∃ f pl, f ≠ 0 ∧ f < 100 ∧ r2 = 0 ∧ flC f pl s2 ∧ flM f pl u2) ∨ (tkd B N false (tnx B N p) = 2 ∧ (∀ k, k < n → W k ≠ twd B N (tnx B N p)) ∧ r2 = 1 ∧ rkC B N false (tnx B N (tnx B N p)) s2 ∧ zL s2 (H + 1) n = zq (c27 (twd B N (tnx B N p)) : Int) ∧ rkM B N false (tnx B N (tnx B N p)) u2 ∧ v2 = zq (c256 (twd B N (tnx B N p)) : Int)) := by
    rcases c2 with ⟨x1, x2, x3, x4, x5⟩ | ⟨x1, x2, x3, x4⟩ | ⟨x1, x3, x4⟩
    · rcases d2 with ⟨z1, z2, z3, z4⟩ | ⟨z1, z2, z3⟩ | ⟨z1, z3⟩
      · exact Or.inr ⟨x1, x2, x3, x4, x5, z3, z4⟩
      · obtain ⟨k, q1, q2⟩ := (yk x1).1 z2
        exact absurd q2 (x2 k q1)
      · exact absurd x1 z1
    · rcases d2 with ⟨z1, z2, z3, z4⟩ | ⟨z1, z2, z3⟩ | ⟨z1, z3⟩
      · rw [(yk x1).2 x2] at z2; exact absurd z2 (by decide)
      · exact Or.inl ⟨3, _, by omega, by omega, x3, x4, z3⟩
      · exact absurd x1 z1
    · rcases d2 with ⟨z1, z2, z3, z4⟩ | ⟨z1, z2, z3⟩ | ⟨z1, z3⟩
      · exact absurd z1 x1
      · exact absurd z1 x1
      · exact Or.inl ⟨_, _, fc_ne (by omega), fc_lt (by omega), x3, x4, z3⟩
  rcases two with ⟨f, pl, hf0, hf1, hr, hfc, hfm⟩ | ⟨k2, w1, w2, w3, w4, w5, w6⟩
  · have hp := hfm.pos hf0 hf1
    have hz : ¬ zI u2 64 2 = 0 := fun hz => by rw [hz] at hp; exact absurd hp (by decide)
    refine ⟨0, s2, u2, ?_, ?_, Or.inr ⟨rfl, f, pl, hf0, hf1, hfc, hfm⟩, fs2, fu2⟩
    · simp only [m_X2_readHouse, C1, l12, if_true, A1, k1, one0, if_false, zcl_some, t1, C1a, c1, hr]
    · simp only [m_X9_readHouse, m_X9_readHouse_14, m_X9_readHouse_162, M1, e12, if_false, B1, zcv_some, c48, y1, d1, wantF hp, toldF hp, nameF hp, zcl_some, hz, hp, if_true]
  clear c2 d2 yk
  generalize hw0 : twd B N (tnx B N p) = w0 at *
  generalize hp2 : tnx B N (tnx B N p) = p2 at *
  have hw0k : okW w0 := by rw [← hw0]; exact (tkd_w (Or.inl k2) (fun k hk => (b2.2.1.2.2 k hk).1) b2.1).1
  have pp : p < p2 := by
    have q1 := tnx_bd (B := B) h.1
    have q2 := tnx_bd (B := B) q1.2.1
    have q3 : tpl B N p < N := by
      by_cases q : tpl B N p < N
      · exact q
      · have : tkd B N false p = 0 := by unfold tkd; rw [if_pos (by omega)]
        omega
    have := q1.2.2.2 q3
    omega
  -- says
  obtain ⟨s3, a31, a32, a33, a34⟩ := takeC w3 (k := 271) (by omega)
  have A3 : m_X3_take 3 271 s2 = _ := a31
  obtain ⟨u3, b31, b32, b33, b34⟩ := wantM w5 (i := 15) (by omega)
  have B3 : m_X9_want 64 1935767923 u2 = some u3 := b31
  by_cases k3 : tkd B N false p2 = 271
  rotate_left
  · have hp := (b33 k3).pos (fc_ne (by omega)) (fc_lt (by omega))
    have hz : ¬ zI u3 64 2 = 0 := fun hz => by rw [hz] at hp; exact absurd hp (by decide)
    refine ⟨0, s3, u3, ?_, ?_, Or.inr ⟨rfl, _, _, fc_ne (by omega), fc_lt (by omega), a33 k3, b33 k3⟩, fs2.tr (fC a34), fu2.tr (fM b34)⟩
    · simp only [m_X2_readHouse, C1, l12, if_true, A1, k1, one0, if_false, zcl_some, t1, C1a, c1, w2, A3, k3]
    · simp only [m_X9_readHouse, m_X9_readHouse_14, m_X9_readHouse_162, M1, e12, if_false, B1, zcv_some, c48, y1, d1, B3, wantF hp, toldF hp, nameF hp, zcl_some, hz, hp, if_true]
  replace a32 := a32 k3
  replace b32 := b32 k3
  -- a number
  obtain ⟨r4, s4, a41, a42, a43⟩ := takeNumC a32 (a := 0) (b := 9999) (by omega) (by omega)
  have A4 : m_X3_takeNumber 3 0 9999 s3 = some (r4, s4) := a41
  obtain ⟨v4, u4, b41, b42, b43⟩ := toldNumM b32 (a := 0) (b := 9999) (by omega) (by omega)
  have B4 : m_X9_toldNumber 64 0 9999 u3 = some (v4, u4) := b41
  have fs4 : zOf (gHoC H) s s4 := (fs2.tr (fC a34)).tr (fC a43)
  have fu4 : zOf gHoM t u4 := (fu2.tr (fM b34)).tr (fM b43)
  rcases a42 with ⟨k4, r4e, w43, w44⟩ | ⟨k4, r4e, w43⟩
  rotate_left
  · rcases b42 with ⟨z1, -, -⟩ | ⟨-, z2⟩
    · exact absurd z1 k4
    have hp := z2.pos fcN_ne.1 fcN_ne.2
    have hz : ¬ zI u4 64 2 = 0 := fun hz => by rw [hz] at hp; exact absurd hp (by decide)
    refine ⟨0, s4, u4, ?_, ?_, Or.inr ⟨rfl, _, _, fcN_ne.1, fcN_ne.2, w43, z2⟩, fs4, fu4⟩
    · simp only [m_X2_readHouse, C1, l12, if_true, A1, k1, one0, if_false, zcl_some, t1, C1a, c1, w2, A3, k3, A4, r4e]
    · simp only [m_X9_readHouse, m_X9_readHouse_14, m_X9_readHouse_162, M1, e12, if_false, B1, zcv_some, c48, y1, d1, B3, B4, wantF hp, toldF hp, nameF hp, zcl_some, hz, hp, if_true]
  rcases b42 with ⟨-, z2, z3⟩ | ⟨z1, -⟩
  rotate_left
  · exact absurd k4 z1
  -- span
  obtain ⟨s5, a51, a52, a53, a54⟩ := takeC w43 (k := 272) (by omega)
  have A5 : m_X3_take 3 272 s4 = _ := a51
  obtain ⟨u5, b51, b52, b53, b54⟩ := wantM z2 (i := 16) (by omega)
  have B5 : m_X9_want 64 1936744814 u4 = some u5 := b51
  generalize hy0 : tnu B N (tnx B N p2) = y0 at *
  have y0b : y0 ≤ 9999 := by rw [← hy0]; exact k4.2.2
  generalize hp4 : tnx B N (tnx B N p2) = p4 at *
  by_cases k5 : tkd B N false p4 = 272
  rotate_left
  · have hp := (b53 k5).pos (fc_ne (by omega)) (fc_lt (by omega))
    have hz : ¬ zI u5 64 2 = 0 := fun hz => by rw [hz] at hp; exact absurd hp (by decide)
    refine ⟨0, s5, u5, ?_, ?_, Or.inr ⟨rfl, _, _, fc_ne (by omega), fc_lt (by omega), a53 k5, b53 k5⟩, fs4.tr (fC a54), fu4.tr (fM b54)⟩
    · simp only [m_X2_readHouse, C1, l12, if_true, A1, k1, one0, if_false, zcl_some, t1, C1a, c1, w2, A3, k3, A4, r4e, A5, k5]
    · simp only [m_X9_readHouse, m_X9_readHouse_14, m_X9_readHouse_162, M1, e12, if_false, B1, zcv_some, c48, y1, d1, B3, B4, B5, wantF hp, toldF hp, nameF hp, zcl_some, hz, hp, if_true]
  replace a52 := a52 k5
  replace b52 := b52 k5
  obtain ⟨r6, s6, a61, a62, a63⟩ := takeNumC a52 (a := 0) (b := 999) (by omega) (by omega)
  have A6 : m_X3_takeNumber 3 0 999 s5 = some (r6, s6) := a61
  obtain ⟨v6, u6, b61, b62, b63⟩ := toldNumM b52 (a := 0) (b := 999) (by omega) (by omega)
  have B6 : m_X9_toldNumber 64 0 999 u5 = some (v6, u6) := b61
  have fs6 : zOf (gHoC H) s s6 := (fs4.tr (fC a54)).tr (fC a63)
  have fu6 : zOf gHoM t u6 := (fu4.tr (fM b54)).tr (fM b63)
  rcases a62 with ⟨k6, r6e, w63, w64⟩ | ⟨k6, r6e, w63⟩
  rotate_left
  · rcases b62 with ⟨q1, -, -⟩ | ⟨-, q2⟩
    · exact absurd q1 k6
    have hp := q2.pos fcN_ne.1 fcN_ne.2
    have hz : ¬ zI u6 64 2 = 0 := fun hz => by rw [hz] at hp; exact absurd hp (by decide)
    refine ⟨0, s6, u6, ?_, ?_, Or.inr ⟨rfl, _, _, fcN_ne.1, fcN_ne.2, w63, q2⟩, fs6, fu6⟩
    · simp only [m_X2_readHouse, C1, l12, if_true, A1, k1, one0, if_false, zcl_some, t1, C1a, c1, w2, A3, k3, A4, r4e, A5, k5, A6, r6e]
    · simp only [m_X9_readHouse, m_X9_readHouse_14, m_X9_readHouse_162, M1, e12, if_false, B1, zcv_some, c48, y1, d1, B3, B4, B5, B6, wantF hp, toldF hp, nameF hp, zcl_some, hz, hp, if_true]
  rcases b62 with ⟨-, q2, q3⟩ | ⟨q1, -⟩
  rotate_left
  · exact absurd k6 q1
  generalize hx0 : tnu B N (tnx B N p4) = x0 at *
  have x0b : x0 ≤ 999 := by rw [← hx0]; exact k6.2.2
  generalize hp6 : tnx B N (tnx B N p4) = p6 at *
  -- the class writes low and high
  have C1b : zI s6 H 0 = zn n := by
    rw [(a63 H 0 (by unfold gPC; omega)).1, (a54 H 0 (by unfold gPC; omega)).1, (a43 H 0 (by unfold gPC; omega)).1, (a34 H 0 (by unfold gPC; omega)).1, (c3 H 0 (by unfold gPC; omega)).1]; exact C1a
  have sv : zI s4 3 8 - zI s6 3 8 = zi ((y0 : Int) - x0) := by rw [w44, w64, zn_zi (by omega), zn_zi (by omega), zi_sub]
  have sv2 : zI s4 3 8 + zI s6 3 8 = zi ((y0 : Int) + x0) := by rw [w44, w64, zn_zi (by omega), zn_zi (by omega), zi_add]
  have e7 : zOf (fun o k => (o = H + 4 ∧ k = n) ∨ (o = H + 5 ∧ k = n)) s6 (zsI (zsI s6 (H + 4) n (zi ((y0 : Int) - x0))) (H + 5) n (zi ((y0 : Int) + x0))) := (zOf.rf.sI (Or.inl ⟨rfl, rfl⟩)).sI (Or.inr ⟨rfl, rfl⟩)
  have C1c : zI (zsI s6 (H + 4) n (zi ((y0 : Int) - x0))) H 0 = zn n := by rw [zI_sI, if_neg (by omega)]; exact C1b
  have C38 : zI (zsI s6 (H + 4) n (zi ((y0 : Int) - x0))) 3 8 = zI s6 3 8 := by rw [zI_sI, if_neg (by omega)]
  have rk7 := w63.of e7 (fun o k hw => by unfold gRdC; omega)
  have lo7 : zI (zsI (zsI s6 (H + 4) n (zi ((y0 : Int) - x0))) (H + 5) n (zi ((y0 : Int) + x0))) (H + 4) n = zi ((y0 : Int) - x0) := by rw [zI_sI, if_neg (by omega), zI_sI, if_pos ⟨rfl, rfl⟩]
  have hi7 : zI (zsI (zsI s6 (H + 4) n (zi ((y0 : Int) - x0))) (H + 5) n (zi ((y0 : Int) + x0))) (H + 5) n = zi ((y0 : Int) + x0) := by rw [zI_sI, if_pos ⟨rfl, rfl⟩]
  have CL : m_X2_readHouse H 3 s = zcl (m_X3_take 3 260 (zsI (zsI s6 (H + 4) n (zi ((y0 : Int) - x0))) (H + 5) n (zi ((y0 : Int) + x0)))) (fun r16 s15 => (if r16 = 0 then
                some (0, s15)
                else
                zcl (m_X3_takeName 3 s15) (fun r18 s17 => (if r18 = 0 then
                  some (0, s17)
                  else
                  (if zI s17 H 0 < 0 ∨ zN (H + 2) ≤ Int32.toNatClampNeg (zI s17 H 0) then none else zlt (zsL s17 (H + 2) (Int32.toNatClampNeg (zI s17 H 0)) (zL s17 3 9)) (fun s19 => zcl (m_X3_take 3 273 s19) (fun r21 s20 => (if r21 = 0 then
                    some (0, s20)
                    else
                    zcl (m_X3_takeName 3 s20) (fun r23 s22 => (if r23 = 0 then
                      some (0, s22)
                      else
                      (if zI s22 H 0 < 0 ∨ zN (H + 3) ≤ Int32.toNatClampNeg (zI s22 H 0) then none else zlt (zsL s22 (H + 3) (Int32.toNatClampNeg (zI s22 H 0)) (zL s22 3 9)) (fun s24 => zcl (m_X3_take 3 59 s24) (fun r26 s25 => (if r26 = 0 ∨ r26 = 1 then some (r26, s25) else none)))))))))))))) := by
    simp only [m_X2_readHouse, C1, l12, if_true, A1, k1, one0, if_false, zcl_some, t1, t2, t3, t4, t5, n4, n5, C1a, c1, w2, A3, k3, A4, r4e, A5, k5, A6, r6e, C1b, g2, g3, g4, or_self, zlt_eq, sv, C1c, C38, sv2]
  have ML : m_X9_readHouse 64 t = zcv (m_X9_want 64 2003399269 u6) (fun s12 => zcl (m_X9_named 64 0 s12) (fun r14 s13 => zcv (m_X9_want 64 109287261888882 s13) (fun s15 => zcl (m_X9_named 64 0 s15) (fun r17 s16 => (if zI s16 64 2 = 0 then
  (if zI s16 64 6 = 59 then
    m_X9_readHouse_162 64 (zn n) (zq (c256 w0 : Int)) (zn y0) (zn x0) r14 r17 s16
    else
    zcv (m_X9_wrong 64 2 s16) (fun s25 => m_X9_readHouse_162 64 (zn n) (zq (c256 w0 : Int)) (zn y0) (zn x0) r14 r17 s25))
  else
  m_X9_readHouse_162 64 (zn n) (zq (c256 w0 : Int)) (zn y0) (zn x0) r14 r17 s16))))) := by
    simp only [m_X9_readHouse, m_X9_readHouse_14, M1, e12, if_false, B1, zcv_some, c48, y1, d1, B3, B4, B5, B6, zcl_some, w6, z3, q3]
  rw [CL, ML]
  have fs7 : zOf (gHoC H) s (zsI (zsI s6 (H + 4) n (zi ((y0 : Int) - x0))) (H + 5) n (zi ((y0 : Int) + x0))) := fs6.tr (e7.mono (fun o k hw => by unfold gHoC; omega))
  have nm7 : zL (zsI (zsI s6 (H + 4) n (zi ((y0 : Int) - x0))) (H + 5) n (zi ((y0 : Int) + x0))) (H + 1) n = zq (c27 w0 : Int) := by
    rw [(e7 (H + 1) n (by omega)).2.1, (a63 (H + 1) n (by unfold gPC; omega)).2.1, (a54 (H + 1) n (by unfold gPC; omega)).2.1, (a43 (H + 1) n (by unfold gPC; omega)).2.1, (a34 (H + 1) n (by unfold gPC; omega)).2.1]; exact w4
  have old7 : ∀ o k, (H ≤ o ∧ o ≤ H + 5) → k ≠ n → zI (zsI (zsI s6 (H + 4) n (zi ((y0 : Int) - x0))) (H + 5) n (zi ((y0 : Int) + x0))) o k = zI s o k ∧ zL (zsI (zsI s6 (H + 4) n (zi ((y0 : Int) - x0))) (H + 5) n (zi ((y0 : Int) + x0))) o k = zL s o k := by
    intro o k ho hk
    have q1 := e7 o k (by omega)
    have q2 := a63 o k (by unfold gPC; omega)
    have q3 := a54 o k (by unfold gPC; omega)
    have q4 := a43 o k (by unfold gPC; omega)
    have q5 := a34 o k (by unfold gPC; omega)
    have q6 := c3 o k (by unfold gPC; omega)
    have q7 := a4 o k (by unfold gPC; omega)
    exact ⟨by rw [q1.1, q2.1, q3.1, q4.1, q5.1, q6.1, q7.1], by rw [q1.2.1, q2.2.1, q3.2.1, q4.2.1, q5.2.1, q6.2.1, q7.2.1]⟩
  have C17 : zI (zsI (zsI s6 (H + 4) n (zi ((y0 : Int) - x0))) (H + 5) n (zi ((y0 : Int) + x0))) H 0 = zn n := by rw [(e7 H 0 (by omega)).1]; exact C1b
  have oldu : ∀ o k, 84 ≤ o → zI u6 o k = zI t o k ∧ zL u6 o k = zL t o k := by
    intro o k ho
    have q1 := b63 o k (by unfold gPM; omega)
    have q2 := b54 o k (by unfold gPM; omega)
    have q3 := b43 o k (by unfold gPM; omega)
    have q4 := b34 o k (by unfold gPM; omega)
    have q5 := d3 o k (by unfold gPM; omega)
    have q6 := b4 o k (by unfold gPM; omega)
    exact ⟨by rw [q1.1, q2.1, q3.1, q4.1, q5.1, q6.1], by rw [q1.2.1, q2.2.1, q3.2.1, q4.2.1, q5.2.1, q6.2.1]⟩
  have u48 : zI u6 64 48 = zn n := by
    rw [(b63 64 48 (by unfold gPM; omega)).1, (b54 64 48 (by unfold gPM; omega)).1, (b43 64 48 (by unfold gPM; omega)).1, (b34 64 48 (by unfold gPM; omega)).1, (d3 64 48 (by unfold gPM; omega)).1]; exact c48
  have pp6 : p < p6 := by
    have q1 := tnx_bd (B := B) w3.1
    have q2 := tnx_bd (B := B) q1.2.1
    rw [hp4] at q2
    have q3 := tnx_bd (B := B) (p := p4) (N := N) (by omega)
    have q4 := tnx_bd (B := B) q3.2.1
    omega
  clear CL ML A1 B1 A3 B3 A4 B4 A5 B5 A6 B6 a1 b1 c1 d1 a31 b31 a41 b41 a51 b51 a61 b61 y1 y2
  generalize zsI (zsI s6 (H + 4) n (zi ((y0 : Int) - x0))) (H + 5) n (zi ((y0 : Int) + x0)) = s7 at *
  -- wire
  obtain ⟨s8, a81, a82, a83, a84⟩ := takeC rk7 (k := 260) (by omega)
  have A8 : m_X3_take 3 260 s7 = _ := a81
  obtain ⟨u8, b81, b82, b83, b84⟩ := wantM q2 (i := 4) (by omega)
  have B8 : m_X9_want 64 2003399269 u6 = some u8 := b81
  by_cases k8 : tkd B N false p6 = 260
  rotate_left
  · have hp := (b83 k8).pos (fc_ne (by omega)) (fc_lt (by omega))
    have hz : ¬ zI u8 64 2 = 0 := fun hz => by rw [hz] at hp; exact absurd hp (by decide)
    refine ⟨0, s8, u8, ?_, ?_, Or.inr ⟨rfl, _, _, fc_ne (by omega), fc_lt (by omega), a83 k8, b83 k8⟩, fs7.tr (fC a84), fu6.tr (fM b84)⟩
    · simp only [A8, k8, if_false, zcl_some, if_true]
    · simp only [m_X9_readHouse_162, B8, zcv_some, wantF hp, toldF hp, nameF hp, zcl_some, hz, hp, if_true, if_false]
  replace a82 := a82 k8
  replace b82 := b82 k8
  obtain ⟨s9, a91, a92, a93, a94⟩ := takeNameC a82
  obtain ⟨v9, u9, b91, b92, b93⟩ := namedM b82 false
  have B9 : m_X9_named 64 0 u8 = some (v9, u9) := b91
  have fs9 : zOf (gHoC H) s s9 := (fs7.tr (fC a84)).tr (fC a94)
  have fu9 : zOf gHoM t u9 := (fu6.tr (fM b84)).tr (fM b93)
  by_cases k9 : tkd B N false (tnx B N p6) = 2
  rotate_left
  · rcases b92 with ⟨q1, -⟩ | ⟨q1, -⟩ | ⟨-, q1⟩
    · exact absurd q1 k9
    · exact absurd q1 k9
    have hp := q1.pos (fc_ne (by omega)) (fc_lt (by omega))
    have hz : ¬ zI u9 64 2 = 0 := fun hz => by rw [hz] at hp; exact absurd hp (by decide)
    refine ⟨0, s9, u9, ?_, ?_, Or.inr ⟨rfl, _, _, fc_ne (by omega), fc_lt (by omega), a93 k9, q1⟩, fs9, fu9⟩
    · simp only [A8, k8, zcl_some, if_true, one0, if_false, a91, k9]
    · simp only [m_X9_readHouse_162, B8, zcv_some, B9, wantF hp, toldF hp, nameF hp, zcl_some, hz, hp, if_true, if_false]
  rcases b92 with ⟨-, -, m9, v9e⟩ | ⟨-, x, -⟩ | ⟨x, -⟩
  rotate_left
  · exact absurd x (by decide)
  · exact absurd k9 x
  obtain ⟨r9, l9⟩ := a92 k9
  have hw9 : okW (twd B N (tnx B N p6)) := (tkd_w (Or.inl k9) (fun k hk => (b82.2.1.2.2 k hk).1) b82.1).1
  generalize twd B N (tnx B N p6) = w9 at *
  have C19 : zI s9 H 0 = zn n := by rw [(a94 H 0 (by unfold gPC; omega)).1, (a84 H 0 (by unfold gPC; omega)).1]; exact C17
  have e10 : zOf (fun o k => o = H + 2 ∧ k = n) s9 (zsL s9 (H + 2) n (zq (c27 w9 : Int))) := zOf.rf.sL ⟨rfl, rfl⟩
  have rk10 := r9.of e10 (fun o k hw => by unfold gRdC; omega)
  generalize hp9 : tnx B N (tnx B N p6) = p9 at *
  -- cellar
  obtain ⟨s10, a101, a102, a103, a104⟩ := takeC rk10 (k := 273) (by omega)
  have A10 : m_X3_take 3 273 (zsL s9 (H + 2) n (zq (c27 w9 : Int))) = _ := a101
  obtain ⟨u10, b101, b102, b103, b104⟩ := wantM m9 (i := 17) (by omega)
  have B10 : m_X9_want 64 109287261888882 u9 = some u10 := b101
  have fs10 : zOf (gHoC H) s s10 := (fs9.tr (e10.mono (fun o k hw => by unfold gHoC; omega))).tr (fC a104)
  by_cases k10 : tkd B N false p9 = 273
  rotate_left
  · have hp := (b103 k10).pos (fc_ne (by omega)) (fc_lt (by omega))
    have hz : ¬ zI u10 64 2 = 0 := fun hz => by rw [hz] at hp; exact absurd hp (by decide)
    refine ⟨0, s10, u10, ?_, ?_, Or.inr ⟨rfl, _, _, fc_ne (by omega), fc_lt (by omega), a103 k10, b103 k10⟩, fs10, fu9.tr (fM b104)⟩
    · simp only [A8, k8, zcl_some, if_true, one0, if_false, a91, k9, C19, n2, g2, g3, g4, or_self, zlt_eq, l9, A10, k10]
    · simp only [m_X9_readHouse_162, B8, zcv_some, B9, B10, wantF hp, toldF hp, nameF hp, zcl_some, hz, hp, if_true, if_false]
  replace a102 := a102 k10
  replace b102 := b102 k10
  obtain ⟨s11, a111, a112, a113, a114⟩ := takeNameC a102
  obtain ⟨v11, u11, b111, b112, b113⟩ := namedM b102 false
  have B11 : m_X9_named 64 0 u10 = some (v11, u11) := b111
  have fs11 : zOf (gHoC H) s s11 := fs10.tr (fC a114)
  have fu11 : zOf gHoM t u11 := (fu9.tr (fM b104)).tr (fM b113)
  by_cases k11 : tkd B N false (tnx B N p9) = 2
  rotate_left
  · rcases b112 with ⟨q1, -⟩ | ⟨q1, -⟩ | ⟨-, q1⟩
    · exact absurd q1 k11
    · exact absurd q1 k11
    have hp := q1.pos (fc_ne (by omega)) (fc_lt (by omega))
    have hz : ¬ zI u11 64 2 = 0 := fun hz => by rw [hz] at hp; exact absurd hp (by decide)
    refine ⟨0, s11, u11, ?_, ?_, Or.inr ⟨rfl, _, _, fc_ne (by omega), fc_lt (by omega), a113 k11, q1⟩, fs11, fu11⟩
    · simp only [A8, k8, zcl_some, if_true, one0, if_false, a91, k9, C19, n2, g2, g3, g4, or_self, zlt_eq, l9, A10, k10, a111, k11]
    · simp only [m_X9_readHouse_162, B8, zcv_some, B9, B10, B11, wantF hp, toldF hp, nameF hp, zcl_some, hz, hp, if_true, if_false]
  rcases b112 with ⟨-, -, m11, v11e⟩ | ⟨-, x, -⟩ | ⟨x, -⟩
  rotate_left
  · exact absurd x (by decide)
  · exact absurd k11 x
  obtain ⟨r11, l11⟩ := a112 k11
  have hw11 : okW (twd B N (tnx B N p9)) := (tkd_w (Or.inl k11) (fun k hk => (b102.2.1.2.2 k hk).1) b102.1).1
  generalize twd B N (tnx B N p9) = w11 at *
  have C111 : zI s11 H 0 = zn n := by rw [(a114 H 0 (by unfold gPC; omega)).1, (a104 H 0 (by unfold gPC; omega)).1, (e10 H 0 (by omega)).1]; exact C19
  have e12' : zOf (fun o k => o = H + 3 ∧ k = n) s11 (zsL s11 (H + 3) n (zq (c27 w11 : Int))) := zOf.rf.sL ⟨rfl, rfl⟩
  have rk12 := r11.of e12' (fun o k hw => by unfold gRdC; omega)
  generalize hp11 : tnx B N (tnx B N p9) = p11 at *
  -- the semicolon
  obtain ⟨s12, a121, a122, a123, a124⟩ := takeC rk12 (k := 59) (by omega)
  have A12 : m_X3_take 3 59 (zsL s11 (H + 3) n (zq (c27 w11 : Int))) = _ := a121
  have fs12 : zOf (gHoC H) s s12 := (fs11.tr (e12'.mono (fun o k hw => by unfold gHoC; omega))).tr (fC a124)
  have e59 : zI u11 64 6 = 59 ↔ tkd B N false p11 = 59 := (m11.so (k := 59) (by omega)).trans (msr_s (by omega) (by omega))
  have z0 : zI u11 64 2 = 0 := m11.2.2.2.2.1
  by_cases k12 : tkd B N false p11 = 59
  rotate_left
  · obtain ⟨u12, b121, b122, b123⟩ := wrM m11 2
    have B12 : m_X9_wrong 64 2 u11 = some u12 := b121
    have hp := b122.pos (fc_ne (by omega)) (fc_lt (by omega))
    refine ⟨0, s12, u12, ?_, ?_, Or.inr ⟨rfl, _, _, fc_ne (by omega), fc_lt (by omega), a123 k12, b122⟩, fs12, fu11.tr (fM b123)⟩
    · simp only [A8, k8, zcl_some, if_true, one0, if_false, a91, k9, C19, n2, n3, g2, g3, g4, or_self, zlt_eq, l9, A10, k10, a111, k11, C111, l11, A12, k12, true_or]
    · simp only [m_X9_readHouse_162, B8, zcv_some, B9, B10, B11, zcl_some, z0, if_true, e59, k12, if_false, B12, hp]
  obtain ⟨u12, b121, b122, b123⟩ := tokM m11 (by omega)
  replace a122 := a122 k12
  have nf : ¬ (0 : Int32) < 0 := by decide
  have M48 : zI u12 64 48 = zn n := by rw [(b123 64 48 (by unfold gPM; omega)).1, (b113 64 48 (by unfold gPM; omega)).1, (b104 64 48 (by unfold gPM; omega)).1, (b93 64 48 (by unfold gPM; omega)).1, (b84 64 48 (by unfold gPM; omega)).1]; exact u48
  have oldu12 : ∀ o k, 84 ≤ o → zI u12 o k = zI t o k ∧ zL u12 o k = zL t o k := by
    intro o k ho
    have q1 := b123 o k (by unfold gPM; omega)
    have q2 := b113 o k (by unfold gPM; omega)
    have q3 := b104 o k (by unfold gPM; omega)
    have q4 := b93 o k (by unfold gPM; omega)
    have q5 := b84 o k (by unfold gPM; omega)
    have q6 := oldu o k ho
    exact ⟨by rw [q1.1, q2.1, q3.1, q4.1, q5.1, q6.1], by rw [q1.2.1, q2.2.1, q3.2.1, q4.2.1, q5.2.1, q6.2]⟩
  have olds12 : ∀ o k, (H ≤ o ∧ o ≤ H + 5) → ¬ (o = H + 2 ∧ k = n) → ¬ (o = H + 3 ∧ k = n) → zI s12 o k = zI s7 o k ∧ zL s12 o k = zL s7 o k := by
    intro o k ho hk hk'
    have q1 := a124 o k (by unfold gPC; omega)
    have q2 := e12' o k (by omega)
    have q3 := a114 o k (by unfold gPC; omega)
    have q4 := a104 o k (by unfold gPC; omega)
    have q5 := e10 o k (by omega)
    have q6 := a94 o k (by unfold gPC; omega)
    have q7 := a84 o k (by unfold gPC; omega)
    exact ⟨by rw [q1.1, q2.1, q3.1, q4.1, q5.1, q6.1, q7.1], by rw [q1.2.1, q2.2.1, q3.2.1, q4.2.1, q5.2.1, q6.2.1, q7.2.1]⟩
  have wi : zL s12 (H + 2) n = zq (c27 w9 : Int) := by
    rw [(a124 (H + 2) n (by unfold gPC; omega)).2.1, (e12' (H + 2) n (by omega)).2.1, (a114 (H + 2) n (by unfold gPC; omega)).2.1, (a104 (H + 2) n (by unfold gPC; omega)).2.1, zL_sL, if_pos ⟨rfl, rfl⟩]
  have ce : zL s12 (H + 3) n = zq (c27 w11 : Int) := by
    rw [(a124 (H + 3) n (by unfold gPC; omega)).2.1, zL_sL, if_pos ⟨rfl, rfl⟩]
  have pfin : p < tnx B N p11 := by
    have q1 := tnx_bd (B := B) rk7.1
    have q2 := tnx_bd (B := B) q1.2.1
    rw [hp9] at q2
    have q3 := tnx_bd (B := B) (p := p9) (N := N) (by omega)
    have q4 := tnx_bd (B := B) q3.2.1
    rw [hp11] at q4
    have q5 := tnx_bd (B := B) (p := p11) (N := N) (by omega)
    omega
  have eM : zOf (fun o k => (o = 84 ∧ k = n) ∨ (o = 85 ∧ k = n) ∨ (o = 86 ∧ k = n) ∨ (o = 89 ∧ k = n) ∨ (o = 90 ∧ k = n) ∨ (o = 64 ∧ k = 48)) u12 (zsI (zsL (zsL (zsI (zsI (zsL u12 84 n (zq (c256 w0 : Int))) 89 n (zn y0)) 90 n (zn x0)) 85 n (zq (c256 w9 : Int))) 86 n (zq (c256 w11 : Int))) 64 48 (zn (n + 1))) :=
    (((((zOf.rf.sL (by omega)).sI (by omega)).sI (by omega)).sL (by omega)).sL (by omega)).sI (by omega)
  refine ⟨1, s12, zsI (zsL (zsL (zsI (zsI (zsL u12 84 n (zq (c256 w0 : Int))) 89 n (zn y0)) 90 n (zn x0)) 85 n (zq (c256 w9 : Int))) 86 n (zq (c256 w11 : Int))) 64 48 (zn (n + 1)), ?_, ?_, Or.inl ⟨rfl, hn, tnx B N p11, up W n w0, up P n w9, up Q n w11, up sy n y0, up sp n x0, pfin, a122, b122.of eM (fun o k hw => by unfold gRdM; omega), ⟨?_, ?_, ?_⟩, ⟨?_, ?_, ?_⟩, ⟨by omega, nmL_up O2 hw0k w1, ?_⟩, ?_, ?_, ?_, ?_, ?_⟩, fs12, (fu11.tr (fM b123)).tr (eM.mono (fun o k hw => by unfold gHoM; omega))⟩
  · simp only [A8, k8, zcl_some, if_true, one0, if_false, a91, k9, C19, n2, n3, g2, g3, g4, or_self, zlt_eq, l9, A10, k10, a111, k11, C111, l11, A12, k12, or_true]
  · simp only [m_X9_readHouse_162, B8, zcv_some, B9, B10, B11, zcl_some, z0, if_true, e59, k12, nf, if_false, b121, zT_64_39, zT_64_40, zT_64_41, zT_64_44, zT_64_45, zN_84, zN_85, zN_86, zN_89, zN_90, g2, g3, g4, or_self, zlt_eq, v9e, v11e]
    simp only [zI_sI, zI_sL, zI_sR, zL_sI, zL_sL, zL_sR, zR_sI, zR_sL, zR_sR, show ¬ (64 : Nat) = 86 by decide, show ¬ (64 : Nat) = 85 by decide, show ¬ (64 : Nat) = 90 by decide, show ¬ (64 : Nat) = 89 by decide, show ¬ (64 : Nat) = 84 by decide, false_and, if_false, M48, zn_succ]
  · rw [(olds12 H 0 (by omega) (by omega) (by omega)).1]; exact C17
  · intro k hk
    rw [up_ne _ _ hk, (olds12 (H + 1) k (by omega) (by omega) (by omega)).2, (old7 (H + 1) k (by omega) (by omega)).2]; exact C2 k hk
  · intro k hk
    obtain ⟨q1, q2, q3, q4⟩ := C3 k hk
    rw [up_ne _ _ hk, up_ne _ _ hk, up_ne _ _ hk, up_ne _ _ hk, (olds12 (H + 2) k (by omega) (by omega) (by omega)).2, (old7 (H + 2) k (by omega) (by omega)).2, (olds12 (H + 3) k (by omega) (by omega) (by omega)).2, (old7 (H + 3) k (by omega) (by omega)).2, (olds12 (H + 4) k (by omega) (by omega) (by omega)).1, (old7 (H + 4) k (by omega) (by omega)).1, (olds12 (H + 5) k (by omega) (by omega) (by omega)).1, (old7 (H + 5) k (by omega) (by omega)).1]
    exact ⟨q1, q2, q3, q4⟩
  · rw [zI_sI, if_pos ⟨rfl, rfl⟩]
  · intro k hk
    by_cases hkn : k = n
    · subst hkn
      rw [up_eq]; simp [zI_sI, zI_sL, zI_sR, zL_sI, zL_sL, zL_sR, zR_sI, zR_sL, zR_sR]
    · rw [up_ne _ _ (show k < n by omega), (eM 84 k (by omega)).2.1, (oldu12 84 k (by omega)).2]
      exact M2 k (by omega)
  · intro k hk
    by_cases hkn : k = n
    · subst hkn
      rw [up_eq, up_eq, up_eq, up_eq]; simp [zI_sI, zI_sL, zI_sR, zL_sI, zL_sL, zL_sR, zR_sI, zR_sL, zR_sR]
    · rw [up_ne _ _ (show k < n by omega), up_ne _ _ (show k < n by omega), up_ne _ _ (show k < n by omega), up_ne _ _ (show k < n by omega), (eM 85 k (by omega)).2.1, (oldu12 85 k (by omega)).2, (eM 86 k (by omega)).2.1, (oldu12 86 k (by omega)).2, (eM 89 k (by omega)).1, (oldu12 89 k (by omega)).1, (eM 90 k (by omega)).1, (oldu12 90 k (by omega)).1]
      exact M3 k (by omega)
  · intro k hk
    by_cases hkn : k = n
    · subst hkn
      rw [up_eq, up_eq, up_eq, up_eq]; exact ⟨hw9, hw11, y0b, x0b⟩
    · rw [up_ne _ _ (show k < n by omega), up_ne _ _ (show k < n by omega), up_ne _ _ (show k < n by omega), up_ne _ _ (show k < n by omega)]
      exact O3 k (by omega)
  · rw [up_eq, (olds12 (H + 1) n (by omega) (by omega) (by omega)).2]; exact nm7
  · rw [up_eq]; exact wi
  · rw [up_eq]; exact ce
  · rw [up_eq, up_eq, (olds12 (H + 4) n (by omega) (by omega) (by omega)).1]; exact lo7
  · rw [up_eq, up_eq, (olds12 (H + 5) n (by omega) (by omega) (by omega)).1]; exact hi7
