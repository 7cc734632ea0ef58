/-! the pure part: the two mirrors answer alike -/
theorem zT_0_0 : zT 0 0 = 1 := rfl
theorem zT_0_1 : zT 0 1 = 3 := rfl
theorem zT_0_8 : zT 0 8 = 53 := rfl
theorem zT_0_9 : zT 0 9 = 59 := rfl
theorem zT_0_10 : zT 0 10 = 63 := rfl
theorem zT_1_0 : zT 1 0 = 2 := rfl
theorem zT_3_0 : zT 3 0 = 1 := rfl
theorem zT_3_1 : zT 3 1 = 4 := rfl
theorem zT_5_1 : zT 5 1 = 6 := rfl
theorem zT_5_2 : zT 5 2 = 11 := rfl
theorem zT_6_2 : zT 6 2 = 7 := rfl
theorem zT_6_3 : zT 6 3 = 8 := rfl
theorem zT_6_4 : zT 6 4 = 9 := rfl
theorem zT_6_5 : zT 6 5 = 10 := rfl
theorem zT_12_1 : zT 12 1 = 13 := rfl
theorem zT_12_2 : zT 12 2 = 18 := rfl
theorem zT_13_2 : zT 13 2 = 14 := rfl
theorem zT_13_3 : zT 13 3 = 15 := rfl
theorem zT_13_4 : zT 13 4 = 16 := rfl
theorem zT_13_5 : zT 13 5 = 17 := rfl
theorem zT_19_1 : zT 19 1 = 20 := rfl
theorem zT_19_2 : zT 19 2 = 21 := rfl
theorem zT_19_3 : zT 19 3 = 22 := rfl
theorem zT_19_4 : zT 19 4 = 23 := rfl
theorem zT_19_5 : zT 19 5 = 24 := rfl
theorem zT_19_6 : zT 19 6 = 25 := rfl
theorem zT_26_1 : zT 26 1 = 27 := rfl
theorem zT_26_2 : zT 26 2 = 28 := rfl
theorem zT_26_3 : zT 26 3 = 29 := rfl
theorem zT_26_4 : zT 26 4 = 30 := rfl
theorem zT_26_5 : zT 26 5 = 31 := rfl
theorem zT_26_6 : zT 26 6 = 32 := rfl
theorem zT_33_2 : zT 33 2 = 34 := rfl
theorem zT_33_3 : zT 33 3 = 35 := rfl
theorem zT_33_4 : zT 33 4 = 36 := rfl
theorem zT_33_5 : zT 33 5 = 37 := rfl
theorem zT_33_6 : zT 33 6 = 38 := rfl
theorem zT_33_7 : zT 33 7 = 39 := rfl
theorem zT_33_8 : zT 33 8 = 40 := rfl
theorem zT_33_9 : zT 33 9 = 41 := rfl
theorem zT_33_10 : zT 33 10 = 42 := rfl
theorem zT_43_2 : zT 43 2 = 44 := rfl
theorem zT_43_3 : zT 43 3 = 45 := rfl
theorem zT_43_4 : zT 43 4 = 46 := rfl
theorem zT_43_5 : zT 43 5 = 47 := rfl
theorem zT_43_6 : zT 43 6 = 48 := rfl
theorem zT_43_7 : zT 43 7 = 49 := rfl
theorem zT_43_8 : zT 43 8 = 50 := rfl
theorem zT_43_9 : zT 43 9 = 51 := rfl
theorem zT_43_10 : zT 43 10 = 52 := rfl
theorem zT_53_2 : zT 53 2 = 54 := rfl
theorem zT_53_3 : zT 53 3 = 55 := rfl
theorem zT_53_4 : zT 53 4 = 56 := rfl
theorem zT_53_5 : zT 53 5 = 57 := rfl
theorem zT_53_6 : zT 53 6 = 58 := rfl
theorem zT_59_0 : zT 59 0 = 60 := rfl
theorem zT_59_3 : zT 59 3 = 61 := rfl
theorem zT_59_4 : zT 59 4 = 62 := rfl
theorem zT_64_0 : zT 64 0 = 65 := rfl
theorem zT_64_11 : zT 64 11 = 66 := rfl
theorem zT_64_12 : zT 64 12 = 67 := rfl
theorem zT_64_13 : zT 64 13 = 68 := rfl
theorem zT_64_14 : zT 64 14 = 69 := rfl
theorem zT_64_15 : zT 64 15 = 70 := rfl
theorem zT_64_16 : zT 64 16 = 71 := rfl
theorem zT_64_17 : zT 64 17 = 72 := rfl
theorem zT_64_25 : zT 64 25 = 73 := rfl
theorem zT_64_26 : zT 64 26 = 74 := rfl
theorem zT_64_27 : zT 64 27 = 75 := rfl
theorem zT_64_28 : zT 64 28 = 76 := rfl
theorem zT_64_29 : zT 64 29 = 77 := rfl
theorem zT_64_32 : zT 64 32 = 78 := rfl
theorem zT_64_33 : zT 64 33 = 79 := rfl
theorem zT_64_34 : zT 64 34 = 80 := rfl
theorem zT_64_35 : zT 64 35 = 81 := rfl
theorem zT_64_37 : zT 64 37 = 82 := rfl
theorem zT_64_38 : zT 64 38 = 83 := rfl
theorem zT_64_39 : zT 64 39 = 84 := rfl
theorem zT_64_40 : zT 64 40 = 85 := rfl
theorem zT_64_41 : zT 64 41 = 86 := rfl
theorem zT_64_42 : zT 64 42 = 87 := rfl
theorem zT_64_43 : zT 64 43 = 88 := rfl
theorem zT_64_44 : zT 64 44 = 89 := rfl
theorem zT_64_45 : zT 64 45 = 90 := rfl
theorem zT_64_46 : zT 64 46 = 91 := rfl
theorem zT_64_47 : zT 64 47 = 92 := rfl
theorem zT_64_50 : zT 64 50 = 93 := rfl
theorem zT_64_51 : zT 64 51 = 94 := rfl
theorem zT_64_52 : zT 64 52 = 95 := rfl
theorem zT_64_53 : zT 64 53 = 96 := rfl
theorem zT_64_54 : zT 64 54 = 97 := rfl
theorem zT_64_55 : zT 64 55 = 98 := rfl
theorem zT_64_56 : zT 64 56 = 99 := rfl
theorem zT_64_57 : zT 64 57 = 100 := rfl
theorem zT_64_58 : zT 64 58 = 101 := rfl
theorem zT_64_59 : zT 64 59 = 102 := rfl
theorem zT_64_60 : zT 64 60 = 103 := rfl
theorem zT_64_61 : zT 64 61 = 104 := rfl
theorem zT_64_69 : zT 64 69 = 105 := rfl
theorem zT_64_70 : zT 64 70 = 106 := rfl
theorem zT_64_71 : zT 64 71 = 107 := rfl
theorem zN_0 : zN 0 = 11 := rfl
theorem zN_1 : zN 1 = 2 := rfl
theorem zN_2 : zN 2 = 800 := rfl
theorem zN_3 : zN 3 = 12 := rfl
theorem zN_4 : zN 4 = 20 := rfl
theorem zN_5 : zN 5 = 4 := rfl
theorem zN_6 : zN 6 = 8 := rfl
theorem zN_7 : zN 7 = 8 := rfl
theorem zN_8 : zN 8 = 8 := rfl
theorem zN_9 : zN 9 = 8 := rfl
theorem zN_10 : zN 10 = 256 := rfl
theorem zN_11 : zN 11 = 11 := rfl
theorem zN_12 : zN 12 = 4 := rfl
theorem zN_13 : zN 13 = 8 := rfl
theorem zN_14 : zN 14 = 8 := rfl
theorem zN_15 : zN 15 = 8 := rfl
theorem zN_16 : zN 16 = 8 := rfl
theorem zN_17 : zN 17 = 256 := rfl
theorem zN_18 : zN 18 = 11 := rfl
theorem zN_19 : zN 19 = 7 := rfl
theorem zN_20 : zN 20 = 12 := rfl
theorem zN_21 : zN 21 = 12 := rfl
theorem zN_22 : zN 22 = 12 := rfl
theorem zN_23 : zN 23 = 12 := rfl
theorem zN_24 : zN 24 = 12 := rfl
theorem zN_25 : zN 25 = 12 := rfl
theorem zN_26 : zN 26 = 7 := rfl
theorem zN_27 : zN 27 = 12 := rfl
theorem zN_28 : zN 28 = 12 := rfl
theorem zN_29 : zN 29 = 12 := rfl
theorem zN_30 : zN 30 = 12 := rfl
theorem zN_31 : zN 31 = 12 := rfl
theorem zN_32 : zN 32 = 12 := rfl
theorem zN_33 : zN 33 = 12 := rfl
theorem zN_34 : zN 34 = 12 := rfl
theorem zN_35 : zN 35 = 12 := rfl
theorem zN_36 : zN 36 = 12 := rfl
theorem zN_37 : zN 37 = 12 := rfl
theorem zN_38 : zN 38 = 13 := rfl
theorem zN_39 : zN 39 = 120 := rfl
theorem zN_40 : zN 40 = 120 := rfl
theorem zN_41 : zN 41 = 120 := rfl
theorem zN_42 : zN 42 = 12 := rfl
theorem zN_43 : zN 43 = 12 := rfl
theorem zN_44 : zN 44 = 12 := rfl
theorem zN_45 : zN 45 = 12 := rfl
theorem zN_46 : zN 46 = 12 := rfl
theorem zN_47 : zN 47 = 12 := rfl
theorem zN_48 : zN 48 = 13 := rfl
theorem zN_49 : zN 49 = 120 := rfl
theorem zN_50 : zN 50 = 120 := rfl
theorem zN_51 : zN 51 = 120 := rfl
theorem zN_52 : zN 52 = 12 := rfl
theorem zN_53 : zN 53 = 7 := rfl
theorem zN_54 : zN 54 = 40 := rfl
theorem zN_55 : zN 55 = 40 := rfl
theorem zN_56 : zN 56 = 40 := rfl
theorem zN_57 : zN 57 = 40 := rfl
theorem zN_58 : zN 58 = 40 := rfl
theorem zN_59 : zN 59 = 5 := rfl
theorem zN_60 : zN 60 = 4 := rfl
theorem zN_61 : zN 61 = 20 := rfl
theorem zN_62 : zN 62 = 5 := rfl
theorem zN_63 : zN 63 = 13 := rfl
theorem zN_64 : zN 64 = 72 := rfl
theorem zN_65 : zN 65 = 800 := rfl
theorem zN_66 : zN 66 = 11 := rfl
theorem zN_67 : zN 67 = 11 := rfl
theorem zN_68 : zN 68 = 8 := rfl
theorem zN_69 : zN 69 = 8 := rfl
theorem zN_70 : zN 70 = 11 := rfl
theorem zN_71 : zN 71 = 8 := rfl
theorem zN_72 : zN 72 = 8 := rfl
theorem zN_73 : zN 73 = 40 := rfl
theorem zN_74 : zN 74 = 40 := rfl
theorem zN_75 : zN 75 = 40 := rfl
theorem zN_76 : zN 76 = 40 := rfl
theorem zN_77 : zN 77 = 40 := rfl
theorem zN_78 : zN 78 = 16 := rfl
theorem zN_79 : zN 79 = 4 := rfl
theorem zN_80 : zN 80 = 16 := rfl
theorem zN_81 : zN 81 = 4 := rfl
theorem zN_82 : zN 82 = 3 := rfl
theorem zN_83 : zN 83 = 3 := rfl
theorem zN_84 : zN 84 = 12 := rfl
theorem zN_85 : zN 85 = 12 := rfl
theorem zN_86 : zN 86 = 12 := rfl
theorem zN_87 : zN 87 = 12 := rfl
theorem zN_88 : zN 88 = 12 := rfl
theorem zN_89 : zN 89 = 12 := rfl
theorem zN_90 : zN 90 = 12 := rfl
theorem zN_91 : zN 91 = 12 := rfl
theorem zN_92 : zN 92 = 12 := rfl
theorem zN_93 : zN 93 = 12 := rfl
theorem zN_94 : zN 94 = 300 := rfl
theorem zN_95 : zN 95 = 300 := rfl
theorem zN_96 : zN 96 = 13 := rfl
theorem zN_97 : zN 97 = 12 := rfl
theorem zN_98 : zN 98 = 300 := rfl
theorem zN_99 : zN 99 = 300 := rfl
theorem zN_100 : zN 100 = 13 := rfl
theorem zN_101 : zN 101 = 12 := rfl
theorem zN_102 : zN 102 = 200 := rfl
theorem zN_103 : zN 103 = 70 := rfl
theorem zN_104 : zN 104 = 12 := rfl
theorem zN_105 : zN 105 = 8 := rfl
theorem zN_106 : zN 106 = 8 := rfl
theorem zN_107 : zN 107 = 256 := rfl
theorem zC_0 : zC 0 = 8 := rfl
theorem zC_1 : zC 1 = 7 := rfl
theorem zC_2 : zC 2 = 10 := rfl
theorem zC_3 : zC 3 = 3 := rfl
theorem zC_4 : zC 4 = 12 := rfl
theorem zC_5 : zC 5 = 5 := rfl
theorem zC_6 : zC 6 = 0 := rfl
theorem zC_12 : zC 12 = 5 := rfl
theorem zC_13 : zC 13 = 0 := rfl
theorem zC_19 : zC 19 = 2 := rfl
theorem zC_26 : zC 26 = 2 := rfl
theorem zC_33 : zC 33 = 6 := rfl
theorem zC_43 : zC 43 = 6 := rfl
theorem zC_53 : zC 53 = 4 := rfl
theorem zC_59 : zC 59 = 1 := rfl
theorem zC_64 : zC 64 = 9 := rfl
theorem tc_0 : Int32.toNatClampNeg 0 = 0 := rfl
theorem ln_0 : ¬ ((0 : Int32) < 0) := by decide
theorem tc_1 : Int32.toNatClampNeg 1 = 1 := rfl
theorem ln_1 : ¬ ((1 : Int32) < 0) := by decide
theorem tc_2 : Int32.toNatClampNeg 2 = 2 := rfl
theorem ln_2 : ¬ ((2 : Int32) < 0) := by decide
theorem tc_3 : Int32.toNatClampNeg 3 = 3 := rfl
theorem ln_3 : ¬ ((3 : Int32) < 0) := by decide
theorem tc_4 : Int32.toNatClampNeg 4 = 4 := rfl
theorem ln_4 : ¬ ((4 : Int32) < 0) := by decide
theorem tc_5 : Int32.toNatClampNeg 5 = 5 := rfl
theorem ln_5 : ¬ ((5 : Int32) < 0) := by decide
theorem tc_6 : Int32.toNatClampNeg 6 = 6 := rfl
theorem ln_6 : ¬ ((6 : Int32) < 0) := by decide
theorem tc_7 : Int32.toNatClampNeg 7 = 7 := rfl
theorem ln_7 : ¬ ((7 : Int32) < 0) := by decide
theorem tc_8 : Int32.toNatClampNeg 8 = 8 := rfl
theorem ln_8 : ¬ ((8 : Int32) < 0) := by decide
theorem tc_9 : Int32.toNatClampNeg 9 = 9 := rfl
theorem ln_9 : ¬ ((9 : Int32) < 0) := by decide
theorem tc_10 : Int32.toNatClampNeg 10 = 10 := rfl
theorem ln_10 : ¬ ((10 : Int32) < 0) := by decide
theorem tc_11 : Int32.toNatClampNeg 11 = 11 := rfl
theorem ln_11 : ¬ ((11 : Int32) < 0) := by decide
theorem tc_12 : Int32.toNatClampNeg 12 = 12 := rfl
theorem ln_12 : ¬ ((12 : Int32) < 0) := by decide
theorem tc_13 : Int32.toNatClampNeg 13 = 13 := rfl
theorem ln_13 : ¬ ((13 : Int32) < 0) := by decide
def zHo {α : Type} (m : Option α) (Q : α → Prop) : Prop := ∃ a, m = some a ∧ Q a
theorem zHo.ret {α : Type} {a : α} {Q : α → Prop} (h : Q a) : zHo (some a) Q := ⟨a, rfl, h⟩
theorem zHo.cl {α β : Type} {m : Option (α × zSt)} {f : α → zSt → Option β} {Q : β → Prop} (h : zHo m (fun a => zHo (f a.1 a.2) Q)) : zHo (zcl m f) Q := by
  obtain ⟨a, rfl, h⟩ := h
  exact h
theorem zHo.cv {β : Type} {m : Option zSt} {f : zSt → Option β} {Q : β → Prop} (h : zHo m (fun a => zHo (f a) Q)) : zHo (zcv m f) Q := by
  obtain ⟨a, rfl, h⟩ := h
  exact h
theorem zHo.lt {α β : Type} {a : α} {f : α → Option β} {Q : β → Prop} (h : zHo (f a) Q) : zHo (zlt a f) Q := h
theorem zHo.mono {α : Type} {m : Option α} {P Q : α → Prop} (h : zHo m P) (hq : ∀ a, P a → Q a) : zHo m Q := by
  obtain ⟨a, h1, h2⟩ := h
  exact ⟨a, h1, hq a h2⟩
theorem zHo.it {α : Type} {c : Prop} [Decidable c] {x y : Option α} {Q : α → Prop} (h1 : c → zHo x Q) (h2 : ¬ c → zHo y Q) : zHo (if c then x else y) Q := by
  by_cases h : c
  · rw [if_pos h]; exact h1 h
  · rw [if_neg h]; exact h2 h
theorem zHo.gd {α : Type} {c : Prop} [Decidable c] {x : Option α} {Q : α → Prop} (h : ¬ c) (hx : zHo x Q) : zHo (if c then none else x) Q := by
  rw [if_neg h]; exact hx
theorem zHo.ok {α : Type} {c : Prop} [Decidable c] {x : Option α} {Q : α → Prop} (h : c) (hx : zHo x Q) : zHo (if c then x else none) Q := by
  rw [if_pos h]; exact hx
/-! Int32 from Nat -/
def zn (a : Nat) : Int32 := Int32.ofNat a
theorem zn_int {a : Nat} (ha : a < 2147483648) : (zn a).toInt = (a : Int) := Int32.toInt_ofNat_of_lt (by omega)
theorem zn_cl {a : Nat} (ha : a < 2147483648) : (zn a).toNatClampNeg = a := by
  have := zn_int ha
  show (zn a).toInt.toNat = a
  omega
theorem zn_lt {a b : Nat} (ha : a < 2147483648) (hb : b < 2147483648) : (zn a < zn b) ↔ a < b := by
  rw [Int32.lt_iff_toInt_lt, zn_int ha, zn_int hb]; omega
theorem zn_le {a b : Nat} (ha : a < 2147483648) (hb : b < 2147483648) : (zn a ≤ zn b) ↔ a ≤ b := by
  rw [Int32.le_iff_toInt_le, zn_int ha, zn_int hb]; omega
theorem zn_inj {a b : Nat} (ha : a < 2147483648) (hb : b < 2147483648) : (zn a = zn b) ↔ a = b := by
  rw [← Int32.toInt_inj, zn_int ha, zn_int hb]; omega
theorem zn_neg {a : Nat} (ha : a < 2147483648) : ¬ (zn a < 0) := by
  rw [Int32.lt_iff_toInt_lt, zn_int ha]
  have : (0 : Int32).toInt = 0 := rfl
  omega
theorem zn_add (a b : Nat) : zn a + zn b = zn (a + b) := (Int32.ofNat_add a b).symm
theorem zn_succ (a : Nat) : zn a + 1 = zn (a + 1) := zn_add a 1
theorem zn_pred (a : Nat) : zn (a + 1) - 1 = zn a := by
  rw [← zn_succ, Int32.add_sub_cancel]
theorem zn_gd {a N : Nat} (h : a < N) (hN : N ≤ 2147483648) : ¬ (zn a < 0 ∨ N ≤ (zn a).toNatClampNeg) := by
  rw [zn_cl (by omega)]
  rintro (h1 | h1)
  · exact zn_neg (by omega) h1
  · omega
theorem zn_of {p : Int32} (h : ¬ p < 0) : ∃ j : Nat, j < 2147483648 ∧ p = zn j := by
  refine ⟨p.toNatClampNeg, ?_, ?_⟩
  · have := p.toInt_lt
    show p.toInt.toNat < _
    omega
  · rw [Int32.lt_iff_toInt_lt] at h
    have h0 : (0 : Int32).toInt = 0 := rfl
    have h2 : p.toNatClampNeg < 2147483648 := by
      have := p.toInt_lt
      show p.toInt.toNat < _
      omega
    rw [← Int32.toInt_inj, zn_int h2]
    show _ = ((p.toInt.toNat : Nat) : Int)
    omega
/-! what a run may change -/
def zOf (W : Nat → Nat → Prop) (σ σ' : zSt) : Prop := ∀ o k, ¬ W o k → zI σ' o k = zI σ o k ∧ zL σ' o k = zL σ o k ∧ zR σ' o k = zR σ o k
theorem zOf.rf {W : Nat → Nat → Prop} {σ : zSt} : zOf W σ σ := fun _ _ _ => ⟨rfl, rfl, rfl⟩
theorem zOf.tr {W : Nat → Nat → Prop} {σ σ1 σ2 : zSt} (h : zOf W σ σ1) (h' : zOf W σ1 σ2) : zOf W σ σ2 := fun o k hw => ⟨(h' o k hw).1.trans (h o k hw).1, (h' o k hw).2.1.trans (h o k hw).2.1, (h' o k hw).2.2.trans (h o k hw).2.2⟩
theorem zOf.mono {W V : Nat → Nat → Prop} {σ σ1 : zSt} (h : zOf W σ σ1) (hv : ∀ o k, W o k → V o k) : zOf V σ σ1 := fun o k hw => h o k (fun h' => hw (hv o k h'))
theorem zOf.sI {W : Nat → Nat → Prop} {σ σ1 : zSt} (h : zOf W σ σ1) {o k : Nat} {v : Int32} (hw : W o k) : zOf W σ (zsI σ1 o k v) := fun o' k' hn => by
  refine ⟨?_, (h o' k' hn).2.1, (h o' k' hn).2.2⟩
  rw [zI_sI, if_neg (fun hc => hn (by rw [hc.1, hc.2]; exact hw))]
  exact (h o' k' hn).1
theorem zOf.sL {W : Nat → Nat → Prop} {σ σ1 : zSt} (h : zOf W σ σ1) {o k : Nat} {v : Int64} (hw : W o k) : zOf W σ (zsL σ1 o k v) := fun o' k' hn => by
  refine ⟨(h o' k' hn).1, ?_, (h o' k' hn).2.2⟩
  rw [zL_sL, if_neg (fun hc => hn (by rw [hc.1, hc.2]; exact hw))]
  exact (h o' k' hn).2.1
theorem zOf.sR {W : Nat → Nat → Prop} {σ σ1 : zSt} (h : zOf W σ σ1) {o k : Nat} {v : Nat} (hw : W o k) : zOf W σ (zsR σ1 o k v) := fun o' k' hn => by
  refine ⟨(h o' k' hn).1, (h o' k' hn).2.1, ?_⟩
  rw [zR_sR, if_neg (fun hc => hn (by rw [hc.1, hc.2]; exact hw))]
  exact (h o' k' hn).2.2
