/-! the world: cells b .. b + 107, by the order in which the constructors make them; typed registers -/
def zCl : List Nat := [8, 7, 10, 3, 12, 5, 0, 12, 12, 11, 10, 11, 5, 0, 12, 12, 11, 10, 11, 2, 12, 12, 12, 11, 11, 11, 2, 12, 12, 12, 11, 11, 11, 6, 11, 11, 12, 11, 11, 11, 11, 11, 11, 6, 11, 11, 12, 11, 11, 11, 11, 11, 11, 4, 11, 11, 11, 11, 11, 1, 12, 12, 11, 11, 9, 11, 11, 11, 11, 11, 13, 12, 12, 11, 11, 11, 11, 11, 12, 12, 12, 12, 12, 12, 12, 12, 12, 12, 12, 11, 11, 11, 11, 12, 11, 11, 11, 11, 11, 11, 11, 11, 11, 11, 11, 13, 13, 11]
def zNl : List Nat := [11, 2, 800, 12, 20, 4, 8, 8, 8, 8, 256, 11, 4, 8, 8, 8, 8, 256, 11, 7, 12, 12, 12, 12, 12, 12, 7, 12, 12, 12, 12, 12, 12, 12, 12, 12, 12, 12, 13, 120, 120, 120, 12, 12, 12, 12, 12, 12, 13, 120, 120, 120, 12, 7, 40, 40, 40, 40, 40, 5, 4, 20, 5, 13, 72, 800, 11, 11, 8, 8, 11, 8, 8, 40, 40, 40, 40, 40, 16, 4, 16, 4, 3, 3, 12, 12, 12, 12, 12, 12, 12, 12, 12, 12, 300, 300, 13, 12, 300, 300, 13, 12, 200, 70, 12, 8, 8, 256]
def zTl : List (List Nat) := [[1, 3, 0, 0, 0, 0, 0, 0, 53, 59, 63], [2], [], [1, 4], [], [0, 6, 11], [0, 0, 7, 8, 9, 10], [], [], [], [], [], [0, 13, 18], [0, 0, 14, 15, 16, 17], [], [], [], [], [], [0, 20, 21, 22, 23, 24, 25], [], [], [], [], [], [], [0, 27, 28, 29, 30, 31, 32], [], [], [], [], [], [], [0, 0, 34, 35, 36, 37, 38, 39, 40, 41, 42], [], [], [], [], [], [], [], [], [], [0, 0, 44, 45, 46, 47, 48, 49, 50, 51, 52], [], [], [], [], [], [], [], [], [], [0, 0, 54, 55, 56, 57, 58], [], [], [], [], [], [60, 0, 0, 61, 62], [], [], [], [], [65, 0, 0, 0, 0, 0, 0, 0, 0, 0, 0, 66, 67, 68, 69, 70, 71, 72, 0, 0, 0, 0, 0, 0, 0, 73, 74, 75, 76, 77, 0, 0, 78, 79, 80, 81, 0, 82, 83, 84, 85, 86, 87, 88, 89, 90, 91, 92, 0, 0, 93, 94, 95, 96, 97, 98, 99, 100, 101, 102, 103, 104, 0, 0, 0, 0, 0, 0, 0, 105, 106, 107], [], [], [], [], [], [], [], [], [], [], [], [], [], [], [], [], [], [], [], [], [], [], [], [], [], [], [], [], [], [], [], [], [], [], [], [], [], [], [], [], [], [], []]
def zFl : List (List Nat) := [[0, 0, 2, 2, 2, 2, 0, 0], [2, 1, 0, 2, 2], [0, 2, 2, 2, 2, 2, 2], [2, 2, 0, 0, 0, 0, 0, 1, 0, 1, 0, 0], [0, 0, 2, 2, 2, 2, 2], [0, 2, 2, 0], [0, 0, 2, 2, 2, 2, 2, 2, 2, 2, 2, 0], [2, 0], [2, 2, 3, 3, 3, 3, 3, 3, 2, 2, 2], [2, 0, 0, 0, 0, 0, 0, 0, 0, 1, 0, 2, 2, 2, 2, 2, 2, 2, 0, 0, 0, 0, 0, 1, 1, 2, 2, 2, 2, 2, 0, 0, 2, 2, 2, 2, 1, 2, 2, 2, 2, 2, 2, 2, 2, 2, 2, 2, 0, 0, 2, 2, 2, 2, 2, 2, 2, 2, 2, 2, 2, 2, 0, 0, 0, 0, 0, 0, 0, 2, 2, 2]]
def zC (o : Nat) : Nat := zCl.getD o 99
def zN (o : Nat) : Nat := zNl.getD o 0
def zT (o k : Nat) : Nat := (zTl.getD o []).getD k 0
def zF (c k : Nat) : Nat := (zFl.getD c []).getD k 9
theorem zC_lt {o : Nat} (h : zC o < 99) : o < 108 := by
  rcases Nat.lt_or_ge o 108 with h1 | h1
  · exact h1
  · have h2 : zC o = 99 := by
      unfold zC
      rw [List.getD_eq_getElem?_getD, List.getElem?_eq_none (by simpa [zCl] using h1)]
      rfl
    omega
theorem zC_all (P : Nat → Bool) (h : (List.range 108).all P = true) {c k v : Nat} (hc : ∀ o : Nat, P o = true → zC o = c → zC (zT o k) = v) (h9 : c < 99 := by decide) : ∀ o : Nat, zC o = c → zC (zT o k) = v := by
  intro o ho
  have hl : o < 108 := zC_lt (by omega)
  exact hc o (List.all_eq_true.mp h o (List.mem_range.mpr hl)) ho
abbrev zSt : Type := (Nat → Nat → Int32) × (Nat → Nat → Int64) × (Nat → Nat → Nat)
def zI (σ : zSt) (o k : Nat) : Int32 := σ.1 o k
def zL (σ : zSt) (o k : Nat) : Int64 := σ.2.1 o k
def zR (σ : zSt) (o k : Nat) : Nat := σ.2.2 o k
def zu {α : Type} (f : Nat → Nat → α) (o k : Nat) (v : α) : Nat → Nat → α := fun o' k' => if o' = o ∧ k' = k then v else f o' k'
def zsI (σ : zSt) (o k : Nat) (v : Int32) : zSt := (zu σ.1 o k v, σ.2.1, σ.2.2)
def zsL (σ : zSt) (o k : Nat) (v : Int64) : zSt := (σ.1, zu σ.2.1 o k v, σ.2.2)
def zsR (σ : zSt) (o k v : Nat) : zSt := (σ.1, σ.2.1, zu σ.2.2 o k v)
theorem zI_sI (σ : zSt) (o k : Nat) (v : Int32) (o' k' : Nat) : zI (zsI σ o k v) o' k' = if o' = o ∧ k' = k then v else zI σ o' k' := rfl
theorem zI_sL (σ : zSt) (o k : Nat) (v : Int64) (o' k' : Nat) : zI (zsL σ o k v) o' k' = zI σ o' k' := rfl
theorem zI_sR (σ : zSt) (o k : Nat) (v : Nat) (o' k' : Nat) : zI (zsR σ o k v) o' k' = zI σ o' k' := rfl
theorem zL_sI (σ : zSt) (o k : Nat) (v : Int32) (o' k' : Nat) : zL (zsI σ o k v) o' k' = zL σ o' k' := rfl
theorem zL_sL (σ : zSt) (o k : Nat) (v : Int64) (o' k' : Nat) : zL (zsL σ o k v) o' k' = if o' = o ∧ k' = k then v else zL σ o' k' := rfl
theorem zL_sR (σ : zSt) (o k : Nat) (v : Nat) (o' k' : Nat) : zL (zsR σ o k v) o' k' = zL σ o' k' := rfl
theorem zR_sI (σ : zSt) (o k : Nat) (v : Int32) (o' k' : Nat) : zR (zsI σ o k v) o' k' = zR σ o' k' := rfl
theorem zR_sL (σ : zSt) (o k : Nat) (v : Int64) (o' k' : Nat) : zR (zsL σ o k v) o' k' = zR σ o' k' := rfl
theorem zR_sR (σ : zSt) (o k : Nat) (v : Nat) (o' k' : Nat) : zR (zsR σ o k v) o' k' = if o' = o ∧ k' = k then v else zR σ o' k' := rfl
/-! a world's constants: launch, first address, class numbers and slots, array classes (byte, int, long, boolean), three static arrays -/
abbrev zWC : Type := Launch × Nat × va_G × (ClassId × ClassId × ClassId × ClassId) × (Nat × Nat × Nat)
abbrev zl (w : zWC) : Launch := w.1
abbrev zb (w : zWC) : Nat := w.2.1
abbrev zD (w : zWC) : va_G := w.2.2.1
abbrev zkB (w : zWC) : ClassId := w.2.2.2.1.1
abbrev zkI (w : zWC) : ClassId := w.2.2.2.1.2.1
abbrev zkJ (w : zWC) : ClassId := w.2.2.2.1.2.2.1
abbrev zkZ (w : zWC) : ClassId := w.2.2.2.1.2.2.2
abbrev ztU (w : zWC) : Nat := w.2.2.2.2.1
abbrev ztL (w : zWC) : Nat := w.2.2.2.2.2.1
abbrev ztM (w : zWC) : Nat := w.2.2.2.2.2.2
def ztabU : Nat → Int32 := fun j => [50, 5, 50, 0, 50, 90, 1, 0, 0, 0, 0].getD j 0
def ztabL : Nat → Int32 := fun j => [1, 1, 2, 0, 1, 0, 1, -999, -999, -999, -999].getD j 0
def ztabM : Nat → Int32 := fun j => [99, 20, 99, 99, 99, 100, 99, 999, 999, 999, 999].getD j 0
/-- a field's value -/
def zV (w : zWC) (σ : zSt) (o ci k : Nat) : Value := match zF ci k with
  | 0 => .int (zI σ o k)
  | 1 => .long (zL σ o k)
  | 2 => .ref (zb w + zT o k)
  | _ => .ref (zb w + zR σ o k)
/-- a cell -/
def zE (w : zWC) (σ : zSt) (o : Nat) : va_E := match zC o with
  | 10 => .inl (zkB w, zN o, .inl (zI σ o))
  | 11 => .inl (zkI w, zN o, .inl (zI σ o))
  | 12 => .inl (zkJ w, zN o, .inr (.inl (zL σ o)))
  | 13 => .inl (zkZ w, zN o, .inl (zI σ o))
  | ci => .inr (ci, (List.range (zN o)).map (zV w σ o ci))
def zW (w : zWC) (σ : zSt) : va_W := (List.range 108).map (fun o => (zb w + o, zE w σ o))
def ztys (w : zWC) : List (ClassId × FieldType) := [(zkB w, .byte), (zkI w, .int), (zkJ w, .long), (zkZ w, .boolean)]
def zA (w : zWC) : Nat → Prop := fun q => zb w ≤ q
theorem zW_at (w : zWC) (σ : zSt) {o : Nat} (h : o < 108) : (zW w σ)[o]? = some (zb w + o, zE w σ o) := by
  unfold zW
  rw [List.getElem?_map, List.getElem?_range h]
  rfl
theorem zW_inv (w : zWC) (σ : zSt) {k : Nat} {q : Nat × va_E} (h : (zW w σ)[k]? = some q) : k < 108 ∧ q = (zb w + k, zE w σ k) := by
  unfold zW at h
  rw [List.getElem?_map] at h
  rcases Nat.lt_or_ge k 108 with hk | hk
  · rw [List.getElem?_range hk] at h
    exact ⟨hk, (Option.some.inj h).symm⟩
  · rw [List.getElem?_eq_none (by simpa using hk)] at h
    cases h
theorem zW_D (w : zWC) (σ : zSt) : va_D (zA w) (zW w σ) := by
  refine ⟨fun i j p q hi hj hpq => ?_, fun k q hk => ?_⟩
  · obtain ⟨-, rfl⟩ := zW_inv w σ hi
    obtain ⟨-, rfl⟩ := zW_inv w σ hj
    have : zb w + i = zb w + j := hpq
    omega
  · obtain ⟨-, rfl⟩ := zW_inv w σ hk
    show zb w ≤ zb w + k
    omega
/-- one cell changes -/
theorem zW_set (w : zWC) {σ σ' : zSt} {o : Nat} {e : va_E} (h : o < 108) (he : zE w σ' o = e) (ho : ∀ j, j ≠ o → zE w σ' j = zE w σ j) : (zW w σ).set o (zb w + o, e) = zW w σ' := by
  refine List.ext_getElem? fun k => ?_
  by_cases hk : k = o
  · subst hk
    rw [List.getElem?_set_self (by unfold zW; simpa using h), zW_at w σ' h, he]
  · rw [List.getElem?_set_ne (Ne.symm hk)]
    rcases Nat.lt_or_ge k 108 with h1 | h1
    · rw [zW_at w σ h1, zW_at w σ' h1, ho k hk]
    · rw [List.getElem?_eq_none (by unfold zW; simpa using h1), List.getElem?_eq_none (by unfold zW; simpa using h1)]
/-! cells by their class -/
theorem zE_B {w : zWC} {σ : zSt} {o : Nat} (h : zC o = 10) : zE w σ o = .inl (zkB w, zN o, .inl (zI σ o)) := by simp only [zE, h]
theorem zE_I {w : zWC} {σ : zSt} {o : Nat} (h : zC o = 11) : zE w σ o = .inl (zkI w, zN o, .inl (zI σ o)) := by simp only [zE, h]
theorem zE_J {w : zWC} {σ : zSt} {o : Nat} (h : zC o = 12) : zE w σ o = .inl (zkJ w, zN o, .inr (.inl (zL σ o))) := by simp only [zE, h]
theorem zE_Z {w : zWC} {σ : zSt} {o : Nat} (h : zC o = 13) : zE w σ o = .inl (zkZ w, zN o, .inl (zI σ o)) := by simp only [zE, h]
theorem zE_O {w : zWC} {σ : zSt} {o ci : Nat} (h : zC o = ci) (hc : ci < 10) : zE w σ o = .inr (ci, (List.range (zN o)).map (zV w σ o ci)) := by
  unfold zE
  rw [h]
  match ci, hc with
  | 0, _ => rfl
  | 1, _ => rfl
  | 2, _ => rfl
  | 3, _ => rfl
  | 4, _ => rfl
  | 5, _ => rfl
  | 6, _ => rfl
  | 7, _ => rfl
  | 8, _ => rfl
  | 9, _ => rfl
theorem zE_ne_I {w : zWC} {σ : zSt} {o k : Nat} {v : Int32} {j : Nat} (hj : j ≠ o) : zE w (zsI σ o k v) j = zE w σ j := by
  have h1 : zI (zsI σ o k v) j = zI σ j := by funext q; rw [zI_sI, if_neg (fun h => hj h.1)]
  have h2 : ∀ ci, zV w (zsI σ o k v) j ci = zV w σ j ci := by
    intro ci; funext q
    unfold zV
    rw [h1]
    rfl
  unfold zE
  rw [h1]
  split <;> first | rfl | rw [h2]
theorem zE_ne_L {w : zWC} {σ : zSt} {o k : Nat} {v : Int64} {j : Nat} (hj : j ≠ o) : zE w (zsL σ o k v) j = zE w σ j := by
  have h1 : zL (zsL σ o k v) j = zL σ j := by funext q; rw [zL_sL, if_neg (fun h => hj h.1)]
  have h2 : ∀ ci, zV w (zsL σ o k v) j ci = zV w σ j ci := by
    intro ci; funext q
    unfold zV
    rw [h1]
    rfl
  unfold zE
  rw [h1]
  split <;> first | rfl | rw [h2]
theorem zE_ne_R {w : zWC} {σ : zSt} {o k : Nat} {v : Nat} {j : Nat} (hj : j ≠ o) : zE w (zsR σ o k v) j = zE w σ j := by
  have h1 : zR (zsR σ o k v) j = zR σ j := by funext q; rw [zR_sR, if_neg (fun h => hj h.1)]
  have h2 : ∀ ci, zV w (zsR σ o k v) j ci = zV w σ j ci := by
    intro ci; funext q
    unfold zV
    rw [h1]
    rfl
  unfold zE
  split <;> first | rfl | rw [h2]
/-- a field that is written -/
theorem zset_f {f g : Nat → Value} {n k : Nat} {v : Value} (hk : g k = v) (hn : ∀ j, j ≠ k → g j = f j) : ((List.range n).map f).set k v = (List.range n).map g := by
  refine List.ext_getElem? fun j => ?_
  by_cases hj : j = k
  · subst hj
    rcases Nat.lt_or_ge j n with h | h
    · rw [List.getElem?_set_self (by simpa using h), List.getElem?_map, List.getElem?_range h]
      simp [hk]
    · rw [List.getElem?_eq_none (by simpa using h), List.getElem?_eq_none (by simpa using h)]
  · rw [List.getElem?_set_ne (Ne.symm hj), List.getElem?_map, List.getElem?_map]
    rcases Nat.lt_or_ge j n with h | h
    · rw [List.getElem?_range h]
      simp [hn j hj]
    · rw [List.getElem?_eq_none (by simpa using h)]
      rfl
theorem zV_I {w : zWC} {σ : zSt} {o ci k : Nat} (h : zF ci k = 0) : zV w σ o ci k = .int (zI σ o k) := by simp only [zV, h]
theorem zV_L {w : zWC} {σ : zSt} {o ci k : Nat} (h : zF ci k = 1) : zV w σ o ci k = .long (zL σ o k) := by simp only [zV, h]
theorem zV_T {w : zWC} {σ : zSt} {o ci k : Nat} (h : zF ci k = 2) : zV w σ o ci k = .ref (zb w + zT o k) := by simp only [zV, h]
theorem zV_R {w : zWC} {σ : zSt} {o ci k : Nat} (h : zF ci k = 3) : zV w σ o ci k = .ref (zb w + zR σ o k) := by simp only [zV, h]
theorem zV_sI {w : zWC} {σ : zSt} {o ci k : Nat} {v : Int32} {j : Nat} (h : j ≠ k) : zV w (zsI σ o k v) o ci j = zV w σ o ci j := by
  unfold zV
  rw [zI_sI, if_neg (fun q => h q.2)]
  rfl
theorem zV_sL {w : zWC} {σ : zSt} {o ci k : Nat} {v : Int64} {j : Nat} (h : j ≠ k) : zV w (zsL σ o k v) o ci j = zV w σ o ci j := by
  unfold zV
  rw [zL_sL, if_neg (fun q => h q.2)]
  rfl
theorem zV_sR {w : zWC} {σ : zSt} {o ci k : Nat} {v : Nat} {j : Nat} (h : j ≠ k) : zV w (zsR σ o k v) o ci j = zV w σ o ci j := by
  unfold zV
  rw [zR_sR, if_neg (fun q => h q.2)]
  rfl
/-! the locals, by their slots -/
def zlv (ls : Array Slot) (nL : Nat) (lv : List (Option Value)) : Prop := ls.size = nL ∧ lv_wf ls ∧ ∀ (i : Nat) (v : Value), lv[i]? = some (some v) → ls[i]? = some (.val v)
def zprs (lv : List (Option Value)) : List (Nat × Value) := (List.range lv.length).filterMap (fun j => match lv[j]? with
  | some (some u) => some (j, u)
  | _ => none)
theorem zprs_mem {lv : List (Option Value)} {j : Nat} {u : Value} : (j, u) ∈ zprs lv ↔ lv[j]? = some (some u) := by
  unfold zprs
  rw [List.mem_filterMap]
  constructor
  · rintro ⟨i, -, hi⟩
    split at hi
    next v hv =>
      cases hi
      exact hv
    next => cases hi
  · intro h
    refine ⟨j, List.mem_range.mpr (List.getElem?_eq_some_iff.mp h).1, ?_⟩
    rw [h]
theorem zlv_has {ls : Array Slot} {nL : Nat} {lv : List (Option Value)} (h : zlv ls nL lv) : lv_has ls nL (zprs lv) := ⟨h.1, h.2.1, fun q hq => h.2.2 q.1 q.2 (zprs_mem.mp hq)⟩
/-- the slot ahead of i holds no long that is known -/
def zpv (lv : List (Option Value)) : Nat → Bool
  | 0 => true
  | i + 1 => match lv[i]? with
    | some (some u) => u.category != 2
    | _ => true
theorem zlv_store1 {ls : Array Slot} {nL : Nat} {lv : List (Option Value)} {i : Nat} {v : Value} (h : zlv ls nL lv) (hi : i < nL) (hc : v.category = 1) (hp : zpv lv i = true) :
    ∃ l, lv_has ls nL l ∧ ∀ ls', lv_has ls' nL ((i, v) :: l.filter (fun q => !(q.1 == i) && !(q.1 + 1 == i && q.2.category == 2))) → zlv ls' nL (lv.set i (some v)) := by
  refine ⟨zprs lv, zlv_has h, fun ls' h' => ⟨h'.1, h'.2.1, fun j u hj => ?_⟩⟩
  by_cases hji : j = i
  · subst hji
    rw [List.getElem?_set_self' ] at hj
    cases hq : lv[j]? with
    | none => rw [hq] at hj; cases hj
    | some z =>
      rw [hq] at hj
      have : u = v := by simpa using hj.symm
      subst this
      exact h'.2.2 (j, u) List.mem_cons_self
  · rw [List.getElem?_set_ne (Ne.symm hji)] at hj
    refine h'.2.2 (j, u) (List.mem_cons_of_mem _ (List.mem_filter.mpr ⟨zprs_mem.mpr hj, ?_⟩))
    have h2 : ¬ (j + 1 = i ∧ u.category = 2) := by
      rintro ⟨rfl, hu⟩
      simp only [zpv, hj] at hp
      simp [hu] at hp
    simp only [Bool.and_eq_true, Bool.not_eq_true', beq_eq_false_iff_ne, ne_eq]
    refine ⟨hji, ?_⟩
    by_cases q1 : j + 1 = i
    · by_cases q2 : u.category = 2
      · exact absurd ⟨q1, q2⟩ h2
      · simp [q2]
    · simp [q1]
theorem zlv_store2 {ls : Array Slot} {nL : Nat} {lv : List (Option Value)} {i : Nat} {v : Value} (h : zlv ls nL lv) (hi : i + 1 < nL) (hc : v.category = 2) (hp : zpv lv i = true) :
    ∃ l, lv_has ls nL l ∧ ∀ ls', lv_has ls' nL ((i, v) :: l.filter (fun q => !(q.1 == i) && (!(q.1 == i + 1) && !(q.1 + 1 == i && q.2.category == 2)))) → zlv ls' nL ((lv.set i (some v)).set (i + 1) none) := by
  refine ⟨zprs lv, zlv_has h, fun ls' h' => ⟨h'.1, h'.2.1, fun j u hj => ?_⟩⟩
  by_cases hj1 : j = i + 1
  · subst hj1
    rw [List.getElem?_set_self'] at hj
    cases hq : (lv.set i (some v))[i + 1]? with
    | none => rw [hq] at hj; cases hj
    | some z => rw [hq] at hj; simp at hj
  rw [List.getElem?_set_ne (Ne.symm hj1)] at hj
  by_cases hji : j = i
  · subst hji
    rw [List.getElem?_set_self' ] at hj
    cases hq : lv[j]? with
    | none => rw [hq] at hj; cases hj
    | some z =>
      rw [hq] at hj
      have : u = v := by simpa using hj.symm
      subst this
      exact h'.2.2 (j, u) List.mem_cons_self
  · rw [List.getElem?_set_ne (Ne.symm hji)] at hj
    refine h'.2.2 (j, u) (List.mem_cons_of_mem _ (List.mem_filter.mpr ⟨zprs_mem.mpr hj, ?_⟩))
    have h2 : ¬ (j + 1 = i ∧ u.category = 2) := by
      rintro ⟨rfl, hu⟩
      simp only [zpv, hj] at hp
      simp [hu] at hp
    simp only [Bool.and_eq_true, Bool.not_eq_true', beq_eq_false_iff_ne, ne_eq]
    refine ⟨hji, hj1, ?_⟩
    by_cases q1 : j + 1 = i
    · by_cases q2 : u.category = 2
      · exact absurd ⟨q1, q2⟩ h2
      · simp [q2]
    · simp [q1]
/-- fewer known slots -/
def zmask : List (Option Value) → List Bool → List (Option Value)
  | v :: l, true :: m => v :: zmask l m
  | _ :: l, false :: m => none :: zmask l m
  | _, _ => []
theorem zmask_sub : ∀ (l : List (Option Value)) (m : List Bool) (i : Nat) (v : Value), (zmask l m)[i]? = some (some v) → l[i]? = some (some v)
  | v :: l, true :: m, 0, u, h => by simpa [zmask] using h
  | v :: l, true :: m, i + 1, u, h => by
    have := zmask_sub l m i u (by simpa [zmask] using h)
    simpa using this
  | v :: l, false :: m, 0, u, h => by simp [zmask] at h
  | v :: l, false :: m, i + 1, u, h => by
    have := zmask_sub l m i u (by simpa [zmask] using h)
    simpa using this
  | [], [], i, u, h => by simp [zmask] at h
  | [], _ :: _, i, u, h => by simp [zmask] at h
  | _ :: _, [], i, u, h => by simp [zmask] at h
/-- a method's first locals -/
def zen1 : List Value → List (Option Value)
  | [] => []
  | v :: vs => if v.category = 2 then some v :: none :: zen1 vs else some v :: zen1 vs
def zent (vs : List Value) (n : Nat) : List (Option Value) := zen1 vs ++ List.replicate (n - (zen1 vs).length) none
theorem zen1_args : ∀ (vs : List Value) (b i : Nat) (u : Value), (zen1 vs)[i]? = some (some u) → (b + i, u) ∈ lv_args b vs
  | [], b, i, u, h => by simp [zen1] at h
  | v :: vs, b, i, u, h => by
    unfold lv_args
    by_cases hc : v.category = 2
    · simp only [zen1, hc, if_true] at h ⊢
      match i, h with
      | 0, h =>
        have : u = v := by simpa using h.symm
        subst this
        exact List.mem_cons_self
      | 1, h => simp at h
      | i + 2, h =>
        have := zen1_args vs (b + 2) i u (by simpa using h)
        rw [show b + (i + 2) = b + 2 + i by omega]
        exact List.mem_cons_of_mem _ this
    · simp only [zen1, hc, if_false] at h ⊢
      match i, h with
      | 0, h =>
        have : u = v := by simpa using h.symm
        subst this
        exact List.mem_cons_self
      | i + 1, h =>
        have := zen1_args vs (b + 1) i u (by simpa using h)
        rw [show b + (i + 1) = b + 1 + i by omega]
        exact List.mem_cons_of_mem _ this
theorem zent_has {ls : Array Slot} {n : Nat} {vs : List Value} (h : lv_has ls n (lv_args 0 vs)) : zlv ls n (zent vs n) := by
  refine ⟨h.1, h.2.1, fun i u hi => ?_⟩
  unfold zent at hi
  rcases Nat.lt_or_ge i (zen1 vs).length with hl | hl
  · rw [List.getElem?_append_left hl] at hi
    have := zen1_args vs 0 i u hi
    rw [Nat.zero_add] at this
    exact h.2.2 _ this
  · rw [List.getElem?_append_right hl] at hi
    rw [List.getElem?_replicate] at hi
    split at hi
    next => simp at hi
    next => cases hi

theorem zt_0_2 : ∀ o : Nat, zC o = 0 → zC (zT o 2) = 12 := zC_all (fun o => zC o != 0 || zC (zT o 2) == 12) (by decide +kernel) (fun o h h2 => by simpa [h2] using h)
theorem zt_0_3 : ∀ o : Nat, zC o = 0 → zC (zT o 3) = 12 := zC_all (fun o => zC o != 0 || zC (zT o 3) == 12) (by decide +kernel) (fun o h h2 => by simpa [h2] using h)
theorem zt_0_4 : ∀ o : Nat, zC o = 0 → zC (zT o 4) = 11 := zC_all (fun o => zC o != 0 || zC (zT o 4) == 11) (by decide +kernel) (fun o h h2 => by simpa [h2] using h)
theorem zt_0_5 : ∀ o : Nat, zC o = 0 → zC (zT o 5) = 10 := zC_all (fun o => zC o != 0 || zC (zT o 5) == 10) (by decide +kernel) (fun o h h2 => by simpa [h2] using h)
theorem zt_1_0 : ∀ o : Nat, zC o = 1 → zC (zT o 0) = 12 := zC_all (fun o => zC o != 1 || zC (zT o 0) == 12) (by decide +kernel) (fun o h h2 => by simpa [h2] using h)
theorem zt_1_3 : ∀ o : Nat, zC o = 1 → zC (zT o 3) = 12 := zC_all (fun o => zC o != 1 || zC (zT o 3) == 12) (by decide +kernel) (fun o h h2 => by simpa [h2] using h)
theorem zt_1_4 : ∀ o : Nat, zC o = 1 → zC (zT o 4) = 11 := zC_all (fun o => zC o != 1 || zC (zT o 4) == 11) (by decide +kernel) (fun o h h2 => by simpa [h2] using h)
theorem zt_2_1 : ∀ o : Nat, zC o = 2 → zC (zT o 1) = 12 := zC_all (fun o => zC o != 2 || zC (zT o 1) == 12) (by decide +kernel) (fun o h h2 => by simpa [h2] using h)
theorem zt_2_2 : ∀ o : Nat, zC o = 2 → zC (zT o 2) = 12 := zC_all (fun o => zC o != 2 || zC (zT o 2) == 12) (by decide +kernel) (fun o h h2 => by simpa [h2] using h)
theorem zt_2_3 : ∀ o : Nat, zC o = 2 → zC (zT o 3) = 12 := zC_all (fun o => zC o != 2 || zC (zT o 3) == 12) (by decide +kernel) (fun o h h2 => by simpa [h2] using h)
theorem zt_2_4 : ∀ o : Nat, zC o = 2 → zC (zT o 4) = 11 := zC_all (fun o => zC o != 2 || zC (zT o 4) == 11) (by decide +kernel) (fun o h h2 => by simpa [h2] using h)
theorem zt_2_5 : ∀ o : Nat, zC o = 2 → zC (zT o 5) = 11 := zC_all (fun o => zC o != 2 || zC (zT o 5) == 11) (by decide +kernel) (fun o h h2 => by simpa [h2] using h)
theorem zt_2_6 : ∀ o : Nat, zC o = 2 → zC (zT o 6) = 11 := zC_all (fun o => zC o != 2 || zC (zT o 6) == 11) (by decide +kernel) (fun o h h2 => by simpa [h2] using h)
theorem zt_3_0 : ∀ o : Nat, zC o = 3 → zC (zT o 0) = 7 := zC_all (fun o => zC o != 3 || zC (zT o 0) == 7) (by decide +kernel) (fun o h h2 => by simpa [h2] using h)
theorem zt_3_1 : ∀ o : Nat, zC o = 3 → zC (zT o 1) = 12 := zC_all (fun o => zC o != 3 || zC (zT o 1) == 12) (by decide +kernel) (fun o h h2 => by simpa [h2] using h)
theorem zt_4_2 : ∀ o : Nat, zC o = 4 → zC (zT o 2) = 11 := zC_all (fun o => zC o != 4 || zC (zT o 2) == 11) (by decide +kernel) (fun o h h2 => by simpa [h2] using h)
theorem zt_4_3 : ∀ o : Nat, zC o = 4 → zC (zT o 3) = 11 := zC_all (fun o => zC o != 4 || zC (zT o 3) == 11) (by decide +kernel) (fun o h h2 => by simpa [h2] using h)
theorem zt_4_4 : ∀ o : Nat, zC o = 4 → zC (zT o 4) = 11 := zC_all (fun o => zC o != 4 || zC (zT o 4) == 11) (by decide +kernel) (fun o h h2 => by simpa [h2] using h)
theorem zt_4_5 : ∀ o : Nat, zC o = 4 → zC (zT o 5) = 11 := zC_all (fun o => zC o != 4 || zC (zT o 5) == 11) (by decide +kernel) (fun o h h2 => by simpa [h2] using h)
theorem zt_4_6 : ∀ o : Nat, zC o = 4 → zC (zT o 6) = 11 := zC_all (fun o => zC o != 4 || zC (zT o 6) == 11) (by decide +kernel) (fun o h h2 => by simpa [h2] using h)
theorem zt_5_1 : ∀ o : Nat, zC o = 5 → zC (zT o 1) = 0 := zC_all (fun o => zC o != 5 || zC (zT o 1) == 0) (by decide +kernel) (fun o h h2 => by simpa [h2] using h)
theorem zt_5_2 : ∀ o : Nat, zC o = 5 → zC (zT o 2) = 11 := zC_all (fun o => zC o != 5 || zC (zT o 2) == 11) (by decide +kernel) (fun o h h2 => by simpa [h2] using h)
theorem zt_6_2 : ∀ o : Nat, zC o = 6 → zC (zT o 2) = 11 := zC_all (fun o => zC o != 6 || zC (zT o 2) == 11) (by decide +kernel) (fun o h h2 => by simpa [h2] using h)
theorem zt_6_3 : ∀ o : Nat, zC o = 6 → zC (zT o 3) = 11 := zC_all (fun o => zC o != 6 || zC (zT o 3) == 11) (by decide +kernel) (fun o h h2 => by simpa [h2] using h)
theorem zt_6_4 : ∀ o : Nat, zC o = 6 → zC (zT o 4) = 12 := zC_all (fun o => zC o != 6 || zC (zT o 4) == 12) (by decide +kernel) (fun o h h2 => by simpa [h2] using h)
theorem zt_6_5 : ∀ o : Nat, zC o = 6 → zC (zT o 5) = 11 := zC_all (fun o => zC o != 6 || zC (zT o 5) == 11) (by decide +kernel) (fun o h h2 => by simpa [h2] using h)
theorem zt_6_6 : ∀ o : Nat, zC o = 6 → zC (zT o 6) = 11 := zC_all (fun o => zC o != 6 || zC (zT o 6) == 11) (by decide +kernel) (fun o h h2 => by simpa [h2] using h)
theorem zt_6_7 : ∀ o : Nat, zC o = 6 → zC (zT o 7) = 11 := zC_all (fun o => zC o != 6 || zC (zT o 7) == 11) (by decide +kernel) (fun o h h2 => by simpa [h2] using h)
theorem zt_6_8 : ∀ o : Nat, zC o = 6 → zC (zT o 8) = 11 := zC_all (fun o => zC o != 6 || zC (zT o 8) == 11) (by decide +kernel) (fun o h h2 => by simpa [h2] using h)
theorem zt_6_9 : ∀ o : Nat, zC o = 6 → zC (zT o 9) = 11 := zC_all (fun o => zC o != 6 || zC (zT o 9) == 11) (by decide +kernel) (fun o h h2 => by simpa [h2] using h)
theorem zt_6_10 : ∀ o : Nat, zC o = 6 → zC (zT o 10) = 11 := zC_all (fun o => zC o != 6 || zC (zT o 10) == 11) (by decide +kernel) (fun o h h2 => by simpa [h2] using h)
theorem zt_7_0 : ∀ o : Nat, zC o = 7 → zC (zT o 0) = 10 := zC_all (fun o => zC o != 7 || zC (zT o 0) == 10) (by decide +kernel) (fun o h h2 => by simpa [h2] using h)
theorem zt_8_0 : ∀ o : Nat, zC o = 8 → zC (zT o 0) = 7 := zC_all (fun o => zC o != 8 || zC (zT o 0) == 7) (by decide +kernel) (fun o h h2 => by simpa [h2] using h)
theorem zt_8_1 : ∀ o : Nat, zC o = 8 → zC (zT o 1) = 3 := zC_all (fun o => zC o != 8 || zC (zT o 1) == 3) (by decide +kernel) (fun o h h2 => by simpa [h2] using h)
theorem zt_8_8 : ∀ o : Nat, zC o = 8 → zC (zT o 8) = 4 := zC_all (fun o => zC o != 8 || zC (zT o 8) == 4) (by decide +kernel) (fun o h h2 => by simpa [h2] using h)
theorem zt_8_9 : ∀ o : Nat, zC o = 8 → zC (zT o 9) = 1 := zC_all (fun o => zC o != 8 || zC (zT o 9) == 1) (by decide +kernel) (fun o h h2 => by simpa [h2] using h)
theorem zt_8_10 : ∀ o : Nat, zC o = 8 → zC (zT o 10) = 11 := zC_all (fun o => zC o != 8 || zC (zT o 10) == 11) (by decide +kernel) (fun o h h2 => by simpa [h2] using h)
theorem zt_9_0 : ∀ o : Nat, zC o = 9 → zC (zT o 0) = 11 := zC_all (fun o => zC o != 9 || zC (zT o 0) == 11) (by decide +kernel) (fun o h h2 => by simpa [h2] using h)
theorem zt_9_11 : ∀ o : Nat, zC o = 9 → zC (zT o 11) = 11 := zC_all (fun o => zC o != 9 || zC (zT o 11) == 11) (by decide +kernel) (fun o h h2 => by simpa [h2] using h)
theorem zt_9_12 : ∀ o : Nat, zC o = 9 → zC (zT o 12) = 11 := zC_all (fun o => zC o != 9 || zC (zT o 12) == 11) (by decide +kernel) (fun o h h2 => by simpa [h2] using h)
theorem zt_9_13 : ∀ o : Nat, zC o = 9 → zC (zT o 13) = 11 := zC_all (fun o => zC o != 9 || zC (zT o 13) == 11) (by decide +kernel) (fun o h h2 => by simpa [h2] using h)
theorem zt_9_14 : ∀ o : Nat, zC o = 9 → zC (zT o 14) = 11 := zC_all (fun o => zC o != 9 || zC (zT o 14) == 11) (by decide +kernel) (fun o h h2 => by simpa [h2] using h)
theorem zt_9_15 : ∀ o : Nat, zC o = 9 → zC (zT o 15) = 13 := zC_all (fun o => zC o != 9 || zC (zT o 15) == 13) (by decide +kernel) (fun o h h2 => by simpa [h2] using h)
theorem zt_9_16 : ∀ o : Nat, zC o = 9 → zC (zT o 16) = 12 := zC_all (fun o => zC o != 9 || zC (zT o 16) == 12) (by decide +kernel) (fun o h h2 => by simpa [h2] using h)
theorem zt_9_17 : ∀ o : Nat, zC o = 9 → zC (zT o 17) = 12 := zC_all (fun o => zC o != 9 || zC (zT o 17) == 12) (by decide +kernel) (fun o h h2 => by simpa [h2] using h)
theorem zt_9_25 : ∀ o : Nat, zC o = 9 → zC (zT o 25) = 11 := zC_all (fun o => zC o != 9 || zC (zT o 25) == 11) (by decide +kernel) (fun o h h2 => by simpa [h2] using h)
theorem zt_9_26 : ∀ o : Nat, zC o = 9 → zC (zT o 26) = 11 := zC_all (fun o => zC o != 9 || zC (zT o 26) == 11) (by decide +kernel) (fun o h h2 => by simpa [h2] using h)
theorem zt_9_27 : ∀ o : Nat, zC o = 9 → zC (zT o 27) = 11 := zC_all (fun o => zC o != 9 || zC (zT o 27) == 11) (by decide +kernel) (fun o h h2 => by simpa [h2] using h)
theorem zt_9_28 : ∀ o : Nat, zC o = 9 → zC (zT o 28) = 11 := zC_all (fun o => zC o != 9 || zC (zT o 28) == 11) (by decide +kernel) (fun o h h2 => by simpa [h2] using h)
theorem zt_9_29 : ∀ o : Nat, zC o = 9 → zC (zT o 29) = 11 := zC_all (fun o => zC o != 9 || zC (zT o 29) == 11) (by decide +kernel) (fun o h h2 => by simpa [h2] using h)
theorem zt_9_32 : ∀ o : Nat, zC o = 9 → zC (zT o 32) = 12 := zC_all (fun o => zC o != 9 || zC (zT o 32) == 12) (by decide +kernel) (fun o h h2 => by simpa [h2] using h)
theorem zt_9_33 : ∀ o : Nat, zC o = 9 → zC (zT o 33) = 12 := zC_all (fun o => zC o != 9 || zC (zT o 33) == 12) (by decide +kernel) (fun o h h2 => by simpa [h2] using h)
theorem zt_9_34 : ∀ o : Nat, zC o = 9 → zC (zT o 34) = 12 := zC_all (fun o => zC o != 9 || zC (zT o 34) == 12) (by decide +kernel) (fun o h h2 => by simpa [h2] using h)
theorem zt_9_35 : ∀ o : Nat, zC o = 9 → zC (zT o 35) = 12 := zC_all (fun o => zC o != 9 || zC (zT o 35) == 12) (by decide +kernel) (fun o h h2 => by simpa [h2] using h)
theorem zt_9_37 : ∀ o : Nat, zC o = 9 → zC (zT o 37) = 12 := zC_all (fun o => zC o != 9 || zC (zT o 37) == 12) (by decide +kernel) (fun o h h2 => by simpa [h2] using h)
theorem zt_9_38 : ∀ o : Nat, zC o = 9 → zC (zT o 38) = 12 := zC_all (fun o => zC o != 9 || zC (zT o 38) == 12) (by decide +kernel) (fun o h h2 => by simpa [h2] using h)
theorem zt_9_39 : ∀ o : Nat, zC o = 9 → zC (zT o 39) = 12 := zC_all (fun o => zC o != 9 || zC (zT o 39) == 12) (by decide +kernel) (fun o h h2 => by simpa [h2] using h)
theorem zt_9_40 : ∀ o : Nat, zC o = 9 → zC (zT o 40) = 12 := zC_all (fun o => zC o != 9 || zC (zT o 40) == 12) (by decide +kernel) (fun o h h2 => by simpa [h2] using h)
theorem zt_9_41 : ∀ o : Nat, zC o = 9 → zC (zT o 41) = 12 := zC_all (fun o => zC o != 9 || zC (zT o 41) == 12) (by decide +kernel) (fun o h h2 => by simpa [h2] using h)
theorem zt_9_42 : ∀ o : Nat, zC o = 9 → zC (zT o 42) = 12 := zC_all (fun o => zC o != 9 || zC (zT o 42) == 12) (by decide +kernel) (fun o h h2 => by simpa [h2] using h)
theorem zt_9_43 : ∀ o : Nat, zC o = 9 → zC (zT o 43) = 12 := zC_all (fun o => zC o != 9 || zC (zT o 43) == 12) (by decide +kernel) (fun o h h2 => by simpa [h2] using h)
theorem zt_9_44 : ∀ o : Nat, zC o = 9 → zC (zT o 44) = 11 := zC_all (fun o => zC o != 9 || zC (zT o 44) == 11) (by decide +kernel) (fun o h h2 => by simpa [h2] using h)
theorem zt_9_45 : ∀ o : Nat, zC o = 9 → zC (zT o 45) = 11 := zC_all (fun o => zC o != 9 || zC (zT o 45) == 11) (by decide +kernel) (fun o h h2 => by simpa [h2] using h)
theorem zt_9_46 : ∀ o : Nat, zC o = 9 → zC (zT o 46) = 11 := zC_all (fun o => zC o != 9 || zC (zT o 46) == 11) (by decide +kernel) (fun o h h2 => by simpa [h2] using h)
theorem zt_9_47 : ∀ o : Nat, zC o = 9 → zC (zT o 47) = 11 := zC_all (fun o => zC o != 9 || zC (zT o 47) == 11) (by decide +kernel) (fun o h h2 => by simpa [h2] using h)
theorem zt_9_50 : ∀ o : Nat, zC o = 9 → zC (zT o 50) = 12 := zC_all (fun o => zC o != 9 || zC (zT o 50) == 12) (by decide +kernel) (fun o h h2 => by simpa [h2] using h)
theorem zt_9_51 : ∀ o : Nat, zC o = 9 → zC (zT o 51) = 11 := zC_all (fun o => zC o != 9 || zC (zT o 51) == 11) (by decide +kernel) (fun o h h2 => by simpa [h2] using h)
theorem zt_9_52 : ∀ o : Nat, zC o = 9 → zC (zT o 52) = 11 := zC_all (fun o => zC o != 9 || zC (zT o 52) == 11) (by decide +kernel) (fun o h h2 => by simpa [h2] using h)
theorem zt_9_53 : ∀ o : Nat, zC o = 9 → zC (zT o 53) = 11 := zC_all (fun o => zC o != 9 || zC (zT o 53) == 11) (by decide +kernel) (fun o h h2 => by simpa [h2] using h)
theorem zt_9_54 : ∀ o : Nat, zC o = 9 → zC (zT o 54) = 11 := zC_all (fun o => zC o != 9 || zC (zT o 54) == 11) (by decide +kernel) (fun o h h2 => by simpa [h2] using h)
theorem zt_9_55 : ∀ o : Nat, zC o = 9 → zC (zT o 55) = 11 := zC_all (fun o => zC o != 9 || zC (zT o 55) == 11) (by decide +kernel) (fun o h h2 => by simpa [h2] using h)
theorem zt_9_56 : ∀ o : Nat, zC o = 9 → zC (zT o 56) = 11 := zC_all (fun o => zC o != 9 || zC (zT o 56) == 11) (by decide +kernel) (fun o h h2 => by simpa [h2] using h)
theorem zt_9_57 : ∀ o : Nat, zC o = 9 → zC (zT o 57) = 11 := zC_all (fun o => zC o != 9 || zC (zT o 57) == 11) (by decide +kernel) (fun o h h2 => by simpa [h2] using h)
theorem zt_9_58 : ∀ o : Nat, zC o = 9 → zC (zT o 58) = 11 := zC_all (fun o => zC o != 9 || zC (zT o 58) == 11) (by decide +kernel) (fun o h h2 => by simpa [h2] using h)
theorem zt_9_59 : ∀ o : Nat, zC o = 9 → zC (zT o 59) = 11 := zC_all (fun o => zC o != 9 || zC (zT o 59) == 11) (by decide +kernel) (fun o h h2 => by simpa [h2] using h)
theorem zt_9_60 : ∀ o : Nat, zC o = 9 → zC (zT o 60) = 11 := zC_all (fun o => zC o != 9 || zC (zT o 60) == 11) (by decide +kernel) (fun o h h2 => by simpa [h2] using h)
theorem zt_9_61 : ∀ o : Nat, zC o = 9 → zC (zT o 61) = 11 := zC_all (fun o => zC o != 9 || zC (zT o 61) == 11) (by decide +kernel) (fun o h h2 => by simpa [h2] using h)
theorem zt_9_69 : ∀ o : Nat, zC o = 9 → zC (zT o 69) = 13 := zC_all (fun o => zC o != 9 || zC (zT o 69) == 13) (by decide +kernel) (fun o h h2 => by simpa [h2] using h)
theorem zt_9_70 : ∀ o : Nat, zC o = 9 → zC (zT o 70) = 13 := zC_all (fun o => zC o != 9 || zC (zT o 70) == 13) (by decide +kernel) (fun o h h2 => by simpa [h2] using h)
theorem zt_9_71 : ∀ o : Nat, zC o = 9 → zC (zT o 71) = 11 := zC_all (fun o => zC o != 9 || zC (zT o 71) == 11) (by decide +kernel) (fun o h h2 => by simpa [h2] using h)
