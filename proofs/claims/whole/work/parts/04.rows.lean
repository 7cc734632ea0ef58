def zNM : List (String × Nat × MethodName × String) := [("LeadBalls", 27, ⟨"LeadBalls$Shed", "<init>", "()V"⟩, "LeadBalls"), ("LeadBalls", 37, ⟨"LeadBalls$Houses", "<init>", "()V"⟩, "LeadBalls"), ("LeadBalls", 47, ⟨"LeadBalls$Sum", "<init>", "()V"⟩, "LeadBalls"), ("LeadBalls", 57, ⟨"LeadBalls$Readings", "<init>", "()V"⟩, "LeadBalls"), ("LeadBalls", 64, ⟨"LeadBalls$Fit", "<init>", "()V"⟩, "LeadBalls"), ("LeadBalls", 9, ⟨"LeadBalls$Tape", "<init>", "()V"⟩, "LeadBalls"), ("LeadBalls$Causes", 62, ⟨"LeadBalls", "indexOf", "([JIJ)I"⟩, "LeadBalls"), ("LeadBalls$Causes", 66, ⟨"LeadBalls", "within", "(III)Z"⟩, "LeadBalls"), ("LeadBalls$Houses", 88, ⟨"LeadBalls", "within", "(III)Z"⟩, "LeadBalls"), ("LeadBalls$Reader", 91, ⟨"LeadBalls", "indexOf", "([JIJ)I"⟩, "LeadBalls"), ("LeadBalls$Reader", 95, ⟨"LeadBalls", "within", "(III)Z"⟩, "LeadBalls"), ("LeadBalls$Readings", 34, ⟨"LeadBalls", "within", "(III)Z"⟩, "LeadBalls"), ("LeadBalls$Shed", 17, ⟨"LeadBalls$Causes", "<init>", "()V"⟩, "LeadBalls"), ("LeadBalls$Sum", 105, ⟨"LeadBalls", "indexOf", "([JIJ)I"⟩, "LeadBalls")]
def zNF : List (String × Nat × String × String × String × String) := [("LeadBalls$Shed", 22, "LeadBalls", "UNTOLD_SETTING", "[I", "LeadBalls"), ("LeadBalls$Shed", 78, "LeadBalls", "LEAST_SETTING", "[I", "LeadBalls"), ("LeadBalls$Shed", 81, "LeadBalls", "MOST_SETTING", "[I", "LeadBalls")]
def ztb : List Cond := lw_tbl.filter goodWord
theorem zmem {c : Cond} (i : Nat) (h : lw_tbl[i]? = some c) (hg : goodWord c = true) : c ∈ ztb := List.mem_filter.mpr ⟨List.mem_of_getElem? h, hg⟩
theorem ztb_good {w : Cond} (h : w ∈ ztb) : (w.onTables && w.keeps) = true ∨ ∃ ty, w = .arrayClass ty := good_of_word (List.mem_filter.mp h).2
abbrev zCX : Type := Program × Env × Room × State × MethodId × Array Value × List Frame × Method × Code × Nat × Nat
abbrev xp (x : zCX) : Program := x.1
abbrev xe (x : zCX) : Env := x.2.1
abbrev xR (x : zCX) : Room := x.2.2.1
abbrev xs (x : zCX) : State := x.2.2.2.1
abbrev xm (x : zCX) : MethodId := x.2.2.2.2.1
abbrev xa (x : zCX) : Array Value := x.2.2.2.2.2.1
abbrev xb (x : zCX) : List Frame := x.2.2.2.2.2.2.1
abbrev xme (x : zCX) : Method := x.2.2.2.2.2.2.2.1
abbrev xc (x : zCX) : Code := x.2.2.2.2.2.2.2.2.1
abbrev xce (x : zCX) : Nat := x.2.2.2.2.2.2.2.2.2.1
abbrev xsl (x : zCX) : Nat := x.2.2.2.2.2.2.2.2.2.2
abbrev zrt (x : zCX) : Option FieldType := (xme x).sig.returnType
/-! what a state is asked for beside its cells -/
def zK (w : zWC) (U : State) : Prop := va_K (zD w) vwCl (ztys w) U ∧ (∀ q ∈ zNM, va_Nw (.methodLinkNest q.1 q.2.1 q.2.2.1 q.2.2.2) U) ∧ (∀ q ∈ zNF, va_Nw (.fieldLinkNest q.1 q.2.1 q.2.2.1 q.2.2.2.1 q.2.2.2.2.1 q.2.2.2.2.2) U)
def zS1 (w : zWC) (n : String) (t : Nat) (f : Nat → Int32) (U : State) (H : Heap) : Prop := va_Z "LeadBalls" n "[I" (.ref t) (zA w) U H ∧ va_T .int t 11 (fun j => .int (f j)) (zA w) U H
def zS3 (w : zWC) (U : State) (H : Heap) : Prop := zS1 w "UNTOLD_SETTING" (ztU w) ztabU U H ∧ zS1 w "LEAST_SETTING" (ztL w) ztabL U H ∧ zS1 w "MOST_SETTING" (ztM w) ztabM U H
theorem zS1.moved {w : zWC} {n : String} {t : Nat} {f : Nat → Int32} {u U : State} {H : Heap} (hvm : u.vm.Alike U.vm) (h : zS1 w n t f u H) : zS1 w n t f U H := ⟨h.1.moved hvm, h.2.moved hvm⟩
theorem zS1.kept {w : zWC} {n : String} {t : Nat} {f : Nat → Int32} {U : State} {H H1 : Heap} (h : zS1 w n t f U H) (hq : ∀ a : Nat, a < H.size → ¬ zA w a → H1[a]? = H[a]?) : zS1 w n t f U H1 := ⟨h.1.kept hq, h.2.kept hq⟩
theorem zS3.moved {w : zWC} {u U : State} {H : Heap} (hvm : u.vm.Alike U.vm) (h : zS3 w u H) : zS3 w U H := ⟨h.1.moved hvm, h.2.1.moved hvm, h.2.2.moved hvm⟩
theorem zS3.kept {w : zWC} {U : State} {H H1 : Heap} (h : zS3 w U H) (hq : ∀ a : Nat, a < H.size → ¬ zA w a → H1[a]? = H[a]?) : zS3 w U H1 := ⟨h.1.kept hq, h.2.1.kept hq, h.2.2.kept hq⟩
theorem zK.warm {w : zWC} {s U : State} (hW : s.WarmedH U.vm) (h : zK w s) : zK w U := ⟨h.1.moved hW.alike, fun q hq => va_Nw.warmM hW (h.2.1 q hq), fun q hq => va_Nw.warmF hW (h.2.2 q hq)⟩
theorem zK.same {w : zWC} {s U : State} (hW : s.vm = U.vm) (h : zK w s) : zK w U := ⟨h.1.moved (by rw [hW]; exact Vm.Alike.refl _), fun q hq => va_Nw.same rfl hW (h.2.1 q hq), fun q hq => va_Nw.same rfl hW (h.2.2 q hq)⟩
def zPic (w : zWC) (σ : zSt) (U : State) : Prop := va_P (zD w) vwCl (zW w σ) U.heap ∧ zK w U ∧ zS3 w U U.heap
def zQc (w : zWC) (r : Option Value) (σ : zSt) : Array Value → State → Outcome → State → Prop := fun _ st oc t => oc = .returned r ∧ va_P (zD w) vwCl (zW w σ) t.heap ∧ va_F (zA w) st t
def zRoom (n : Nat) : Room := { frames := n, cells := 0, slots := 0, locals := 64 * n }
def zws (y : MethodName) (cc : ByteArray) (nL : Nat) (ret : Option FieldType) : List Cond := Cond.code y cc nL ret :: ztb
/-- a method's contract at one start: these arguments, this world: it answers r, the world is σ' -/
def zCn (w : zWC) (n : Nat) (y : MethodName) (cc : ByteArray) (nL : Nat) (ret : Option FieldType) (args : List Value) (σ : zSt) (r : Option Value) (σ' : zSt) : Prop := Met (zl w) y (zws y cc nL ret) (zRoom n) (va_Pc args (zPic w σ)) (zQc w r σ') 0 0 (zA w)
def zOK (w : zWC) (x : zCX) (own : String) (cc : ByteArray) (nL lev : Nat) : Prop :=
  (xp x).tables.exec = Jvm.exec ∧ (xc x).code = cc ∧ (xc x).maxLocals = nL ∧ (xs x).vm.findClass own = some (xm x).cls ∧ (∀ q ∈ ztb, q.before (xa x) (xs x) = true) ∧ zK w (xs x) ∧ zS3 w (xs x) (xs x).heap ∧ (lev ≤ (xR x).frames ∧ 64 * lev ≤ (xR x).locals) ∧ (xce x ≤ (xR x).cells ∧ xsl x ≤ (xR x).slots) ∧ (xme x).locks = false
/-- THE JUDGEMENT: if the mirror program m comes to an answer a, the machine, here at pc with these locals, this stack and this world, comes to a state of Qf a -/
def zJ {α : Type} (Qf : α → State → Prop) (w : zWC) (x : zCX) (own : String) (cc : ByteArray) (nL lev : Nat) (m : Option α) (pc : Nat) (lv : List (Option Value)) (st : List Value) (σ : zSt) : Prop :=
  ∀ a, m = some a → zOK w x own cc nL lev → ∀ (ls : Array Slot) (H : Heap) (locs : List Loc), zlv ls nL lv → va_P (zD w) vwCl (zW w σ) H → va_S (zA w) (xs x).heap H locs → W (xp x) (zl w) (xe x) (xR x) (xs x) (xm x) (xa x) (xb x) (xme x) (xc x) H locs (xce x) (xsl x) (Qf a) (F0 (xm x) pc ls st)
def zlt {α β : Type} (a : α) (f : α → Option β) : Option β := f a
def zcl {α β : Type} (m : Option (α × zSt)) (f : α → zSt → Option β) : Option β := match m with
  | none => none
  | some a => f a.1 a.2
def zcv {β : Type} (m : Option zSt) (f : zSt → Option β) : Option β := match m with
  | none => none
  | some a => f a
abbrev zeI (a : Int32 × zSt) : Option Value × zSt := (some (.int a.1), a.2)
abbrev zeL (a : Int64 × zSt) : Option Value × zSt := (some (.long a.1), a.2)
abbrev zeV (a : zSt) : Option Value × zSt := (none, a)
abbrev zQf {α : Type} (w : zWC) (x : zCX) (enc : α → Option Value × zSt) : α → State → Prop := fun a => MQ (xb x) (zQc w (enc a).1 (enc a).2) (xa x) (xs x) (xce x) (xsl x) (zA w)
section ZJ
variable {α : Type} {Qf : α → State → Prop} {w : zWC} {x : zCX} {own : String} {cc : ByteArray} {nL lev : Nat} {m : Option α} {pc : Nat} {lv : List (Option Value)} {st : List Value} {σ : zSt}
theorem zj_none : zJ Qf w x own cc nL lev none pc lv st σ := fun a h => by cases h
theorem zj_weak {lv' : List (Option Value)} (ms : List Bool) (h : zmask lv ms = lv') (kk : zJ Qf w x own cc nL lev m pc lv' st σ) : zJ Qf w x own cc nL lev m pc lv st σ := by
  intro a hm ok ls H locs hl hP hS
  subst h
  exact kk a hm ok ls H locs ⟨hl.1, hl.2.1, fun i v hv => hl.2.2 i v (zmask_sub lv ms i v hv)⟩ hP hS

theorem zj_iconst {n : Int} {v : Int32} (d : decode cc pc = .ok (.iconst n, 1)) (hv : Int32.ofInt n = v) (kk : zJ Qf w x own cc nL lev m (pc + 1) lv (.int v :: st) σ) : zJ Qf w x own cc nL lev m pc lv (st) σ := by
  intro a hm ok ls H locs hl hP hS
  exact lv_iconst ok.1 ok.2.1 d hv (kk a hm ok ls H locs hl hP hS)
theorem zj_bipush {n : Int} {v : Int32} (d : decode cc pc = .ok (.bipush n, 2)) (hv : (Int8.ofInt n).toInt32 = v) (kk : zJ Qf w x own cc nL lev m (pc + 2) lv (.int v :: st) σ) : zJ Qf w x own cc nL lev m pc lv (st) σ := by
  intro a hm ok ls H locs hl hP hS
  exact lv_bipush ok.1 ok.2.1 d hv (kk a hm ok ls H locs hl hP hS)
theorem zj_sipush {n : Int} {v : Int32} (d : decode cc pc = .ok (.sipush n, 3)) (hv : (Int16.ofInt n).toInt32 = v) (kk : zJ Qf w x own cc nL lev m (pc + 3) lv (.int v :: st) σ) : zJ Qf w x own cc nL lev m pc lv (st) σ := by
  intro a hm ok ls H locs hl hP hS
  exact lv_sipush ok.1 ok.2.1 d hv (kk a hm ok ls H locs hl hP hS)
theorem zj_lconst {n : Fin 2} {v : Int64} (d : decode cc pc = .ok (.lconst n, 1)) (hv : Int64.ofNat (n : Nat) = v) (kk : zJ Qf w x own cc nL lev m (pc + 1) lv (.long v :: st) σ) : zJ Qf w x own cc nL lev m pc lv (st) σ := by
  intro a hm ok ls H locs hl hP hS
  exact lv_lconst ok.1 ok.2.1 d hv (kk a hm ok ls H locs hl hP hS)
theorem zj_ldc {n : Nat} {v : Int32} (d : decode cc pc = .ok (.ldc n, 2)) (hc : Cond.constant own n v ∈ ztb) (kk : zJ Qf w x own cc nL lev m (pc + 2) lv (.int v :: st) σ) : zJ Qf w x own cc nL lev m pc lv (st) σ := by
  intro a hm ok ls H locs hl hP hS
  exact lv_ldc ok.1 ok.2.1 ok.2.2.2.1 (ok.2.2.2.2.1 _ hc) d (kk a hm ok ls H locs hl hP hS)
theorem zj_ldcw {n : Nat} {v : Int32} (d : decode cc pc = .ok (.ldc_w n, 3)) (hc : Cond.constant own n v ∈ ztb) (kk : zJ Qf w x own cc nL lev m (pc + 3) lv (.int v :: st) σ) : zJ Qf w x own cc nL lev m pc lv (st) σ := by
  intro a hm ok ls H locs hl hP hS
  exact lv_ldcw ok.1 ok.2.1 ok.2.2.2.1 (ok.2.2.2.2.1 _ hc) d (kk a hm ok ls H locs hl hP hS)
theorem zj_ldc2 {n : Nat} {v : Int64} (d : decode cc pc = .ok (.ldc2_w n, 3)) (hc : Cond.constantLong own n v ∈ ztb) (kk : zJ Qf w x own cc nL lev m (pc + 3) lv (.long v :: st) σ) : zJ Qf w x own cc nL lev m pc lv (st) σ := by
  intro a hm ok ls H locs hl hP hS
  exact lv_ldc2 ok.1 ok.2.1 ok.2.2.2.1 (ok.2.2.2.2.1 _ hc) d (kk a hm ok ls H locs hl hP hS)
theorem zj_iload_n {k : Fin 4} {v : Int32} (d : decode cc pc = .ok (.iload_n k, 1)) (hv : lv[(k : Nat)]? = some (some (.int v))) (kk : zJ Qf w x own cc nL lev m (pc + 1) lv (.int v :: st) σ) : zJ Qf w x own cc nL lev m pc lv (st) σ := by
  intro a hm ok ls H locs hl hP hS
  exact lv_iload_n ok.1 ok.2.1 d rfl (hl.2.2 _ _ hv) (kk a hm ok ls H locs hl hP hS)
theorem zj_iload {k : Nat} {v : Int32} (d : decode cc pc = .ok (.iload k, 2)) (hv : lv[k]? = some (some (.int v))) (kk : zJ Qf w x own cc nL lev m (pc + 2) lv (.int v :: st) σ) : zJ Qf w x own cc nL lev m pc lv (st) σ := by
  intro a hm ok ls H locs hl hP hS
  exact lv_iload ok.1 ok.2.1 d (hl.2.2 _ _ hv) (kk a hm ok ls H locs hl hP hS)
theorem zj_lload_n {k : Fin 4} {v : Int64} (d : decode cc pc = .ok (.lload_n k, 1)) (hv : lv[(k : Nat)]? = some (some (.long v))) (kk : zJ Qf w x own cc nL lev m (pc + 1) lv (.long v :: st) σ) : zJ Qf w x own cc nL lev m pc lv (st) σ := by
  intro a hm ok ls H locs hl hP hS
  exact lv_lload_n ok.1 ok.2.1 d rfl (hl.2.2 _ _ hv) (kk a hm ok ls H locs hl hP hS)
theorem zj_lload {k : Nat} {v : Int64} (d : decode cc pc = .ok (.lload k, 2)) (hv : lv[k]? = some (some (.long v))) (kk : zJ Qf w x own cc nL lev m (pc + 2) lv (.long v :: st) σ) : zJ Qf w x own cc nL lev m pc lv (st) σ := by
  intro a hm ok ls H locs hl hP hS
  exact lv_lload ok.1 ok.2.1 d (hl.2.2 _ _ hv) (kk a hm ok ls H locs hl hP hS)
theorem zj_aload_n {k : Fin 4} {v : Nat} (d : decode cc pc = .ok (.aload_n k, 1)) (hv : lv[(k : Nat)]? = some (some (.ref v))) (kk : zJ Qf w x own cc nL lev m (pc + 1) lv (.ref v :: st) σ) : zJ Qf w x own cc nL lev m pc lv (st) σ := by
  intro a hm ok ls H locs hl hP hS
  exact lv_aload_n ok.1 ok.2.1 d rfl (hl.2.2 _ _ hv) (kk a hm ok ls H locs hl hP hS)
theorem zj_aload {k : Nat} {v : Nat} (d : decode cc pc = .ok (.aload k, 2)) (hv : lv[k]? = some (some (.ref v))) (kk : zJ Qf w x own cc nL lev m (pc + 2) lv (.ref v :: st) σ) : zJ Qf w x own cc nL lev m pc lv (st) σ := by
  intro a hm ok ls H locs hl hP hS
  exact lv_aload ok.1 ok.2.1 d (hl.2.2 _ _ hv) (kk a hm ok ls H locs hl hP hS)
theorem zj_istore_n {k : Fin 4} {i : Nat} {v : Int32} {lv' : List (Option Value)} (d : decode cc pc = .ok (.istore_n k, 1)) (hi : (k : Nat) = i) (hn : i < nL) (hp : zpv lv i = true) (hs : (lv.set i (some (.int v))) = lv') (kk : zJ Qf w x own cc nL lev m (pc + 1) lv' (st) σ) : zJ Qf w x own cc nL lev m pc lv (.int v :: st) σ := by
  intro a hm ok ls H locs hl hP hS
  subst hs
  obtain ⟨l, h1, h2⟩ := zlv_store1 (v := .int v) hl hn rfl hp
  exact lv_istore_n ok.1 ok.2.1 d hi h1 hn rfl (fun ls' h' => kk a hm ok ls' H locs (h2 ls' h') hP hS)
theorem zj_istore {i : Nat} {v : Int32} {lv' : List (Option Value)} (d : decode cc pc = .ok (.istore i, 2))  (hn : i < nL) (hp : zpv lv i = true) (hs : (lv.set i (some (.int v))) = lv') (kk : zJ Qf w x own cc nL lev m (pc + 2) lv' (st) σ) : zJ Qf w x own cc nL lev m pc lv (.int v :: st) σ := by
  intro a hm ok ls H locs hl hP hS
  subst hs
  obtain ⟨l, h1, h2⟩ := zlv_store1 (v := .int v) hl hn rfl hp
  exact lv_istore ok.1 ok.2.1 d  h1 hn rfl (fun ls' h' => kk a hm ok ls' H locs (h2 ls' h') hP hS)
theorem zj_lstore_n {k : Fin 4} {i : Nat} {v : Int64} {lv' : List (Option Value)} (d : decode cc pc = .ok (.lstore_n k, 1)) (hi : (k : Nat) = i) (hn : i + 1 < nL) (hp : zpv lv i = true) (hs : ((lv.set i (some (.long v))).set (i + 1) none) = lv') (kk : zJ Qf w x own cc nL lev m (pc + 1) lv' (st) σ) : zJ Qf w x own cc nL lev m pc lv (.long v :: st) σ := by
  intro a hm ok ls H locs hl hP hS
  subst hs
  obtain ⟨l, h1, h2⟩ := zlv_store2 (v := .long v) hl hn rfl hp
  exact lv_lstore_n ok.1 ok.2.1 d hi h1 hn rfl (fun ls' h' => kk a hm ok ls' H locs (h2 ls' h') hP hS)
theorem zj_lstore {i : Nat} {v : Int64} {lv' : List (Option Value)} (d : decode cc pc = .ok (.lstore i, 2))  (hn : i + 1 < nL) (hp : zpv lv i = true) (hs : ((lv.set i (some (.long v))).set (i + 1) none) = lv') (kk : zJ Qf w x own cc nL lev m (pc + 2) lv' (st) σ) : zJ Qf w x own cc nL lev m pc lv (.long v :: st) σ := by
  intro a hm ok ls H locs hl hP hS
  subst hs
  obtain ⟨l, h1, h2⟩ := zlv_store2 (v := .long v) hl hn rfl hp
  exact lv_lstore ok.1 ok.2.1 d  h1 hn rfl (fun ls' h' => kk a hm ok ls' H locs (h2 ls' h') hP hS)
theorem zj_astore_n {k : Fin 4} {i : Nat} {v : Nat} {lv' : List (Option Value)} (d : decode cc pc = .ok (.astore_n k, 1)) (hi : (k : Nat) = i) (hn : i < nL) (hp : zpv lv i = true) (hs : (lv.set i (some (.ref v))) = lv') (kk : zJ Qf w x own cc nL lev m (pc + 1) lv' (st) σ) : zJ Qf w x own cc nL lev m pc lv (.ref v :: st) σ := by
  intro a hm ok ls H locs hl hP hS
  subst hs
  obtain ⟨l, h1, h2⟩ := zlv_store1 (v := .ref v) hl hn rfl hp
  exact lv_astore_n ok.1 ok.2.1 d hi h1 hn rfl (fun ls' h' => kk a hm ok ls' H locs (h2 ls' h') hP hS)
theorem zj_astore {i : Nat} {v : Nat} {lv' : List (Option Value)} (d : decode cc pc = .ok (.astore i, 2))  (hn : i < nL) (hp : zpv lv i = true) (hs : (lv.set i (some (.ref v))) = lv') (kk : zJ Qf w x own cc nL lev m (pc + 2) lv' (st) σ) : zJ Qf w x own cc nL lev m pc lv (.ref v :: st) σ := by
  intro a hm ok ls H locs hl hP hS
  subst hs
  obtain ⟨l, h1, h2⟩ := zlv_store1 (v := .ref v) hl hn rfl hp
  exact lv_astore ok.1 ok.2.1 d  h1 hn rfl (fun ls' h' => kk a hm ok ls' H locs (h2 ls' h') hP hS)
theorem zj_iinc {i : Nat} {n : Int} {v v2 : Int32} {lv' : List (Option Value)} (d : decode cc pc = .ok (.iinc i n, 3)) (hv : lv[i]? = some (some (.int v))) (he : v + Int32.ofInt n = v2) (hn : i < nL) (hp : zpv lv i = true) (hs : (lv.set i (some (.int v2))) = lv') (kk : zJ Qf w x own cc nL lev m (pc + 3) lv' (st) σ) : zJ Qf w x own cc nL lev m pc lv (st) σ := by
  intro a hm ok ls H locs hl hP hS
  subst hs
  obtain ⟨l, h1, h2⟩ := zlv_store1 (v := .int v2) hl hn rfl hp
  have hz : (i, Value.int v) ∈ zprs lv := zprs_mem.mpr hv
  obtain ⟨k, hk⟩ := List.getElem?_of_mem hz
  have h1z := zlv_has hl
  refine lv_iinc (lv := zprs lv) (lv' := (i, Value.int v2) :: (zprs lv).filter (fun q => !(q.1 == i) && !(q.1 + 1 == i && q.2.category == 2))) ok.1 ok.2.1 d h1z hk he hn rfl (fun ls' h' => kk a hm ok ls' H locs ?_ hP hS)
  obtain ⟨e1, e2, e3⟩ := h'
  refine ⟨e1, e2, fun j u hj => ?_⟩
  by_cases hji : j = i
  · subst hji
    rw [List.getElem?_set_self'] at hj
    rw [hv] at hj
    have : u = .int v2 := by simpa using hj.symm
    subst this
    exact e3 (j, .int v2) List.mem_cons_self
  · rw [List.getElem?_set_ne (Ne.symm hji)] at hj
    refine e3 (j, u) (List.mem_cons_of_mem _ (List.mem_filter.mpr ⟨zprs_mem.mpr hj, ?_⟩))
    have h2 : ¬ (j + 1 = i ∧ u.category = 2) := by
      rintro ⟨rfl, hu⟩
      simp only [zpv, hj] at hp
      simp [hu] at hp
    simp only [Bool.and_eq_true, Bool.not_eq_true', beq_eq_false_iff_ne, ne_eq]
    refine ⟨hji, ?_⟩
    by_cases q1 : j + 1 = i
    · by_cases q2 : u.category = 2
      · exact absurd ⟨q1, q2⟩ h2
      · simp [q2]
    · simp [q1]
theorem zj_iadd {a1 a2 : Int32} (d : decode cc pc = .ok (.iadd, 1))  (kk : zJ Qf w x own cc nL lev m (pc + 1) lv (.int (a1 + a2) :: st) σ) : zJ Qf w x own cc nL lev m pc lv (.int a2 :: .int a1 :: st) σ := by
  intro a hm ok ls H locs hl hP hS
  exact lv_iadd ok.1 ok.2.1 d (kk a hm ok ls H locs hl hP hS)
theorem zj_isub {a1 a2 : Int32} (d : decode cc pc = .ok (.isub, 1))  (kk : zJ Qf w x own cc nL lev m (pc + 1) lv (.int (a1 - a2) :: st) σ) : zJ Qf w x own cc nL lev m pc lv (.int a2 :: .int a1 :: st) σ := by
  intro a hm ok ls H locs hl hP hS
  exact lv_isub ok.1 ok.2.1 d (kk a hm ok ls H locs hl hP hS)
theorem zj_imul {a1 a2 : Int32} (d : decode cc pc = .ok (.imul, 1))  (kk : zJ Qf w x own cc nL lev m (pc + 1) lv (.int (a1 * a2) :: st) σ) : zJ Qf w x own cc nL lev m pc lv (.int a2 :: .int a1 :: st) σ := by
  intro a hm ok ls H locs hl hP hS
  exact lv_imul ok.1 ok.2.1 d (kk a hm ok ls H locs hl hP hS)
theorem zj_iand {a1 a2 : Int32} (d : decode cc pc = .ok (.iand, 1))  (kk : zJ Qf w x own cc nL lev m (pc + 1) lv (.int (a1 &&& a2) :: st) σ) : zJ Qf w x own cc nL lev m pc lv (.int a2 :: .int a1 :: st) σ := by
  intro a hm ok ls H locs hl hP hS
  exact lv_iand ok.1 ok.2.1 d (kk a hm ok ls H locs hl hP hS)
theorem zj_ior {a1 a2 : Int32} (d : decode cc pc = .ok (.ior, 1))  (kk : zJ Qf w x own cc nL lev m (pc + 1) lv (.int (a1 ||| a2) :: st) σ) : zJ Qf w x own cc nL lev m pc lv (.int a2 :: .int a1 :: st) σ := by
  intro a hm ok ls H locs hl hP hS
  exact lv_ior ok.1 ok.2.1 d (kk a hm ok ls H locs hl hP hS)
theorem zj_ixor {a1 a2 : Int32} (d : decode cc pc = .ok (.ixor, 1))  (kk : zJ Qf w x own cc nL lev m (pc + 1) lv (.int (a1 ^^^ a2) :: st) σ) : zJ Qf w x own cc nL lev m pc lv (.int a2 :: .int a1 :: st) σ := by
  intro a hm ok ls H locs hl hP hS
  exact lv_ixor ok.1 ok.2.1 d (kk a hm ok ls H locs hl hP hS)
theorem zj_ishl {a1 a2 : Int32} (d : decode cc pc = .ok (.ishl, 1))  (kk : zJ Qf w x own cc nL lev m (pc + 1) lv (.int (a1 <<< (a2 &&& 31)) :: st) σ) : zJ Qf w x own cc nL lev m pc lv (.int a2 :: .int a1 :: st) σ := by
  intro a hm ok ls H locs hl hP hS
  exact lv_ishl ok.1 ok.2.1 d (kk a hm ok ls H locs hl hP hS)
theorem zj_ishr {a1 a2 : Int32} (d : decode cc pc = .ok (.ishr, 1))  (kk : zJ Qf w x own cc nL lev m (pc + 1) lv (.int (a1 >>> (a2 &&& 31)) :: st) σ) : zJ Qf w x own cc nL lev m pc lv (.int a2 :: .int a1 :: st) σ := by
  intro a hm ok ls H locs hl hP hS
  exact lv_ishr ok.1 ok.2.1 d (kk a hm ok ls H locs hl hP hS)
theorem zj_iushr {a1 a2 : Int32} (d : decode cc pc = .ok (.iushr, 1))  (kk : zJ Qf w x own cc nL lev m (pc + 1) lv (.int ((a1.toUInt32 >>> (a2.toUInt32 &&& Int32.toUInt32 31)).toInt32) :: st) σ) : zJ Qf w x own cc nL lev m pc lv (.int a2 :: .int a1 :: st) σ := by
  intro a hm ok ls H locs hl hP hS
  exact lv_iushr ok.1 ok.2.1 d rfl (kk a hm ok ls H locs hl hP hS)
theorem zj_ladd {a1 a2 : Int64} (d : decode cc pc = .ok (.ladd, 1))  (kk : zJ Qf w x own cc nL lev m (pc + 1) lv (.long (a1 + a2) :: st) σ) : zJ Qf w x own cc nL lev m pc lv (.long a2 :: .long a1 :: st) σ := by
  intro a hm ok ls H locs hl hP hS
  exact lv_ladd ok.1 ok.2.1 d (kk a hm ok ls H locs hl hP hS)
theorem zj_lsub {a1 a2 : Int64} (d : decode cc pc = .ok (.lsub, 1))  (kk : zJ Qf w x own cc nL lev m (pc + 1) lv (.long (a1 - a2) :: st) σ) : zJ Qf w x own cc nL lev m pc lv (.long a2 :: .long a1 :: st) σ := by
  intro a hm ok ls H locs hl hP hS
  exact lv_lsub ok.1 ok.2.1 d (kk a hm ok ls H locs hl hP hS)
theorem zj_lmul {a1 a2 : Int64} (d : decode cc pc = .ok (.lmul, 1))  (kk : zJ Qf w x own cc nL lev m (pc + 1) lv (.long (a1 * a2) :: st) σ) : zJ Qf w x own cc nL lev m pc lv (.long a2 :: .long a1 :: st) σ := by
  intro a hm ok ls H locs hl hP hS
  exact lv_lmul ok.1 ok.2.1 d (kk a hm ok ls H locs hl hP hS)
theorem zj_land {a1 a2 : Int64} (d : decode cc pc = .ok (.land, 1))  (kk : zJ Qf w x own cc nL lev m (pc + 1) lv (.long (a1 &&& a2) :: st) σ) : zJ Qf w x own cc nL lev m pc lv (.long a2 :: .long a1 :: st) σ := by
  intro a hm ok ls H locs hl hP hS
  exact lv_land ok.1 ok.2.1 d (kk a hm ok ls H locs hl hP hS)
theorem zj_lor {a1 a2 : Int64} (d : decode cc pc = .ok (.lor, 1))  (kk : zJ Qf w x own cc nL lev m (pc + 1) lv (.long (a1 ||| a2) :: st) σ) : zJ Qf w x own cc nL lev m pc lv (.long a2 :: .long a1 :: st) σ := by
  intro a hm ok ls H locs hl hP hS
  exact lv_lor ok.1 ok.2.1 d (kk a hm ok ls H locs hl hP hS)
theorem zj_lxor {a1 a2 : Int64} (d : decode cc pc = .ok (.lxor, 1))  (kk : zJ Qf w x own cc nL lev m (pc + 1) lv (.long (a1 ^^^ a2) :: st) σ) : zJ Qf w x own cc nL lev m pc lv (.long a2 :: .long a1 :: st) σ := by
  intro a hm ok ls H locs hl hP hS
  exact lv_lxor ok.1 ok.2.1 d (kk a hm ok ls H locs hl hP hS)
theorem zj_lshl {a1 : Int64} {a2 : Int32} (d : decode cc pc = .ok (.lshl, 1))  (kk : zJ Qf w x own cc nL lev m (pc + 1) lv (.long (a1 <<< (a2.toInt64 &&& 63)) :: st) σ) : zJ Qf w x own cc nL lev m pc lv (.int a2 :: .long a1 :: st) σ := by
  intro a hm ok ls H locs hl hP hS
  exact lv_lshl ok.1 ok.2.1 d rfl (kk a hm ok ls H locs hl hP hS)
theorem zj_ineg {a1 : Int32} (d : decode cc pc = .ok (.ineg, 1))  (kk : zJ Qf w x own cc nL lev m (pc + 1) lv (.int (-a1) :: st) σ) : zJ Qf w x own cc nL lev m pc lv (.int a1 :: st) σ := by
  intro a hm ok ls H locs hl hP hS
  exact lv_ineg ok.1 ok.2.1 d (kk a hm ok ls H locs hl hP hS)
theorem zj_lneg {a1 : Int64} (d : decode cc pc = .ok (.lneg, 1))  (kk : zJ Qf w x own cc nL lev m (pc + 1) lv (.long (-a1) :: st) σ) : zJ Qf w x own cc nL lev m pc lv (.long a1 :: st) σ := by
  intro a hm ok ls H locs hl hP hS
  exact lv_lneg ok.1 ok.2.1 d (kk a hm ok ls H locs hl hP hS)
theorem zj_i2l {a1 : Int32} (d : decode cc pc = .ok (.i2l, 1))  (kk : zJ Qf w x own cc nL lev m (pc + 1) lv (.long a1.toInt64 :: st) σ) : zJ Qf w x own cc nL lev m pc lv (.int a1 :: st) σ := by
  intro a hm ok ls H locs hl hP hS
  exact lv_i2l ok.1 ok.2.1 d rfl (kk a hm ok ls H locs hl hP hS)
theorem zj_i2b {a1 : Int32} (d : decode cc pc = .ok (.i2b, 1))  (kk : zJ Qf w x own cc nL lev m (pc + 1) lv (.int a1.toInt8.toInt32 :: st) σ) : zJ Qf w x own cc nL lev m pc lv (.int a1 :: st) σ := by
  intro a hm ok ls H locs hl hP hS
  exact lv_i2b ok.1 ok.2.1 d rfl (kk a hm ok ls H locs hl hP hS)
theorem zj_idiv {a1 a2 : Int32} (d : decode cc pc = .ok (.idiv, 1)) (kk : zJ Qf w x own cc nL lev m (pc + 1) lv (.int (a1 / a2) :: st) σ) : zJ Qf w x own cc nL lev (if a2 = 0 then none else m) pc lv (.int a2 :: .int a1 :: st) σ := by
  intro a hm ok ls H locs hl hP hS
  by_cases hz : a2 = 0
  · rw [if_pos hz] at hm; cases hm
  · rw [if_neg hz] at hm
    exact lv_idiv ok.1 ok.2.1 d hz (kk a hm ok ls H locs hl hP hS)
theorem zj_idivK {a1 a2 : Int32} (d : decode cc pc = .ok (.idiv, 1)) (hz : ¬ a2 = 0) (kk : zJ Qf w x own cc nL lev m (pc + 1) lv (.int (a1 / a2) :: st) σ) : zJ Qf w x own cc nL lev m pc lv (.int a2 :: .int a1 :: st) σ := by
  intro a hm ok ls H locs hl hP hS
  exact lv_idiv ok.1 ok.2.1 d hz (kk a hm ok ls H locs hl hP hS)
theorem zj_irem {a1 a2 : Int32} (d : decode cc pc = .ok (.irem, 1)) (kk : zJ Qf w x own cc nL lev m (pc + 1) lv (.int (a1 - a1 / a2 * a2) :: st) σ) : zJ Qf w x own cc nL lev (if a2 = 0 then none else m) pc lv (.int a2 :: .int a1 :: st) σ := by
  intro a hm ok ls H locs hl hP hS
  by_cases hz : a2 = 0
  · rw [if_pos hz] at hm; cases hm
  · rw [if_neg hz] at hm
    exact lv_irem ok.1 ok.2.1 d hz (kk a hm ok ls H locs hl hP hS)
theorem zj_iremK {a1 a2 : Int32} (d : decode cc pc = .ok (.irem, 1)) (hz : ¬ a2 = 0) (kk : zJ Qf w x own cc nL lev m (pc + 1) lv (.int (a1 - a1 / a2 * a2) :: st) σ) : zJ Qf w x own cc nL lev m pc lv (.int a2 :: .int a1 :: st) σ := by
  intro a hm ok ls H locs hl hP hS
  exact lv_irem ok.1 ok.2.1 d hz (kk a hm ok ls H locs hl hP hS)
theorem zj_ldiv {a1 a2 : Int64} (d : decode cc pc = .ok (.ldiv, 1)) (kk : zJ Qf w x own cc nL lev m (pc + 1) lv (.long (a1 / a2) :: st) σ) : zJ Qf w x own cc nL lev (if a2 = 0 then none else m) pc lv (.long a2 :: .long a1 :: st) σ := by
  intro a hm ok ls H locs hl hP hS
  by_cases hz : a2 = 0
  · rw [if_pos hz] at hm; cases hm
  · rw [if_neg hz] at hm
    exact lv_ldiv ok.1 ok.2.1 d hz (kk a hm ok ls H locs hl hP hS)
theorem zj_ldivK {a1 a2 : Int64} (d : decode cc pc = .ok (.ldiv, 1)) (hz : ¬ a2 = 0) (kk : zJ Qf w x own cc nL lev m (pc + 1) lv (.long (a1 / a2) :: st) σ) : zJ Qf w x own cc nL lev m pc lv (.long a2 :: .long a1 :: st) σ := by
  intro a hm ok ls H locs hl hP hS
  exact lv_ldiv ok.1 ok.2.1 d hz (kk a hm ok ls H locs hl hP hS)
theorem zj_lrem {a1 a2 : Int64} (d : decode cc pc = .ok (.lrem, 1)) (kk : zJ Qf w x own cc nL lev m (pc + 1) lv (.long (a1 - a1 / a2 * a2) :: st) σ) : zJ Qf w x own cc nL lev (if a2 = 0 then none else m) pc lv (.long a2 :: .long a1 :: st) σ := by
  intro a hm ok ls H locs hl hP hS
  by_cases hz : a2 = 0
  · rw [if_pos hz] at hm; cases hm
  · rw [if_neg hz] at hm
    exact lv_lrem ok.1 ok.2.1 d hz (kk a hm ok ls H locs hl hP hS)
theorem zj_lremK {a1 a2 : Int64} (d : decode cc pc = .ok (.lrem, 1)) (hz : ¬ a2 = 0) (kk : zJ Qf w x own cc nL lev m (pc + 1) lv (.long (a1 - a1 / a2 * a2) :: st) σ) : zJ Qf w x own cc nL lev m pc lv (.long a2 :: .long a1 :: st) σ := by
  intro a hm ok ls H locs hl hP hS
  exact lv_lrem ok.1 ok.2.1 d hz (kk a hm ok ls H locs hl hP hS)
theorem zj_dup {v : Value} (d : decode cc pc = .ok (.dup, 1)) (hc : v.category = 1) (kk : zJ Qf w x own cc nL lev m (pc + 1) lv (v :: v :: st) σ) : zJ Qf w x own cc nL lev m pc lv (v :: st) σ := by
  intro a hm ok ls H locs hl hP hS
  exact lv_dup ok.1 ok.2.1 d hc (kk a hm ok ls H locs hl hP hS)
theorem zj_pop {v : Value} (d : decode cc pc = .ok (.pop, 1)) (hc : v.category = 1) (kk : zJ Qf w x own cc nL lev m (pc + 1) lv (st) σ) : zJ Qf w x own cc nL lev m pc lv (v :: st) σ := by
  intro a hm ok ls H locs hl hP hS
  exact lv_pop ok.1 ok.2.1 d hc (kk a hm ok ls H locs hl hP hS)
theorem zj_dup2 {v v2 : Value} (d : decode cc pc = .ok (.dup2, 1)) (hc : v.category = 1) (hc2 : v2.category = 1) (kk : zJ Qf w x own cc nL lev m (pc + 1) lv (v :: v2 :: v :: v2 :: st) σ) : zJ Qf w x own cc nL lev m pc lv (v :: v2 :: st) σ := by
  intro a hm ok ls H locs hl hP hS
  exact lv_dup2_11 ok.1 ok.2.1 d hc hc2 (kk a hm ok ls H locs hl hP hS)
theorem zj_goto {off : Int} {tgt : Nat} (d : decode cc pc = .ok (.goto off, 3)) (ht : (pc : Int) + off = (tgt : Int)) (kk : zJ Qf w x own cc nL lev m tgt lv (st) σ) : zJ Qf w x own cc nL lev m pc lv (st) σ := by
  intro a hm ok ls H locs hl hP hS
  exact lv_goto ok.1 ok.2.1 d ht (kk a hm ok ls H locs hl hP hS)
theorem zj_if_eq {a1 : Int32} {off : Int} {tgt : Nat} {m1 m2 : Option α} {dc : Decidable (a1 = 0)} (d : decode cc pc = .ok (.ifCond .eq off, 3)) (ht : (pc : Int) + off = (tgt : Int)) (k1 : zJ Qf w x own cc nL lev m1 tgt lv (st) σ) (k2 : zJ Qf w x own cc nL lev m2 (pc + 3) lv (st) σ) : zJ Qf w x own cc nL lev (@ite _ (a1 = 0) dc m1 m2) pc lv (.int a1 :: st) σ := by
  intro a hm ok ls H locs hl hP hS
  by_cases hz : a1 = 0
  · rw [if_pos hz] at hm
    refine lv_if_eq (tgt := tgt) ok.1 ok.2.1 d ht (fun h => ?_) (fun h => ?_)
    · exact k1 a hm ok ls H locs hl hP hS
    · exact absurd hz (h)
  · rw [if_neg hz] at hm
    refine lv_if_eq (tgt := tgt) ok.1 ok.2.1 d ht (fun h => ?_) (fun h => ?_)
    · exact absurd (h) hz
    · exact k2 a hm ok ls H locs hl hP hS
theorem zj_if_ne {a1 : Int32} {off : Int} {tgt : Nat} {m1 m2 : Option α} {dc : Decidable (a1 = 0)} (d : decode cc pc = .ok (.ifCond .ne off, 3)) (ht : (pc : Int) + off = (tgt : Int)) (k1 : zJ Qf w x own cc nL lev m1 (pc + 3) lv (st) σ) (k2 : zJ Qf w x own cc nL lev m2 tgt lv (st) σ) : zJ Qf w x own cc nL lev (@ite _ (a1 = 0) dc m1 m2) pc lv (.int a1 :: st) σ := by
  intro a hm ok ls H locs hl hP hS
  by_cases hz : a1 = 0
  · rw [if_pos hz] at hm
    refine lv_if_ne (tgt := tgt) ok.1 ok.2.1 d ht (fun h => ?_) (fun h => ?_)
    · exact absurd hz (h)
    · exact k1 a hm ok ls H locs hl hP hS
  · rw [if_neg hz] at hm
    refine lv_if_ne (tgt := tgt) ok.1 ok.2.1 d ht (fun h => ?_) (fun h => ?_)
    · exact k2 a hm ok ls H locs hl hP hS
    · exact absurd (h) hz
theorem zj_if_lt {a1 : Int32} {off : Int} {tgt : Nat} {m1 m2 : Option α} {dc : Decidable (a1 < 0)} (d : decode cc pc = .ok (.ifCond .lt off, 3)) (ht : (pc : Int) + off = (tgt : Int)) (k1 : zJ Qf w x own cc nL lev m1 tgt lv (st) σ) (k2 : zJ Qf w x own cc nL lev m2 (pc + 3) lv (st) σ) : zJ Qf w x own cc nL lev (@ite _ (a1 < 0) dc m1 m2) pc lv (.int a1 :: st) σ := by
  intro a hm ok ls H locs hl hP hS
  by_cases hz : a1 < 0
  · rw [if_pos hz] at hm
    refine lv_if_lt (tgt := tgt) ok.1 ok.2.1 d ht (fun h => ?_) (fun h => ?_)
    · exact k1 a hm ok ls H locs hl hP hS
    · exact absurd hz (h)
  · rw [if_neg hz] at hm
    refine lv_if_lt (tgt := tgt) ok.1 ok.2.1 d ht (fun h => ?_) (fun h => ?_)
    · exact absurd (h) hz
    · exact k2 a hm ok ls H locs hl hP hS
theorem zj_if_ge {a1 : Int32} {off : Int} {tgt : Nat} {m1 m2 : Option α} {dc : Decidable (a1 < 0)} (d : decode cc pc = .ok (.ifCond .ge off, 3)) (ht : (pc : Int) + off = (tgt : Int)) (k1 : zJ Qf w x own cc nL lev m1 (pc + 3) lv (st) σ) (k2 : zJ Qf w x own cc nL lev m2 tgt lv (st) σ) : zJ Qf w x own cc nL lev (@ite _ (a1 < 0) dc m1 m2) pc lv (.int a1 :: st) σ := by
  intro a hm ok ls H locs hl hP hS
  by_cases hz : a1 < 0
  · rw [if_pos hz] at hm
    refine lv_if_ge (tgt := tgt) ok.1 ok.2.1 d ht (fun h => ?_) (fun h => ?_)
    · exact absurd hz (Int32.not_lt.mpr h)
    · exact k1 a hm ok ls H locs hl hP hS
  · rw [if_neg hz] at hm
    refine lv_if_ge (tgt := tgt) ok.1 ok.2.1 d ht (fun h => ?_) (fun h => ?_)
    · exact k2 a hm ok ls H locs hl hP hS
    · exact absurd (Int32.not_le.mp h) hz
theorem zj_if_gt {a1 : Int32} {off : Int} {tgt : Nat} {m1 m2 : Option α} {dc : Decidable (0 < a1)} (d : decode cc pc = .ok (.ifCond .gt off, 3)) (ht : (pc : Int) + off = (tgt : Int)) (k1 : zJ Qf w x own cc nL lev m1 tgt lv (st) σ) (k2 : zJ Qf w x own cc nL lev m2 (pc + 3) lv (st) σ) : zJ Qf w x own cc nL lev (@ite _ (0 < a1) dc m1 m2) pc lv (.int a1 :: st) σ := by
  intro a hm ok ls H locs hl hP hS
  by_cases hz : 0 < a1
  · rw [if_pos hz] at hm
    refine lv_if_gt (tgt := tgt) ok.1 ok.2.1 d ht (fun h => ?_) (fun h => ?_)
    · exact k1 a hm ok ls H locs hl hP hS
    · exact absurd hz (h)
  · rw [if_neg hz] at hm
    refine lv_if_gt (tgt := tgt) ok.1 ok.2.1 d ht (fun h => ?_) (fun h => ?_)
    · exact absurd (h) hz
    · exact k2 a hm ok ls H locs hl hP hS
theorem zj_if_le {a1 : Int32} {off : Int} {tgt : Nat} {m1 m2 : Option α} {dc : Decidable (0 < a1)} (d : decode cc pc = .ok (.ifCond .le off, 3)) (ht : (pc : Int) + off = (tgt : Int)) (k1 : zJ Qf w x own cc nL lev m1 (pc + 3) lv (st) σ) (k2 : zJ Qf w x own cc nL lev m2 tgt lv (st) σ) : zJ Qf w x own cc nL lev (@ite _ (0 < a1) dc m1 m2) pc lv (.int a1 :: st) σ := by
  intro a hm ok ls H locs hl hP hS
  by_cases hz : 0 < a1
  · rw [if_pos hz] at hm
    refine lv_if_le (tgt := tgt) ok.1 ok.2.1 d ht (fun h => ?_) (fun h => ?_)
    · exact absurd hz (Int32.not_lt.mpr h)
    · exact k1 a hm ok ls H locs hl hP hS
  · rw [if_neg hz] at hm
    refine lv_if_le (tgt := tgt) ok.1 ok.2.1 d ht (fun h => ?_) (fun h => ?_)
    · exact k2 a hm ok ls H locs hl hP hS
    · exact absurd (Int32.not_le.mp h) hz
theorem zj_icmp_eq {a1 a2 : Int32} {off : Int} {tgt : Nat} {m1 m2 : Option α} {dc : Decidable (a1 = a2)} (d : decode cc pc = .ok (.if_icmp .eq off, 3)) (ht : (pc : Int) + off = (tgt : Int)) (k1 : zJ Qf w x own cc nL lev m1 tgt lv (st) σ) (k2 : zJ Qf w x own cc nL lev m2 (pc + 3) lv (st) σ) : zJ Qf w x own cc nL lev (@ite _ (a1 = a2) dc m1 m2) pc lv (.int a2 :: .int a1 :: st) σ := by
  intro a hm ok ls H locs hl hP hS
  by_cases hz : a1 = a2
  · rw [if_pos hz] at hm
    refine lv_icmp_eq (tgt := tgt) ok.1 ok.2.1 d ht (fun h => ?_) (fun h => ?_)
    · exact k1 a hm ok ls H locs hl hP hS
    · exact absurd hz (h)
  · rw [if_neg hz] at hm
    refine lv_icmp_eq (tgt := tgt) ok.1 ok.2.1 d ht (fun h => ?_) (fun h => ?_)
    · exact absurd (h) hz
    · exact k2 a hm ok ls H locs hl hP hS
theorem zj_icmp_ne {a1 a2 : Int32} {off : Int} {tgt : Nat} {m1 m2 : Option α} {dc : Decidable (a1 = a2)} (d : decode cc pc = .ok (.if_icmp .ne off, 3)) (ht : (pc : Int) + off = (tgt : Int)) (k1 : zJ Qf w x own cc nL lev m1 (pc + 3) lv (st) σ) (k2 : zJ Qf w x own cc nL lev m2 tgt lv (st) σ) : zJ Qf w x own cc nL lev (@ite _ (a1 = a2) dc m1 m2) pc lv (.int a2 :: .int a1 :: st) σ := by
  intro a hm ok ls H locs hl hP hS
  by_cases hz : a1 = a2
  · rw [if_pos hz] at hm
    refine lv_icmp_ne (tgt := tgt) ok.1 ok.2.1 d ht (fun h => ?_) (fun h => ?_)
    · exact absurd hz (h)
    · exact k1 a hm ok ls H locs hl hP hS
  · rw [if_neg hz] at hm
    refine lv_icmp_ne (tgt := tgt) ok.1 ok.2.1 d ht (fun h => ?_) (fun h => ?_)
    · exact k2 a hm ok ls H locs hl hP hS
    · exact absurd (h) hz
theorem zj_icmp_lt {a1 a2 : Int32} {off : Int} {tgt : Nat} {m1 m2 : Option α} {dc : Decidable (a1 < a2)} (d : decode cc pc = .ok (.if_icmp .lt off, 3)) (ht : (pc : Int) + off = (tgt : Int)) (k1 : zJ Qf w x own cc nL lev m1 tgt lv (st) σ) (k2 : zJ Qf w x own cc nL lev m2 (pc + 3) lv (st) σ) : zJ Qf w x own cc nL lev (@ite _ (a1 < a2) dc m1 m2) pc lv (.int a2 :: .int a1 :: st) σ := by
  intro a hm ok ls H locs hl hP hS
  by_cases hz : a1 < a2
  · rw [if_pos hz] at hm
    refine lv_icmp_lt (tgt := tgt) ok.1 ok.2.1 d ht (fun h => ?_) (fun h => ?_)
    · exact k1 a hm ok ls H locs hl hP hS
    · exact absurd hz (h)
  · rw [if_neg hz] at hm
    refine lv_icmp_lt (tgt := tgt) ok.1 ok.2.1 d ht (fun h => ?_) (fun h => ?_)
    · exact absurd (h) hz
    · exact k2 a hm ok ls H locs hl hP hS
theorem zj_icmp_ge {a1 a2 : Int32} {off : Int} {tgt : Nat} {m1 m2 : Option α} {dc : Decidable (a1 < a2)} (d : decode cc pc = .ok (.if_icmp .ge off, 3)) (ht : (pc : Int) + off = (tgt : Int)) (k1 : zJ Qf w x own cc nL lev m1 (pc + 3) lv (st) σ) (k2 : zJ Qf w x own cc nL lev m2 tgt lv (st) σ) : zJ Qf w x own cc nL lev (@ite _ (a1 < a2) dc m1 m2) pc lv (.int a2 :: .int a1 :: st) σ := by
  intro a hm ok ls H locs hl hP hS
  by_cases hz : a1 < a2
  · rw [if_pos hz] at hm
    refine lv_icmp_ge (tgt := tgt) ok.1 ok.2.1 d ht (fun h => ?_) (fun h => ?_)
    · exact absurd hz (Int32.not_lt.mpr h)
    · exact k1 a hm ok ls H locs hl hP hS
  · rw [if_neg hz] at hm
    refine lv_icmp_ge (tgt := tgt) ok.1 ok.2.1 d ht (fun h => ?_) (fun h => ?_)
    · exact k2 a hm ok ls H locs hl hP hS
    · exact absurd (Int32.not_le.mp h) hz
theorem zj_icmp_gt {a1 a2 : Int32} {off : Int} {tgt : Nat} {m1 m2 : Option α} {dc : Decidable (a2 < a1)} (d : decode cc pc = .ok (.if_icmp .gt off, 3)) (ht : (pc : Int) + off = (tgt : Int)) (k1 : zJ Qf w x own cc nL lev m1 tgt lv (st) σ) (k2 : zJ Qf w x own cc nL lev m2 (pc + 3) lv (st) σ) : zJ Qf w x own cc nL lev (@ite _ (a2 < a1) dc m1 m2) pc lv (.int a2 :: .int a1 :: st) σ := by
  intro a hm ok ls H locs hl hP hS
  by_cases hz : a2 < a1
  · rw [if_pos hz] at hm
    refine lv_icmp_gt (tgt := tgt) ok.1 ok.2.1 d ht (fun h => ?_) (fun h => ?_)
    · exact k1 a hm ok ls H locs hl hP hS
    · exact absurd hz (h)
  · rw [if_neg hz] at hm
    refine lv_icmp_gt (tgt := tgt) ok.1 ok.2.1 d ht (fun h => ?_) (fun h => ?_)
    · exact absurd (h) hz
    · exact k2 a hm ok ls H locs hl hP hS
theorem zj_icmp_le {a1 a2 : Int32} {off : Int} {tgt : Nat} {m1 m2 : Option α} {dc : Decidable (a2 < a1)} (d : decode cc pc = .ok (.if_icmp .le off, 3)) (ht : (pc : Int) + off = (tgt : Int)) (k1 : zJ Qf w x own cc nL lev m1 (pc + 3) lv (st) σ) (k2 : zJ Qf w x own cc nL lev m2 tgt lv (st) σ) : zJ Qf w x own cc nL lev (@ite _ (a2 < a1) dc m1 m2) pc lv (.int a2 :: .int a1 :: st) σ := by
  intro a hm ok ls H locs hl hP hS
  by_cases hz : a2 < a1
  · rw [if_pos hz] at hm
    refine lv_icmp_le (tgt := tgt) ok.1 ok.2.1 d ht (fun h => ?_) (fun h => ?_)
    · exact absurd hz (Int32.not_lt.mpr h)
    · exact k1 a hm ok ls H locs hl hP hS
  · rw [if_neg hz] at hm
    refine lv_icmp_le (tgt := tgt) ok.1 ok.2.1 d ht (fun h => ?_) (fun h => ?_)
    · exact k2 a hm ok ls H locs hl hP hS
    · exact absurd (Int32.not_le.mp h) hz
theorem zj_lcmp_eq {a1 a2 : Int64} {off : Int} {tgt : Nat} {m1 m2 : Option α} {dc : Decidable (a1 = a2)} (d : decode cc pc = .ok (.lcmp, 1)) (d2 : decode cc (pc + 1) = .ok (.ifCond .eq off, 3)) (ht : ((pc + 1 : Nat) : Int) + off = (tgt : Int)) (k1 : zJ Qf w x own cc nL lev m1 tgt lv (st) σ) (k2 : zJ Qf w x own cc nL lev m2 (pc + 1 + 3) lv (st) σ) : zJ Qf w x own cc nL lev (@ite _ (a1 = a2) dc m1 m2) pc lv (.long a2 :: .long a1 :: st) σ := by
  intro a hm ok ls H locs hl hP hS
  refine W.lcmp ok.1 ok.2.1 d ?_
  have e : (@ite _ (a1 = a2) dc m1 m2) = (if lg_cmp a1 a2 = 0 then m1 else m2) := by
    by_cases hz : a1 = a2
    · rw [if_pos hz, if_pos ((lg_cmp_eq a1 a2).mpr hz)]
    · rw [if_neg hz, if_neg (fun q => hz ((lg_cmp_eq a1 a2).mp q))]
  rw [e] at hm
  exact zj_if_eq (tgt := tgt) d2 ht k1 k2 a hm ok ls H locs hl hP hS
theorem zj_lcmp_ne {a1 a2 : Int64} {off : Int} {tgt : Nat} {m1 m2 : Option α} {dc : Decidable (a1 = a2)} (d : decode cc pc = .ok (.lcmp, 1)) (d2 : decode cc (pc + 1) = .ok (.ifCond .ne off, 3)) (ht : ((pc + 1 : Nat) : Int) + off = (tgt : Int)) (k1 : zJ Qf w x own cc nL lev m1 (pc + 1 + 3) lv (st) σ) (k2 : zJ Qf w x own cc nL lev m2 tgt lv (st) σ) : zJ Qf w x own cc nL lev (@ite _ (a1 = a2) dc m1 m2) pc lv (.long a2 :: .long a1 :: st) σ := by
  intro a hm ok ls H locs hl hP hS
  refine W.lcmp ok.1 ok.2.1 d ?_
  have e : (@ite _ (a1 = a2) dc m1 m2) = (if lg_cmp a1 a2 = 0 then m1 else m2) := by
    by_cases hz : a1 = a2
    · rw [if_pos hz, if_pos ((lg_cmp_eq a1 a2).mpr hz)]
    · rw [if_neg hz, if_neg (fun q => hz ((lg_cmp_eq a1 a2).mp q))]
  rw [e] at hm
  exact zj_if_ne (tgt := tgt) d2 ht k1 k2 a hm ok ls H locs hl hP hS
theorem zj_lcmp_lt {a1 a2 : Int64} {off : Int} {tgt : Nat} {m1 m2 : Option α} {dc : Decidable (a1 < a2)} (d : decode cc pc = .ok (.lcmp, 1)) (d2 : decode cc (pc + 1) = .ok (.ifCond .lt off, 3)) (ht : ((pc + 1 : Nat) : Int) + off = (tgt : Int)) (k1 : zJ Qf w x own cc nL lev m1 tgt lv (st) σ) (k2 : zJ Qf w x own cc nL lev m2 (pc + 1 + 3) lv (st) σ) : zJ Qf w x own cc nL lev (@ite _ (a1 < a2) dc m1 m2) pc lv (.long a2 :: .long a1 :: st) σ := by
  intro a hm ok ls H locs hl hP hS
  refine W.lcmp ok.1 ok.2.1 d ?_
  have e : (@ite _ (a1 < a2) dc m1 m2) = (if lg_cmp a1 a2 < 0 then m1 else m2) := by
    by_cases hz : a1 < a2
    · rw [if_pos hz, if_pos ((lg_cmp_lt a1 a2).mpr hz)]
    · rw [if_neg hz, if_neg (fun q => hz ((lg_cmp_lt a1 a2).mp q))]
  rw [e] at hm
  exact zj_if_lt (tgt := tgt) d2 ht k1 k2 a hm ok ls H locs hl hP hS
theorem zj_lcmp_ge {a1 a2 : Int64} {off : Int} {tgt : Nat} {m1 m2 : Option α} {dc : Decidable (a1 < a2)} (d : decode cc pc = .ok (.lcmp, 1)) (d2 : decode cc (pc + 1) = .ok (.ifCond .ge off, 3)) (ht : ((pc + 1 : Nat) : Int) + off = (tgt : Int)) (k1 : zJ Qf w x own cc nL lev m1 (pc + 1 + 3) lv (st) σ) (k2 : zJ Qf w x own cc nL lev m2 tgt lv (st) σ) : zJ Qf w x own cc nL lev (@ite _ (a1 < a2) dc m1 m2) pc lv (.long a2 :: .long a1 :: st) σ := by
  intro a hm ok ls H locs hl hP hS
  refine W.lcmp ok.1 ok.2.1 d ?_
  have e : (@ite _ (a1 < a2) dc m1 m2) = (if lg_cmp a1 a2 < 0 then m1 else m2) := by
    by_cases hz : a1 < a2
    · rw [if_pos hz, if_pos ((lg_cmp_lt a1 a2).mpr hz)]
    · rw [if_neg hz, if_neg (fun q => hz ((lg_cmp_lt a1 a2).mp q))]
  rw [e] at hm
  exact zj_if_ge (tgt := tgt) d2 ht k1 k2 a hm ok ls H locs hl hP hS
theorem zj_lcmp_gt {a1 a2 : Int64} {off : Int} {tgt : Nat} {m1 m2 : Option α} {dc : Decidable (a2 < a1)} (d : decode cc pc = .ok (.lcmp, 1)) (d2 : decode cc (pc + 1) = .ok (.ifCond .gt off, 3)) (ht : ((pc + 1 : Nat) : Int) + off = (tgt : Int)) (k1 : zJ Qf w x own cc nL lev m1 tgt lv (st) σ) (k2 : zJ Qf w x own cc nL lev m2 (pc + 1 + 3) lv (st) σ) : zJ Qf w x own cc nL lev (@ite _ (a2 < a1) dc m1 m2) pc lv (.long a2 :: .long a1 :: st) σ := by
  intro a hm ok ls H locs hl hP hS
  refine W.lcmp ok.1 ok.2.1 d ?_
  have e : (@ite _ (a2 < a1) dc m1 m2) = (if 0 < lg_cmp a1 a2 then m1 else m2) := by
    by_cases hz : a2 < a1
    · rw [if_pos hz, if_pos ((lg_cmp_gt a1 a2).mpr hz)]
    · rw [if_neg hz, if_neg (fun q => hz ((lg_cmp_gt a1 a2).mp q))]
  rw [e] at hm
  exact zj_if_gt (tgt := tgt) d2 ht k1 k2 a hm ok ls H locs hl hP hS
theorem zj_lcmp_le {a1 a2 : Int64} {off : Int} {tgt : Nat} {m1 m2 : Option α} {dc : Decidable (a2 < a1)} (d : decode cc pc = .ok (.lcmp, 1)) (d2 : decode cc (pc + 1) = .ok (.ifCond .le off, 3)) (ht : ((pc + 1 : Nat) : Int) + off = (tgt : Int)) (k1 : zJ Qf w x own cc nL lev m1 (pc + 1 + 3) lv (st) σ) (k2 : zJ Qf w x own cc nL lev m2 tgt lv (st) σ) : zJ Qf w x own cc nL lev (@ite _ (a2 < a1) dc m1 m2) pc lv (.long a2 :: .long a1 :: st) σ := by
  intro a hm ok ls H locs hl hP hS
  refine W.lcmp ok.1 ok.2.1 d ?_
  have e : (@ite _ (a2 < a1) dc m1 m2) = (if 0 < lg_cmp a1 a2 then m1 else m2) := by
    by_cases hz : a2 < a1
    · rw [if_pos hz, if_pos ((lg_cmp_gt a1 a2).mpr hz)]
    · rw [if_neg hz, if_neg (fun q => hz ((lg_cmp_gt a1 a2).mp q))]
  rw [e] at hm
  exact zj_if_le (tgt := tgt) d2 ht k1 k2 a hm ok ls H locs hl hP hS
theorem zj_split {c : Prop} {m1 m2 : Option α} {dc : Decidable c} (k1 : c → zJ Qf w x own cc nL lev m1 pc lv st σ) (k2 : ¬ c → zJ Qf w x own cc nL lev m2 pc lv st σ) : zJ Qf w x own cc nL lev (@ite _ c dc m1 m2) pc lv st σ := by
  intro a hm
  by_cases hz : c
  · rw [if_pos hz] at hm; exact k1 hz a hm
  · rw [if_neg hz] at hm; exact k2 hz a hm
theorem zj_guard {c : Prop} {dc : Decidable c} (k2 : ¬ c → zJ Qf w x own cc nL lev m pc lv st σ) : zJ Qf w x own cc nL lev (@ite _ c dc none m) pc lv st σ := zj_split (fun _ => zj_none) k2
theorem zj_tsIn {dflt lo hi : Int} {offs : Array Int} {len : Nat} {v : Int32} {off : Int} {tgt : Nat} (d : decode cc pc = .ok (.tableswitch dflt lo hi offs, len)) (h1 : ¬ v.toInt < lo) (h2 : ¬ hi < v.toInt) (ho : offs[(v.toInt - lo).toNat]? = some off) (ht : (pc : Int) + off = (tgt : Int)) (kk : zJ Qf w x own cc nL lev m tgt lv (st) σ) : zJ Qf w x own cc nL lev m pc lv (.int v :: st) σ := by
  intro a hm ok ls H locs hl hP hS
  exact lv_tableIn ok.1 ok.2.1 d h1 h2 ho ht (kk a hm ok ls H locs hl hP hS)
theorem zj_tsOut {dflt lo hi : Int} {offs : Array Int} {len : Nat} {v : Int32} {tgt : Nat} (d : decode cc pc = .ok (.tableswitch dflt lo hi offs, len)) (h : v.toInt < lo ∨ hi < v.toInt) (ht : (pc : Int) + dflt = (tgt : Int)) (kk : zJ Qf w x own cc nL lev m tgt lv (st) σ) : zJ Qf w x own cc nL lev m pc lv (.int v :: st) σ := by
  intro a hm ok ls H locs hl hP hS
  exact lv_tableOut ok.1 ok.2.1 d h ht (kk a hm ok ls H locs hl hP hS)
theorem zj_lsw {dflt : Int} {ps : Array (Int × Int)} {len : Nat} {v : Int32} {off : Int} {tgt : Nat} (d : decode cc pc = .ok (.lookupswitch dflt ps, len)) (hp : (ps.toList.zip (ps.toList.drop 1)).all (fun (a, next) => a.1 < next.1) = true) (ho : Op.lookupswitch.offset ps.toList dflt v.toInt = off) (ht : (pc : Int) + off = (tgt : Int)) (kk : zJ Qf w x own cc nL lev m tgt lv (st) σ) : zJ Qf w x own cc nL lev m pc lv (.int v :: st) σ := by
  intro a hm ok ls H locs hl hP hS
  exact lv_lookup ok.1 ok.2.1 d hp ho ht (kk a hm ok ls H locs hl hP hS)
/-- the link of a field: which class, which field -/
def zFL (own : String) (idx ci k : Nat) : Prop := ci < 10 ∧ ∃ (C : String) (T : u_T) (N : Nat) (ty0 : Nat → FieldType), vwCl[ci]? = some (C, T, N) ∧ k < N ∧ Cond.fieldLink own idx (T k).1 (T k).2.1 (T k).2.2.1 ∈ ztb ∧ (∀ q ∈ u_ws C T N, q ∈ ztb) ∧ (∀ k, k < N → parseFieldDescriptor (T k).2.2.1 = some (ty0 k)) ∧ (∀ a, a < N → ∀ b, b < N → a ≠ b → (T a).2.1 ≠ (T b).2.1) ∧ (∀ o, zC o = ci → zN o = N)
theorem zN_cls (P : Nat → Bool) (h : (List.range 108).all P = true) {c v : Nat} (hc : ∀ o : Nat, P o = true → zC o = c → zN o = v) (h9 : c < 99 := by decide) : ∀ o : Nat, zC o = c → zN o = v := fun o ho => hc o (List.all_eq_true.mp h o (List.mem_range.mpr (zC_lt (by omega)))) ho
theorem zcell {o ci : Nat} (ho : zC o = ci) (hc : ci < 99) : (zW w σ)[o]? = some (zb w + o, zE w σ o) := zW_at w σ (zC_lt (by omega))
theorem zj_get {ci k idx o : Nat} {v : Value} (d : decode cc pc = .ok (.getfield idx, 3)) (hf : zFL own idx ci k) (ho : zC o = ci) (hv : zV w σ o ci k = v) (kk : zJ Qf w x own cc nL lev m (pc + 3) lv (v :: st) σ) : zJ Qf w x own cc nL lev m pc lv (.ref (zb w + o) :: st) σ := by
  intro a hm ok ls H locs hl hP hS
  obtain ⟨h10, C, T, N, ty0, hc, hk, hlk, hin, hty, hnm, hN⟩ := hf
  have hcell := zcell (w := w) (σ := σ) ho (by omega)
  rw [zE_O ho h10] at hcell
  refine va_get (D := zD w) (ci := ci) (v := v) (C := C) (T := T) (N := N) ok.1 ok.2.1 ok.2.2.2.2.1 hin ok.2.2.2.1 ok.2.2.2.2.2.1.1 hP o hcell hc k hk (ok.2.2.2.2.1 _ hlk) (fun _ h => h) ?_ d (kk a hm ok ls H locs hl hP hS)
  rw [List.getElem?_map, List.getElem?_range (by rw [hN o ho]; exact hk), ← hv]
  rfl
theorem zj_getI {ci k idx o : Nat} (d : decode cc pc = .ok (.getfield idx, 3)) (hf : zFL own idx ci k) (hk : zF ci k = 0) (ho : zC o = ci) (kk : zJ Qf w x own cc nL lev m (pc + 3) lv (.int (zI σ o k) :: st) σ) : zJ Qf w x own cc nL lev m pc lv (.ref (zb w + o) :: st) σ := zj_get d hf ho (zV_I hk) kk
theorem zj_getL {ci k idx o : Nat} (d : decode cc pc = .ok (.getfield idx, 3)) (hf : zFL own idx ci k) (hk : zF ci k = 1) (ho : zC o = ci) (kk : zJ Qf w x own cc nL lev m (pc + 3) lv (.long (zL σ o k) :: st) σ) : zJ Qf w x own cc nL lev m pc lv (.ref (zb w + o) :: st) σ := zj_get d hf ho (zV_L hk) kk
theorem zj_getT {ci k idx o : Nat} (d : decode cc pc = .ok (.getfield idx, 3)) (hf : zFL own idx ci k) (hk : zF ci k = 2) (ho : zC o = ci) (kk : zJ Qf w x own cc nL lev m (pc + 3) lv (.ref (zb w + zT o k) :: st) σ) : zJ Qf w x own cc nL lev m pc lv (.ref (zb w + o) :: st) σ := zj_get d hf ho (zV_T hk) kk
theorem zj_getR {ci k idx o : Nat} (d : decode cc pc = .ok (.getfield idx, 3)) (hf : zFL own idx ci k) (hk : zF ci k = 3) (ho : zC o = ci) (kk : zJ Qf w x own cc nL lev m (pc + 3) lv (.ref (zb w + zR σ o k) :: st) σ) : zJ Qf w x own cc nL lev m pc lv (.ref (zb w + o) :: st) σ := zj_get d hf ho (zV_R hk) kk
theorem zj_putI {ci k idx o : Nat} {v : Int32} {ty : FieldType} {f : zSt → Option α} (d : decode cc pc = .ok (.putfield idx, 3)) (hf : zFL own idx ci k) (hk : zF ci k = 0) (ho : zC o = ci) (hd : ∀ C T N, vwCl[ci]? = some (C, T, N) → (T k).2.2.2 = false ∧ parseFieldDescriptor (T k).2.2.1 = some ty) (hn : narrow ty (.int v) = .int v) (hfit : fits ty (.int v) = true) (kk : ∀ σ', zJ Qf w x own cc nL lev (f σ') (pc + 3) lv st σ') : zJ Qf w x own cc nL lev (zlt (zsI σ o k v) f) pc lv (.int v :: .ref (zb w + o) :: st) σ := by
  intro a hm ok ls H locs hl hP hS
  obtain ⟨h10, C, T, N, ty0, hc, hkN, hlk, hin, hty, hnm, hN⟩ := hf
  have hcell := zcell (w := w) (σ := σ) ho (by omega)
  rw [zE_O ho h10] at hcell
  obtain ⟨hd1, hd2⟩ := hd C T N hc
  refine va_put (D := zD w) (A := zA w) (ci := ci) (v := .int v) (ty := ty) (C := C) (T := T) (N := N) ok.1 ok.2.1 ok.2.2.2.2.1 hin ty0 hty hnm ok.2.2.2.1 ok.2.2.2.2.2.1.1 hP (zW_D w σ) hS o hcell hc k hkN (ok.2.2.2.2.1 _ hlk) (fun _ h => h) hd1 hd2 hn hfit (by simp [hN o ho]; exact hkN) d (fun H1 locs1 hP1 hD1 hS1 => kk (zsI σ o k v) a hm ok ls H1 locs1 hl ?_ hS1)
  rw [zW_set w (σ' := zsI σ o k v) (zC_lt (by omega)) ?_ (fun j hj => zE_ne_I hj)] at hP1
  · exact hP1
  · rw [zE_O ho h10, zset_f (g := zV w (zsI σ o k v) o ci) ?_ (fun j hj => zV_sI hj)]
    rw [zV_I hk]
    simp [zI_sI]
theorem zj_putL {ci k idx o : Nat} {v : Int64} {ty : FieldType} {f : zSt → Option α} (d : decode cc pc = .ok (.putfield idx, 3)) (hf : zFL own idx ci k) (hk : zF ci k = 1) (ho : zC o = ci) (hd : ∀ C T N, vwCl[ci]? = some (C, T, N) → (T k).2.2.2 = false ∧ parseFieldDescriptor (T k).2.2.1 = some ty) (hn : narrow ty (.long v) = .long v) (hfit : fits ty (.long v) = true) (kk : ∀ σ', zJ Qf w x own cc nL lev (f σ') (pc + 3) lv st σ') : zJ Qf w x own cc nL lev (zlt (zsL σ o k v) f) pc lv (.long v :: .ref (zb w + o) :: st) σ := by
  intro a hm ok ls H locs hl hP hS
  obtain ⟨h10, C, T, N, ty0, hc, hkN, hlk, hin, hty, hnm, hN⟩ := hf
  have hcell := zcell (w := w) (σ := σ) ho (by omega)
  rw [zE_O ho h10] at hcell
  obtain ⟨hd1, hd2⟩ := hd C T N hc
  refine va_put (D := zD w) (A := zA w) (ci := ci) (v := .long v) (ty := ty) (C := C) (T := T) (N := N) ok.1 ok.2.1 ok.2.2.2.2.1 hin ty0 hty hnm ok.2.2.2.1 ok.2.2.2.2.2.1.1 hP (zW_D w σ) hS o hcell hc k hkN (ok.2.2.2.2.1 _ hlk) (fun _ h => h) hd1 hd2 hn hfit (by simp [hN o ho]; exact hkN) d (fun H1 locs1 hP1 hD1 hS1 => kk (zsL σ o k v) a hm ok ls H1 locs1 hl ?_ hS1)
  rw [zW_set w (σ' := zsL σ o k v) (zC_lt (by omega)) ?_ (fun j hj => zE_ne_L hj)] at hP1
  · exact hP1
  · rw [zE_O ho h10, zset_f (g := zV w (zsL σ o k v) o ci) ?_ (fun j hj => zV_sL hj)]
    rw [zV_L hk]
    simp [zL_sL]
theorem zj_putR {ci k idx o : Nat} {v : Nat} {ty : FieldType} {f : zSt → Option α} (d : decode cc pc = .ok (.putfield idx, 3)) (hf : zFL own idx ci k) (hk : zF ci k = 3) (ho : zC o = ci) (hd : ∀ C T N, vwCl[ci]? = some (C, T, N) → (T k).2.2.2 = false ∧ parseFieldDescriptor (T k).2.2.1 = some ty) (hn : narrow ty (.ref (zb w + v)) = .ref (zb w + v)) (hfit : fits ty (.ref (zb w + v)) = true) (kk : ∀ σ', zJ Qf w x own cc nL lev (f σ') (pc + 3) lv st σ') : zJ Qf w x own cc nL lev (zlt (zsR σ o k v) f) pc lv (.ref (zb w + v) :: .ref (zb w + o) :: st) σ := by
  intro a hm ok ls H locs hl hP hS
  obtain ⟨h10, C, T, N, ty0, hc, hkN, hlk, hin, hty, hnm, hN⟩ := hf
  have hcell := zcell (w := w) (σ := σ) ho (by omega)
  rw [zE_O ho h10] at hcell
  obtain ⟨hd1, hd2⟩ := hd C T N hc
  refine va_put (D := zD w) (A := zA w) (ci := ci) (v := .ref (zb w + v)) (ty := ty) (C := C) (T := T) (N := N) ok.1 ok.2.1 ok.2.2.2.2.1 hin ty0 hty hnm ok.2.2.2.1 ok.2.2.2.2.2.1.1 hP (zW_D w σ) hS o hcell hc k hkN (ok.2.2.2.2.1 _ hlk) (fun _ h => h) hd1 hd2 hn hfit (by simp [hN o ho]; exact hkN) d (fun H1 locs1 hP1 hD1 hS1 => kk (zsR σ o k v) a hm ok ls H1 locs1 hl ?_ hS1)
  rw [zW_set w (σ' := zsR σ o k v) (zC_lt (by omega)) ?_ (fun j hj => zE_ne_R hj)] at hP1
  · exact hP1
  · rw [zE_O ho h10, zset_f (g := zV w (zsR σ o k v) o ci) ?_ (fun j hj => zV_sR hj)]
    rw [zV_R hk]
    simp [zR_sR]
theorem zj_iald {o : Nat} {i : Int32} {dc : Decidable (i < 0 ∨ zN o ≤ i.toNatClampNeg)} (d : decode cc pc = .ok (.iaload, 1)) (ho : zC o = 11) (kk : zJ Qf w x own cc nL lev m (pc + 1) lv (.int (zI σ o i.toNatClampNeg) :: st) σ) : zJ Qf w x own cc nL lev (@ite _ (i < 0 ∨ zN o ≤ i.toNatClampNeg) dc none m) pc lv (.int i :: .ref (zb w + o) :: st) σ := by
  refine zj_guard (fun hz => ?_)
  intro a hm ok ls H locs hl hP hS
  have hcell := zcell (w := w) (σ := σ) ho (by omega)
  rw [zE_I ho] at hcell
  exact va_iald ok.1 ok.2.1 ok.2.2.2.2.2.1.1 hP o 1 hcell rfl hz d (kk a hm ok ls H locs hl hP hS)
theorem zj_bald {o : Nat} {i : Int32} {dc : Decidable (i < 0 ∨ zN o ≤ i.toNatClampNeg)} (d : decode cc pc = .ok (.baload, 1)) (ho : zC o = 10) (kk : zJ Qf w x own cc nL lev m (pc + 1) lv (.int (zI σ o i.toNatClampNeg) :: st) σ) : zJ Qf w x own cc nL lev (@ite _ (i < 0 ∨ zN o ≤ i.toNatClampNeg) dc none m) pc lv (.int i :: .ref (zb w + o) :: st) σ := by
  refine zj_guard (fun hz => ?_)
  intro a hm ok ls H locs hl hP hS
  have hcell := zcell (w := w) (σ := σ) ho (by omega)
  rw [zE_B ho] at hcell
  exact va_bald ok.1 ok.2.1 ok.2.2.2.2.2.1.1 hP o 0 hcell rfl hz d (kk a hm ok ls H locs hl hP hS)
theorem zj_zald {o : Nat} {i : Int32} {dc : Decidable (i < 0 ∨ zN o ≤ i.toNatClampNeg)} (d : decode cc pc = .ok (.baload, 1)) (ho : zC o = 13) (kk : zJ Qf w x own cc nL lev m (pc + 1) lv (.int (zI σ o i.toNatClampNeg) :: st) σ) : zJ Qf w x own cc nL lev (@ite _ (i < 0 ∨ zN o ≤ i.toNatClampNeg) dc none m) pc lv (.int i :: .ref (zb w + o) :: st) σ := by
  refine zj_guard (fun hz => ?_)
  intro a hm ok ls H locs hl hP hS
  have hcell := zcell (w := w) (σ := σ) ho (by omega)
  rw [zE_Z ho] at hcell
  exact va_zald ok.1 ok.2.1 ok.2.2.2.2.2.1.1 hP o 3 hcell rfl hz d (kk a hm ok ls H locs hl hP hS)
theorem zj_lald {o : Nat} {i : Int32} {dc : Decidable (i < 0 ∨ zN o ≤ i.toNatClampNeg)} (d : decode cc pc = .ok (.laload, 1)) (ho : zC o = 12) (kk : zJ Qf w x own cc nL lev m (pc + 1) lv (.long (zL σ o i.toNatClampNeg) :: st) σ) : zJ Qf w x own cc nL lev (@ite _ (i < 0 ∨ zN o ≤ i.toNatClampNeg) dc none m) pc lv (.int i :: .ref (zb w + o) :: st) σ := by
  refine zj_guard (fun hz => ?_)
  intro a hm ok ls H locs hl hP hS
  have hcell := zcell (w := w) (σ := σ) ho (by omega)
  rw [zE_J ho] at hcell
  exact va_lald ok.1 ok.2.1 ok.2.2.2.2.2.1.1 hP o 2 hcell rfl hz d (kk a hm ok ls H locs hl hP hS)
theorem zj_iast {o : Nat} {i : Int32} {v : Int32} {f : zSt → Option α} {dc : Decidable (i < 0 ∨ zN o ≤ i.toNatClampNeg)} (d : decode cc pc = .ok (.iastore, 1)) (ho : zC o = 11) (kk : ∀ σ', zJ Qf w x own cc nL lev (f σ') (pc + 1) lv st σ') : zJ Qf w x own cc nL lev (@ite _ (i < 0 ∨ zN o ≤ i.toNatClampNeg) dc none (zlt (zsI σ o i.toNatClampNeg (v)) f)) pc lv (.int v :: .int i :: .ref (zb w + o) :: st) σ := by
  refine zj_guard (fun hz => ?_)
  intro a hm ok ls H locs hl hP hS
  have hcell := zcell (w := w) (σ := σ) ho (by omega)
  rw [zE_I ho] at hcell
  refine va_iast ok.1 ok.2.1 ok.2.2.2.2.2.1.1 hP (zW_D w σ) hS o 1 hcell rfl hz d (fun H1 locs1 hP1 hD1 hS1 => kk _ a hm ok ls H1 locs1 hl ?_ hS1)
  rw [zW_set w (σ' := zsI σ o i.toNatClampNeg (v)) (zC_lt (by omega)) ?_ (fun j hj => zE_ne_I hj)] at hP1
  · exact hP1
  · rw [zE_I ho]
    have e : zI (zsI σ o i.toNatClampNeg (v)) o = upd (zI σ o) i.toNatClampNeg (v) := by
      funext q
      by_cases hq : q = i.toNatClampNeg
      · subst hq
        simp [zI_sI, upd]
      · simp [zI_sI, upd, hq]
    rw [e]
theorem zj_bast {o : Nat} {i : Int32} {v : Int32} {f : zSt → Option α} {dc : Decidable (i < 0 ∨ zN o ≤ i.toNatClampNeg)} (d : decode cc pc = .ok (.bastore, 1)) (ho : zC o = 10) (kk : ∀ σ', zJ Qf w x own cc nL lev (f σ') (pc + 1) lv st σ') : zJ Qf w x own cc nL lev (@ite _ (i < 0 ∨ zN o ≤ i.toNatClampNeg) dc none (zlt (zsI σ o i.toNatClampNeg (vp_nar .byte v)) f)) pc lv (.int v :: .int i :: .ref (zb w + o) :: st) σ := by
  refine zj_guard (fun hz => ?_)
  intro a hm ok ls H locs hl hP hS
  have hcell := zcell (w := w) (σ := σ) ho (by omega)
  rw [zE_B ho] at hcell
  refine va_bast ok.1 ok.2.1 ok.2.2.2.2.2.1.1 hP (zW_D w σ) hS o 0 hcell rfl hz d (fun H1 locs1 hP1 hD1 hS1 => kk _ a hm ok ls H1 locs1 hl ?_ hS1)
  rw [zW_set w (σ' := zsI σ o i.toNatClampNeg (vp_nar .byte v)) (zC_lt (by omega)) ?_ (fun j hj => zE_ne_I hj)] at hP1
  · exact hP1
  · rw [zE_B ho]
    have e : zI (zsI σ o i.toNatClampNeg (vp_nar .byte v)) o = upd (zI σ o) i.toNatClampNeg (vp_nar .byte v) := by
      funext q
      by_cases hq : q = i.toNatClampNeg
      · subst hq
        simp [zI_sI, upd]
      · simp [zI_sI, upd, hq]
    rw [e]
theorem zj_zast {o : Nat} {i : Int32} {v : Int32} {f : zSt → Option α} {dc : Decidable (i < 0 ∨ zN o ≤ i.toNatClampNeg)} (d : decode cc pc = .ok (.bastore, 1)) (ho : zC o = 13) (kk : ∀ σ', zJ Qf w x own cc nL lev (f σ') (pc + 1) lv st σ') : zJ Qf w x own cc nL lev (@ite _ (i < 0 ∨ zN o ≤ i.toNatClampNeg) dc none (zlt (zsI σ o i.toNatClampNeg (vp_nar .boolean v)) f)) pc lv (.int v :: .int i :: .ref (zb w + o) :: st) σ := by
  refine zj_guard (fun hz => ?_)
  intro a hm ok ls H locs hl hP hS
  have hcell := zcell (w := w) (σ := σ) ho (by omega)
  rw [zE_Z ho] at hcell
  refine va_zast ok.1 ok.2.1 ok.2.2.2.2.2.1.1 hP (zW_D w σ) hS o 3 hcell rfl hz d (fun H1 locs1 hP1 hD1 hS1 => kk _ a hm ok ls H1 locs1 hl ?_ hS1)
  rw [zW_set w (σ' := zsI σ o i.toNatClampNeg (vp_nar .boolean v)) (zC_lt (by omega)) ?_ (fun j hj => zE_ne_I hj)] at hP1
  · exact hP1
  · rw [zE_Z ho]
    have e : zI (zsI σ o i.toNatClampNeg (vp_nar .boolean v)) o = upd (zI σ o) i.toNatClampNeg (vp_nar .boolean v) := by
      funext q
      by_cases hq : q = i.toNatClampNeg
      · subst hq
        simp [zI_sI, upd]
      · simp [zI_sI, upd, hq]
    rw [e]
theorem zj_last {o : Nat} {i : Int32} {v : Int64} {f : zSt → Option α} {dc : Decidable (i < 0 ∨ zN o ≤ i.toNatClampNeg)} (d : decode cc pc = .ok (.lastore, 1)) (ho : zC o = 12) (kk : ∀ σ', zJ Qf w x own cc nL lev (f σ') (pc + 1) lv st σ') : zJ Qf w x own cc nL lev (@ite _ (i < 0 ∨ zN o ≤ i.toNatClampNeg) dc none (zlt (zsL σ o i.toNatClampNeg (v)) f)) pc lv (.long v :: .int i :: .ref (zb w + o) :: st) σ := by
  refine zj_guard (fun hz => ?_)
  intro a hm ok ls H locs hl hP hS
  have hcell := zcell (w := w) (σ := σ) ho (by omega)
  rw [zE_J ho] at hcell
  refine va_last ok.1 ok.2.1 ok.2.2.2.2.2.1.1 hP (zW_D w σ) hS o 2 hcell rfl hz d (fun H1 locs1 hP1 hD1 hS1 => kk _ a hm ok ls H1 locs1 hl ?_ hS1)
  rw [zW_set w (σ' := zsL σ o i.toNatClampNeg (v)) (zC_lt (by omega)) ?_ (fun j hj => zE_ne_L hj)] at hP1
  · exact hP1
  · rw [zE_J ho]
    have e : zL (zsL σ o i.toNatClampNeg (v)) o = vp_updL (zL σ o) i.toNatClampNeg (v) := by
      funext q
      by_cases hq : q = i.toNatClampNeg
      · subst hq
        simp [zL_sL, vp_updL]
      · simp [zL_sL, vp_updL, hq]
    rw [e]
theorem zj_alen10 {o : Nat} (d : decode cc pc = .ok (.arraylength, 1)) (ho : zC o = 10) (kk : zJ Qf w x own cc nL lev m (pc + 1) lv (.int (Int32.ofNat (zN o)) :: st) σ) : zJ Qf w x own cc nL lev m pc lv (.ref (zb w + o) :: st) σ := by
  intro a hm ok ls H locs hl hP hS
  have hcell := zcell (w := w) (σ := σ) ho (by omega)
  rw [zE_B ho] at hcell
  exact va_alen ok.1 ok.2.1 ok.2.2.2.2.2.1.1 hP o 0 hcell rfl rfl d (kk a hm ok ls H locs hl hP hS)
theorem zj_alen11 {o : Nat} (d : decode cc pc = .ok (.arraylength, 1)) (ho : zC o = 11) (kk : zJ Qf w x own cc nL lev m (pc + 1) lv (.int (Int32.ofNat (zN o)) :: st) σ) : zJ Qf w x own cc nL lev m pc lv (.ref (zb w + o) :: st) σ := by
  intro a hm ok ls H locs hl hP hS
  have hcell := zcell (w := w) (σ := σ) ho (by omega)
  rw [zE_I ho] at hcell
  exact va_alen ok.1 ok.2.1 ok.2.2.2.2.2.1.1 hP o 1 hcell rfl rfl d (kk a hm ok ls H locs hl hP hS)
theorem zj_alen12 {o : Nat} (d : decode cc pc = .ok (.arraylength, 1)) (ho : zC o = 12) (kk : zJ Qf w x own cc nL lev m (pc + 1) lv (.int (Int32.ofNat (zN o)) :: st) σ) : zJ Qf w x own cc nL lev m pc lv (.ref (zb w + o) :: st) σ := by
  intro a hm ok ls H locs hl hP hS
  have hcell := zcell (w := w) (σ := σ) ho (by omega)
  rw [zE_J ho] at hcell
  exact va_alen ok.1 ok.2.1 ok.2.2.2.2.2.1.1 hP o 2 hcell rfl rfl d (kk a hm ok ls H locs hl hP hS)
theorem zj_alen13 {o : Nat} (d : decode cc pc = .ok (.arraylength, 1)) (ho : zC o = 13) (kk : zJ Qf w x own cc nL lev m (pc + 1) lv (.int (Int32.ofNat (zN o)) :: st) σ) : zJ Qf w x own cc nL lev m pc lv (.ref (zb w + o) :: st) σ := by
  intro a hm ok ls H locs hl hP hS
  have hcell := zcell (w := w) (σ := σ) ho (by omega)
  rw [zE_Z ho] at hcell
  exact va_alen ok.1 ok.2.1 ok.2.2.2.2.2.1.1 hP o 3 hcell rfl rfl d (kk a hm ok ls H locs hl hP hS)
theorem zj_getsUNTOLD {idx : Nat} (d : decode cc pc = .ok (.getstatic idx, 3)) (hn : (own, idx, "LeadBalls", "UNTOLD_SETTING", "[I", "LeadBalls") ∈ zNF) (kk : zJ Qf w x own cc nL lev m (pc + 3) lv (.ref (ztU w) :: st) σ) : zJ Qf w x own cc nL lev m pc lv (st) σ := by
  intro a hm ok ls H locs hl hP hS
  exact va_getsN (A := zA w) ok.1 ok.2.1 ok.2.2.2.2.2.2.1.1.1 hS ok.2.2.2.1 (va_Nw.use rfl (ok.2.2.2.2.2.1.2.2 _ hn)) (fun _ h => h) d (kk a hm ok ls H locs hl hP hS)
theorem zj_taldUNTOLD {i : Int32} {dc : Decidable (i < 0 ∨ 11 ≤ i.toNatClampNeg)} (d : decode cc pc = .ok (.iaload, 1)) (kk : zJ Qf w x own cc nL lev m (pc + 1) lv (.int (ztabU i.toNatClampNeg) :: st) σ) : zJ Qf w x own cc nL lev (@ite _ (i < 0 ∨ 11 ≤ i.toNatClampNeg) dc none m) pc lv (.int i :: .ref (ztU w) :: st) σ := by
  refine zj_guard (fun hz => ?_)
  intro a hm ok ls H locs hl hP hS
  exact va_ti (A := zA w) ok.1 ok.2.1 ok.2.2.2.2.2.2.1.1.2 hS hz rfl d (kk a hm ok ls H locs hl hP hS)
theorem zj_getsLEAST {idx : Nat} (d : decode cc pc = .ok (.getstatic idx, 3)) (hn : (own, idx, "LeadBalls", "LEAST_SETTING", "[I", "LeadBalls") ∈ zNF) (kk : zJ Qf w x own cc nL lev m (pc + 3) lv (.ref (ztL w) :: st) σ) : zJ Qf w x own cc nL lev m pc lv (st) σ := by
  intro a hm ok ls H locs hl hP hS
  exact va_getsN (A := zA w) ok.1 ok.2.1 ok.2.2.2.2.2.2.1.2.1.1 hS ok.2.2.2.1 (va_Nw.use rfl (ok.2.2.2.2.2.1.2.2 _ hn)) (fun _ h => h) d (kk a hm ok ls H locs hl hP hS)
theorem zj_taldLEAST {i : Int32} {dc : Decidable (i < 0 ∨ 11 ≤ i.toNatClampNeg)} (d : decode cc pc = .ok (.iaload, 1)) (kk : zJ Qf w x own cc nL lev m (pc + 1) lv (.int (ztabL i.toNatClampNeg) :: st) σ) : zJ Qf w x own cc nL lev (@ite _ (i < 0 ∨ 11 ≤ i.toNatClampNeg) dc none m) pc lv (.int i :: .ref (ztL w) :: st) σ := by
  refine zj_guard (fun hz => ?_)
  intro a hm ok ls H locs hl hP hS
  exact va_ti (A := zA w) ok.1 ok.2.1 ok.2.2.2.2.2.2.1.2.1.2 hS hz rfl d (kk a hm ok ls H locs hl hP hS)
theorem zj_getsMOST {idx : Nat} (d : decode cc pc = .ok (.getstatic idx, 3)) (hn : (own, idx, "LeadBalls", "MOST_SETTING", "[I", "LeadBalls") ∈ zNF) (kk : zJ Qf w x own cc nL lev m (pc + 3) lv (.ref (ztM w) :: st) σ) : zJ Qf w x own cc nL lev m pc lv (st) σ := by
  intro a hm ok ls H locs hl hP hS
  exact va_getsN (A := zA w) ok.1 ok.2.1 ok.2.2.2.2.2.2.1.2.2.1 hS ok.2.2.2.1 (va_Nw.use rfl (ok.2.2.2.2.2.1.2.2 _ hn)) (fun _ h => h) d (kk a hm ok ls H locs hl hP hS)
theorem zj_taldMOST {i : Int32} {dc : Decidable (i < 0 ∨ 11 ≤ i.toNatClampNeg)} (d : decode cc pc = .ok (.iaload, 1)) (kk : zJ Qf w x own cc nL lev m (pc + 1) lv (.int (ztabM i.toNatClampNeg) :: st) σ) : zJ Qf w x own cc nL lev (@ite _ (i < 0 ∨ 11 ≤ i.toNatClampNeg) dc none m) pc lv (.int i :: .ref (ztM w) :: st) σ := by
  refine zj_guard (fun hz => ?_)
  intro a hm ok ls H locs hl hP hS
  exact va_ti (A := zA w) ok.1 ok.2.1 ok.2.2.2.2.2.2.1.2.2.2 hS hz rfl d (kk a hm ok ls H locs hl hP hS)
end ZJ
