/-! what holds between calls -/
theorem zCa.imp {α : Type} {I I' : zSt → Prop} {W : Nat → Nat → Prop} {c m : zSt → Option (α × zSt)} {σ : zSt} (h : zCa I W c m σ) (hi : ∀ σ', I σ' → zOf W σ σ' → I' σ') : zCa I' W c m σ := by
  obtain ⟨a, h1, b, h2, h3, h4, h5⟩ := h
  exact ⟨a, h1, b, h2, h3, hi _ h4 h5, h5⟩
def iRol (σ : zSt) (S S' H H' U U' : Nat) : Prop := (isS S ∧ isS S' ∧ S ≠ S' ∧ zR σ 0 2 = S ∧ zR σ 0 3 = S') ∧ (isH H ∧ isH H' ∧ H ≠ H' ∧ zR σ 0 4 = H ∧ zR σ 0 5 = H') ∧ (isU U ∧ isU U' ∧ U ≠ U' ∧ zR σ 0 6 = U ∧ zR σ 0 7 = U')
def iAll (σ : zSt) : Prop := ∃ S S' H H' U U', iRol σ S S' H H' U U' ∧ iTape σ ∧ iFault σ ∧ kwC σ ∧ iRead σ ∧ iSh2 S σ σ ∧ iOrd σ ∧ iHo2 H σ σ ∧ iSum2 U σ σ
theorem kRol {σ σ' : zSt} {W : Nat → Nat → Prop} (e : zOf W σ σ') {S S' H H' U U' : Nat} (h : iRol σ S S' H H' U U') (d : ∀ k, ¬ W 0 k) : iRol σ' S S' H H' U U' := by
  have f : ∀ k, zR σ' 0 k = zR σ 0 k := fun k => (e 0 k (d k)).2.2
  unfold iRol at h ⊢
  rw [f, f, f, f, f, f]
  exact h
theorem kT {σ σ' : zSt} {W : Nat → Nat → Prop} (e : zOf W σ σ') (h : iTape σ) (d : ∀ o k, W o k → ¬ gTape o k) : iTape σ' := rTape.st (fun o k hg => (e o k (fun hw => d o k hw (by unfold gTapeC at hg; unfold gTape; omega))).1) (fun o k hg => (e o k (fun hw => d o k hw (by unfold gTapeM at hg; unfold gTape; omega))).1) h
theorem kF {σ σ' : zSt} {W : Nat → Nat → Prop} (e : zOf W σ σ') (h : iFault σ) (d : ∀ o k, W o k → ¬ gFault o k) : iFault σ' := h.of (fun o k hg => (e o k (fun hw => d o k hw hg)).1)
theorem kK {σ σ' : zSt} {W : Nat → Nat → Prop} (e : zOf W σ σ') (h : kwC σ) (d : ∀ o k, W o k → o ≠ 4) : kwC σ' := fun i hi => (e 4 i (fun hw => d 4 i hw rfl)).2.1.trans (h i hi)
theorem kR {σ σ' : zSt} {W : Nat → Nat → Prop} (e : zOf W σ σ') (h : iRead σ) (d : ∀ o k, W o k → ¬ gRead o k) : iRead σ' := h.of (fun o k hg => (e o k (fun hw => d o k hw hg)).1)
theorem kS {σ σ' : zSt} {W : Nat → Nat → Prop} (e : zOf W σ σ') {S : Nat} (hS : isS S) (h : iSh2 S σ σ) (d : ∀ o k, W o k → ¬ (5 ≤ o ∧ o ≤ 18) ∧ ¬ gSM o k) : iSh2 S σ' σ' := h.st (fun o k h1 h2 => (e o k (fun hw => (d o k hw).1 (by rcases hS with rfl | rfl <;> omega))).1) (fun o k hg => (e o k (fun hw => (d o k hw).2 hg)).1)
theorem kO {σ σ' : zSt} {W : Nat → Nat → Prop} (e : zOf W σ σ') (h : iOrd σ) (d : ∀ o k, W o k → o ≠ 63) : iOrd σ' := fun n h1 h2 h3 => by
  rw [(e 63 n (fun hw => d 63 n hw rfl)).1]
  exact h n h1 h2 h3
theorem kH {σ σ' : zSt} {W : Nat → Nat → Prop} (e : zOf W σ σ') {H : Nat} (h : iHo2 H σ σ) (d : ∀ o k, W o k → ¬ (H ≤ o ∧ o ≤ H + 5) ∧ ¬ gHM o k) : iHo2 H σ' σ' := h.st (fun o k h1 h2 => ⟨(e o k (fun hw => (d o k hw).1 ⟨h1, h2⟩)).1, (e o k (fun hw => (d o k hw).1 ⟨h1, h2⟩)).2.1⟩) (fun o k hg => ⟨(e o k (fun hw => (d o k hw).2 hg)).1, (e o k (fun hw => (d o k hw).2 hg)).2.1⟩)
theorem kU {σ σ' : zSt} {W : Nat → Nat → Prop} (e : zOf W σ σ') {U : Nat} (h : iSum2 U σ σ) (d : ∀ o k, W o k → ¬ (U ≤ o ∧ o ≤ U + 7) ∧ ¬ gUM o k) : iSum2 U σ' σ' := h.st (fun o k h1 h2 => (e o k (fun hw => (d o k hw).1 ⟨h1, h2⟩)).1) (fun o k hg => (e o k (fun hw => (d o k hw).2 hg)).1)
theorem isH.b {H : Nat} (h : isH H) : 19 ≤ H ∧ H ≤ 26 := by rcases h with rfl | rfl <;> omega
theorem isU.b {U : Nat} (h : isU U) : 33 ≤ U ∧ U ≤ 43 := by rcases h with rfl | rfl <;> omega
theorem isS.b {S : Nat} (h : isS S) : 5 ≤ S ∧ S ≤ 12 := by rcases h with rfl | rfl <;> omega
/-- a call that touches nothing that is kept -/
theorem iAll.of {σ σ' : zSt} (h : iAll σ) {W : Nat → Nat → Prop} (e : zOf W σ σ') (d : ∀ o k, W o k → o ≠ 0 ∧ ¬ gTape o k ∧ ¬ gFault o k ∧ o ≠ 4 ∧ ¬ gRead o k ∧ ¬ (5 ≤ o ∧ o ≤ 18) ∧ ¬ gSM o k ∧ o ≠ 63 ∧ ¬ (19 ≤ o ∧ o ≤ 24) ∧ ¬ (26 ≤ o ∧ o ≤ 31) ∧ ¬ gHM o k ∧ ¬ (33 ≤ o ∧ o ≤ 40) ∧ ¬ (43 ≤ o ∧ o ≤ 50) ∧ ¬ gUM o k) : iAll σ' := by
  obtain ⟨S, S', H, H', U, U', r, t, f, k, rd, s, o, h, u⟩ := h
  refine ⟨S, S', H, H', U, U', kRol e r (fun k hw => (d 0 k hw).1 rfl), kT e t (fun o k hw => (d o k hw).2.1), kF e f (fun o k hw => (d o k hw).2.2.1), kK e k (fun o k hw => (d o k hw).2.2.2.1), kR e rd (fun o k hw => (d o k hw).2.2.2.2.1), kS e r.1.1 s (fun o k hw => ⟨(d o k hw).2.2.2.2.2.1, (d o k hw).2.2.2.2.2.2.1⟩), kO e o (fun o k hw => (d o k hw).2.2.2.2.2.2.2.1), kH e h (fun o k hw => ⟨?_, (d o k hw).2.2.2.2.2.2.2.2.2.2.1⟩), kU e u (fun o k hw => ⟨?_, (d o k hw).2.2.2.2.2.2.2.2.2.2.2.2.2⟩)⟩
  · have q1 := (d o k hw).2.2.2.2.2.2.2.2.1
    have q2 := (d o k hw).2.2.2.2.2.2.2.2.2.1
    rcases r.2.1.1 with rfl | rfl <;> omega
  · have q1 := (d o k hw).2.2.2.2.2.2.2.2.2.2.2.1
    have q2 := (d o k hw).2.2.2.2.2.2.2.2.2.2.2.2.1
    rcases r.2.2.1 with rfl | rfl <;> omega
theorem a_feed {σ : zSt} (h : iAll σ) (p1 p2 p3 p4 p5 : Int32) : ∃ W, zCa iAll W (m_X8_feed 0 p1 p2 p3 p4 p5) (m_X9_feed 64 p1 p2 p3 p4 p5) σ := by
  obtain ⟨S, S', H, H', U, U', r, t, f, k, rd, s, o, h, u⟩ := h
  have bH := r.2.1.1.b; have bU := r.2.2.1.b
  exact ⟨gTape, (call_feed t p1 p2 p3 p4 p5).imp (fun σ' t' e => ⟨S, S', H, H', U, U', kRol e r (by unfold gTape; omega), t', kF e f (by unfold gTape gFault; omega), kK e k (by unfold gTape; omega), kR e rd (by unfold gTape gRead; omega), kS e r.1.1 s (by unfold gTape gSM; omega), kO e o (by unfold gTape; omega), kH e h (by unfold gTape gHM; omega), kU e u (by unfold gTape gUM; omega)⟩)⟩
theorem a_end {σ : zSt} (h : iAll σ) (p1 : Int32) : ∃ W, zCa iAll W (m_X8_end 0 p1) (m_X9_end 64 p1) σ := by
  obtain ⟨S, S', H, H', U, U', r, t, f, k, rd, s, o, h, u⟩ := h
  have bH := r.2.1.1.b; have bU := r.2.2.1.b
  exact ⟨gTape, (call_end t p1).imp (fun σ' t' e => ⟨S, S', H, H', U, U', kRol e r (by unfold gTape; omega), t', kF e f (by unfold gTape gFault; omega), kK e k (by unfold gTape; omega), kR e rd (by unfold gTape gRead; omega), kS e r.1.1 s (by unfold gTape gSM; omega), kO e o (by unfold gTape; omega), kH e h (by unfold gTape gHM; omega), kU e u (by unfold gTape gUM; omega)⟩)⟩
theorem a_fault {σ : zSt} (h : iAll σ) (p1 : Int32) : ∃ W, zCa iAll W (m_X8_fault 0 p1) (m_X9_fault 64 p1) σ := by
  obtain ⟨S, S', H, H', U, U', r, t, f, k, rd, s, o, h, u⟩ := h
  have bH := r.2.1.1.b; have bU := r.2.2.1.b
  exact ⟨gFault, (call_fault f p1).imp (fun σ' f' e => ⟨S, S', H, H', U, U', kRol e r (by unfold gFault; omega), kT e t (by unfold gTape gFault; omega), f', kK e k (by unfold gFault; omega), kR e rd (by unfold gFault gRead; omega), kS e r.1.1 s (by unfold gFault gSM; omega), kO e o (by unfold gFault; omega), kH e h (by unfold gFault gHM; omega), kU e u (by unfold gFault gUM; omega)⟩)⟩
theorem rd_keep {σ σ' : zSt} (h : iAll σ) (e : zOf gRead σ σ') (rd' : iRead σ') : iAll σ' := by
  obtain ⟨S, S', H, H', U, U', r, t, f, k, rd, s, o, h, u⟩ := h
  have bH := r.2.1.1.b; have bU := r.2.2.1.b
  exact ⟨S, S', H, H', U, U', kRol e r (by unfold gRead; omega), kT e t (by unfold gTape gRead; omega), kF e f (by unfold gRead gFault; omega), kK e k (by unfold gRead; omega), rd', kS e r.1.1 s (by unfold gRead gSM; omega), kO e o (by unfold gRead; omega), kH e h (by unfold gRead gHM; omega), kU e u (by unfold gRead gUM; omega)⟩
theorem iAll.rd {σ : zSt} (h : iAll σ) : iRead σ := by
  obtain ⟨S, S', H, H', U, U', r, t, f, k, rd, -⟩ := h
  exact rd
theorem a_reading {σ : zSt} (h : iAll σ) (p1 p2 p3 : Int32) : ∃ W, zCa iAll W (m_X8_reading 0 p1 p2 p3) (m_X9_reading 64 p1 p2 p3) σ := ⟨gRead, (call_reading h.rd p1 p2 p3).imp (fun σ' i e => rd_keep h e i)⟩
theorem a_untell {σ : zSt} (h : iAll σ) (p1 : Int32) : ∃ W, zCa iAll W (m_X8_untell 0 p1) (m_X9_untell 64 p1) σ := ⟨gRead, (call_untell h.rd p1).imp (fun σ' i e => rd_keep h e i)⟩
theorem a_later {σ : zSt} (h : iAll σ) (p1 : Int32) : ∃ W, zCa iAll W (m_X8_later 0 p1) (m_X9_later 64 p1) σ := ⟨gRead, (call_later h.rd p1).imp (fun σ' i e => rd_keep h e i)⟩
theorem a_order {σ : zSt} (h : iAll σ) (p1 : Int32) : ∃ W, zCa iAll W (m_X8_order 0 p1) (m_X9_order 64 p1) σ := by
  obtain ⟨S, S', H, H', U, U', r, t, f, k, rd, s, o, h, u⟩ := h
  have bH := r.2.1.1.b; have bU := r.2.2.1.b
  exact ⟨gOrd, (call_order o p1).imp (fun σ' o' e => ⟨S, S', H, H', U, U', kRol e r (by unfold gOrd; omega), kT e t (by unfold gTape gOrd; omega), kF e f (by unfold gOrd gFault; omega), kK e k (by unfold gOrd; omega), kR e rd (by unfold gOrd gRead; omega), kS e r.1.1 s (by unfold gOrd gSM; omega), o', kH e h (by unfold gOrd gHM; omega), kU e u (by unfold gOrd gUM; omega)⟩)⟩
theorem scr_ok : ∀ o k, gScr o k → o ≠ 0 ∧ ¬ gTape o k ∧ ¬ gFault o k ∧ o ≠ 4 ∧ ¬ gRead o k ∧ ¬ (5 ≤ o ∧ o ≤ 18) ∧ ¬ gSM o k ∧ o ≠ 63 ∧ ¬ (19 ≤ o ∧ o ≤ 24) ∧ ¬ (26 ≤ o ∧ o ≤ 31) ∧ ¬ gHM o k ∧ ¬ (33 ≤ o ∧ o ≤ 40) ∧ ¬ (43 ≤ o ∧ o ≤ 50) ∧ ¬ gUM o k := by unfold gScr gTape gFault gRead gSM gHM gUM; omega
theorem fit_ok : ∀ o k, gFit o k → o ≠ 0 ∧ ¬ gTape o k ∧ ¬ gFault o k ∧ o ≠ 4 ∧ ¬ gRead o k ∧ ¬ (5 ≤ o ∧ o ≤ 18) ∧ ¬ gSM o k ∧ o ≠ 63 ∧ ¬ (19 ≤ o ∧ o ≤ 24) ∧ ¬ (26 ≤ o ∧ o ≤ 31) ∧ ¬ gHM o k ∧ ¬ (33 ≤ o ∧ o ≤ 40) ∧ ¬ (43 ≤ o ∧ o ≤ 50) ∧ ¬ gUM o k := by unfold gFit gSo gSf gScr gTape gFault gRead gSM gHM gUM; omega
theorem a_rest {σ : zSt} (h : iAll σ) (p1 p2 p3 : Int32) : ∃ W, zCa iAll W (m_X8_rest 0 p1 p2 p3) (m_X9_rest 64 p1 p2 p3) σ := by
  obtain ⟨S, S', H, H', U, U', r, t, f, k, rd, s, -⟩ := id h
  exact ⟨gScr, (call_rest r.1.1 r.1.2.2.2.1 s.1 p1 p2 p3).imp (fun σ' _ e => h.of e scr_ok)⟩
theorem a_turning {σ : zSt} (h : iAll σ) (p1 p2 p3 p4 : Int32) : ∃ W, zCa iAll W (m_X8_turning 0 p1 p2 p3 p4) (m_X9_turning 64 p1 p2 p3 p4) σ := by
  obtain ⟨S, S', H, H', U, U', r, t, f, k, rd, s, -⟩ := id h
  exact ⟨gScr, (call_turning r.1.1 r.1.2.2.2.1 s.1 p1 p2 p3 p4).imp (fun σ' _ e => h.of e scr_ok)⟩
theorem a_had {σ : zSt} (h : iAll σ) (p1 p2 p3 p4 p5 : Int32) : ∃ W, zCa iAll W (m_X8_had 0 p1 p2 p3 p4 p5) (m_X9_had 64 p1 p2 p3 p4 p5) σ := ⟨gScr, (call_had p1 p2 p3 p4 p5).imp (fun σ' _ e => h.of e scr_ok)⟩
theorem a_fit {σ : zSt} (h : iAll σ) (p1 p2 p3 p4 : Int32) : ∃ W, zCa iAll W (m_X8_fit 0 p1 p2 p3 p4) (m_X9_fit 64 p1 p2 p3 p4) σ := ⟨gFit, (call_fit h.rd p1 p2 p3 p4).imp (fun σ' _ e => h.of e fit_ok)⟩
theorem a_world {σ : zSt} (h : iAll σ) (p1 : Int32) : ∃ W, zCa iAll W (m_X8_world 0 p1) (m_X9_world 64 p1) σ := by
  obtain ⟨S, S', H, H', U, U', r, t, f, k, rd, s, -⟩ := id h
  exact ⟨gFit, (call_world rd r.1.1 r.1.2.2.2.1 s.1 p1).imp (fun σ' _ e => h.of e fit_ok)⟩
theorem a_agree {σ : zSt} (h : iAll σ) (p1 : Int32) : ∃ W, zCa iAll W (m_X8_agree 0 p1) (m_X9_agree 64 p1) σ := by
  obtain ⟨S, S', H, H', U, U', r, t, f, k, rd, s, o, hh, u⟩ := id h
  have hb := r.2.1.1
  exact ⟨_, (call_agree r.2.1.1 r.2.1.2.2.2.1 hh p1).imp (fun σ' _ e => h.of e (fun o k hw => by
    have : o = 25 ∨ o = 32 := by rcases hb with rfl | rfl <;> omega
    unfold gTape gFault gRead gSM gHM gUM
    omega))⟩
theorem lin_ok {U : Nat} (hU : isU U) : ∀ o k, gLin U o k → o ≠ 0 ∧ ¬ gTape o k ∧ ¬ gFault o k ∧ o ≠ 4 ∧ ¬ gRead o k ∧ ¬ (5 ≤ o ∧ o ≤ 18) ∧ ¬ gSM o k ∧ o ≠ 63 ∧ ¬ (19 ≤ o ∧ o ≤ 24) ∧ ¬ (26 ≤ o ∧ o ≤ 31) ∧ ¬ gHM o k ∧ ¬ (33 ≤ o ∧ o ≤ 40) ∧ ¬ (43 ≤ o ∧ o ≤ 50) ∧ ¬ gUM o k := by
  intro o k hw
  have : o = 41 ∨ o = 42 ∨ o = 51 ∨ o = 52 ∨ o = 103 ∨ o = 104 := by unfold gLin at hw; rcases hU with rfl | rfl <;> omega
  unfold gTape gFault gRead gSM gHM gUM
  omega
theorem iSum2.i {U : Nat} {σ : zSt} (h : iSum2 U σ σ) : iSum U σ := by
  obtain ⟨n, fs, kd, vl, pr, a1, a2, a3, a4, -⟩ := h
  exact ⟨n, fs, kd, vl, pr, a1, a2, a3, a4⟩
theorem a_line {σ : zSt} (h : iAll σ) (p1 p2 : Int32) : ∃ W, zCa iAll W (m_X8_line 0 p1 p2) (m_X9_line 64 p1 p2) σ := by
  obtain ⟨S, S', H, H', U, U', r, t, f, k, rd, s, o, hh, u⟩ := id h
  exact ⟨_, (call_line r.2.2.1 r.2.2.2.2.2.1 u.i p1 p2).imp (fun σ' _ e => h.of e (lin_ok r.2.2.1))⟩
theorem a_right {σ : zSt} (h : iAll σ) : ∃ W, zCa iAll W (m_X8_right 0) (m_X9_right 64) σ := by
  obtain ⟨S, S', H, H', U, U', r, t, f, k, rd, s, o, hh, u⟩ := id h
  exact ⟨_, (call_right r.2.2.1 r.2.2.2.2.2.1 u.i).imp (fun σ' _ e => h.of e (lin_ok r.2.2.1))⟩
theorem a_maybe {σ : zSt} (h : iAll σ) : ∃ W, zCa iAll W (m_X8_maybe 0) (m_X9_maybe 64) σ := by
  obtain ⟨S, S', H, H', U, U', r, t, f, k, rd, ⟨s1, nc, nt, kn, po, sh, c1, c2, c3, c4⟩, -⟩ := id h
  exact ⟨_, (call_maybe r.1.1 r.1.2.2.2.1 c1 c2 c3).imp (fun σ' _ e => h.of e (fun o k hw => hw.elim))⟩
theorem a_next {σ : zSt} (h : iAll σ) : ∃ W, zCa iAll W (m_X8_next 0) (m_X9_next 64) σ := by
  obtain ⟨S, S', H, H', U, U', r, t, f, k, rd, ⟨s1, nc, nt, kn, po, sh, c1, c2, c3, c4⟩, -⟩ := id h
  exact ⟨_, (call_next r.1.1 r.1.2.2.2.1 c1 c2 c3).imp (fun σ' _ e => h.of e (fun o k hw => hw.elim))⟩
theorem a_fewest {σ : zSt} (h : iAll σ) : ∃ W, zCa iAll W (m_X8_fewest 0) (m_X9_fewest 64) σ := by
  obtain ⟨S, S', H, H', U, U', r, t, f, k, rd, ⟨s1, nc, nt, kn, po, sh, c1, c2, c3, c4⟩, -⟩ := id h
  exact ⟨_, (call_fewest r.1.1 r.1.2.2.2.1 c1 c2 c3 c4).imp (fun σ' _ e => h.of e (fun o k hw => by unfold gTape gFault gRead gSM gHM gUM; omega))⟩
theorem a_about {σ : zSt} (h : iAll σ) (p1 : Int32) : ∃ W, zCa iAll W (m_X8_about 0 p1) (m_X9_about 64 p1) σ := by
  obtain ⟨S, S', H, H', U, U', r, ⟨N, t1, t2, t3, -⟩, f, k, ⟨n, tt, -, ⟨q1, q2⟩, ⟨q3, q4⟩, -⟩, ⟨s1, nc, nt, kn, po, sh, c1, c2, c3, c4⟩, o, ⟨hn, lo, hi, E, h1, h2, -⟩, ⟨un, fs, kd, vl, pr, -, u1, -, u2, u3⟩⟩ := id h
  exact ⟨_, (call_about r.1.1 r.2.1.1 r.2.2.1 r.1.2.2.2.1 r.2.1.2.2.2.1 r.2.2.2.2.2.1 (c1.1.trans c2.1.symm) (c1.2.1.trans c2.2.1.symm) (h1.1.trans h2.1.symm) (u1.1.trans u2.1.symm) (q1.trans q2.symm) (q3.trans q4.symm) (t2.trans t3.symm) u3 p1).imp (fun σ' _ e => h.of e (fun o k hw => hw.elim))⟩
theorem a_result {σ : zSt} (h : iAll σ) (p1 p2 : Int32) (hp : p2 = 0 ∨ p2 = 1) : ∃ W, zCa iAll W (m_X8_result 0 p1 p2) (m_X9_result 64 p1 p2) σ := by
  obtain ⟨S, S', H, H', U, U', r, t, f, k, rd, ⟨s1, nc, nt, kn, po, sh, c1, c2, c3, c4⟩, o, h, u⟩ := h
  have bS := r.1.1.b; have bH := r.2.1.1.b; have bU := r.2.2.1.b
  refine ⟨gRes S, (call_result r.1.1 r.1.2.2.2.1 ⟨kn, po, c1, c2, c3⟩ p1 p2 hp).imp (fun σ' i e => ?_)⟩
  obtain ⟨kn', po', d1, d2, d3⟩ := i
  refine ⟨S, S', H, H', U, U', kRol e r (by unfold gRes; omega), kT e t (by unfold gTape gRes; omega), kF e f (by unfold gRes gFault; omega), kK e k (by unfold gRes; omega), kR e rd (by unfold gRes gRead; omega), ⟨⟨fun j hj => ?_, ?_⟩, nc, nt, kn', po', sh, d1, d2, d3, fun x hx => ?_⟩, kO e o (by unfold gRes; omega), kH e h (by unfold gRes gHM; omega), kU e u (by unfold gRes gUM; omega)⟩
  · rw [(e (S + 6) j (by unfold gRes; omega)).1, (e 67 j (by unfold gRes; omega)).1]; exact s1.1 j hj
  · have : zset σ' = zset σ := by funext j; unfold zset; rw [(e 67 j (by unfold gRes; omega)).1]
    rw [this]; exact s1.2
  · rw [(e (S + 5) x (by unfold gRes; omega)).1]; exact c4 x hx
/-! the three readers -/
theorem kwC.lo {s s' : zSt} (h : kwC s) (e : zLo s s') : kwC s' := fun i hi => (e 4 i (by omega)).2.1.trans (h i hi)
theorem rTape.lh {s s' t t' : zSt} (h : rTape s t) (e : zLo s s') (e' : zHi t t') : rTape s' t' := rTape.st (fun o k hg => (e o k (by unfold gTapeC at hg; omega)).1) (fun o k hg => (e' o k (by unfold gTapeM at hg; omega)).1) h
theorem rFau.lh {s s' t t' : zSt} (h : rFau s t) (e : zLo s s') (e' : zHi t t') : rFau s' t' := ⟨by rw [(e 3 10 (by omega)).1, (e' 64 2 (by omega)).1]; exact h.1, by rw [(e 3 11 (by omega)).1, (e' 64 3 (by omega)).1]; exact h.2⟩
def RHo (s t : zSt) : Prop := rTape s t ∧ rFau s t ∧ kwC s ∧ ∃ G G', isH G ∧ isH G' ∧ G ≠ G' ∧ zR s 0 4 = G ∧ zR s 0 5 = G' ∧ iHo2 G s t
def RSh (s t : zSt) : Prop := rTape s t ∧ rFau s t ∧ kwC s ∧ ∃ G G', isS G ∧ isS G' ∧ G ≠ G' ∧ zR s 0 2 = G ∧ zR s 0 3 = G' ∧ iSh2 G s t
def RSu (s t : zSt) : Prop := rTape s t ∧ rFau s t ∧ kwC s ∧ ∃ G G', isU G ∧ isU G' ∧ G ≠ G' ∧ zR s 0 6 = G ∧ zR s 0 7 = G' ∧ iSum2 G s t
theorem a_houses {σ : zSt} (h : iAll σ) : ∃ W, zCa iAll W (m_X8_houses 0) (m_X9_houses 64) σ := by
  obtain ⟨S, S', H, H', U, U', r, t, f, k, rd, s, o, hh, u⟩ := h
  have bS := r.1.1.b; have bU := r.2.2.1.b
  have hR : RHo σ σ := ⟨t, f, k, H, H', r.2.1.1, r.2.1.2.1, r.2.1.2.2.1, r.2.1.2.2.2.1, r.2.1.2.2.2.2, hh⟩
  refine ⟨fun o k => gHHC o k ∨ gHHM o k, (zCa.rel (R := RHo) (WC := gHHC) (WM := gHHM) hR ?_ ?_ ?_ ?_).imp ?_⟩
  · rintro s s' t t' e e' ⟨a1, a2, a3, G, G', g1, g2, g3, g4, g5, g6⟩
    have bG := g1.b
    exact ⟨a1.lh e e', a2.lh e e', a3.lo e, G, G', g1, g2, g3, (e 0 4 (by omega)).2.2.trans g4, (e 0 5 (by omega)).2.2.trans g5, g6.st (fun o k h1 h2 => ⟨(e o k (by omega)).1, (e o k (by omega)).2.1⟩) (fun o k hg => ⟨(e' o k (by unfold gHM at hg; omega)).1, (e' o k (by unfold gHM at hg; omega)).2.1⟩)⟩
  · rintro s t ⟨a1, a2, a3, G, G', g1, g2, g3, g4, g5, g6⟩
    exact rel_houses g1 g2 g3 g4 g5 a1 a3 g6
  · intro o k hw
    exact ⟨by unfold gHHC gOpC at hw; omega, Or.inl hw⟩
  · intro o k hw
    exact ⟨by unfold gHHM gOpM at hw; omega, Or.inr hw⟩
  · rintro σ' ⟨a1, a2, a3, G, G', g1, g2, g3, g4, g5, g6⟩ e
    refine ⟨S, S', G, G', U, U', ⟨⟨r.1.1, r.1.2.1, r.1.2.2.1, ?_, ?_⟩, ⟨g1, g2, g3, g4, g5⟩, ⟨r.2.2.1, r.2.2.2.1, r.2.2.2.2.1, ?_, ?_⟩⟩, a1, a2, a3, kR e rd (by unfold gHHC gHHM gOpC gOpM gRead; omega), kS e r.1.1 s (by unfold gHHC gHHM gOpC gOpM gSM; omega), kO e o (by unfold gHHC gHHM gOpC gOpM; omega), g6, kU e u (by unfold gHHC gHHM gOpC gOpM gUM; omega)⟩
    · exact (e 0 2 (by unfold gHHC gHHM gOpC gOpM; omega)).2.2.trans r.1.2.2.2.1
    · exact (e 0 3 (by unfold gHHC gHHM gOpC gOpM; omega)).2.2.trans r.1.2.2.2.2
    · exact (e 0 6 (by unfold gHHC gHHM gOpC gOpM; omega)).2.2.trans r.2.2.2.2.2.1
    · exact (e 0 7 (by unfold gHHC gHHM gOpC gOpM; omega)).2.2.trans r.2.2.2.2.2.2
theorem a_shed {σ : zSt} (h : iAll σ) : ∃ W, zCa iAll W (m_X8_shed 0) (m_X9_shed 64) σ := by
  obtain ⟨S, S', H, H', U, U', r, t, f, k, rd, s, o, hh, u⟩ := h
  have bH := r.2.1.1.b; have bU := r.2.2.1.b
  have hR : RSh σ σ := ⟨t, f, k, S, S', r.1.1, r.1.2.1, r.1.2.2.1, r.1.2.2.2.1, r.1.2.2.2.2, s⟩
  refine ⟨fun o k => gSSC o k ∨ gSSM o k, (zCa.rel (R := RSh) (WC := gSSC) (WM := gSSM) hR ?_ ?_ ?_ ?_).imp ?_⟩
  · rintro s s' t t' e e' ⟨a1, a2, a3, G, G', g1, g2, g3, g4, g5, g6⟩
    have bG := g1.b
    exact ⟨a1.lh e e', a2.lh e e', a3.lo e, G, G', g1, g2, g3, (e 0 2 (by omega)).2.2.trans g4, (e 0 3 (by omega)).2.2.trans g5, g6.st (fun o k h1 h2 => (e o k (by omega)).1) (fun o k hg => (e' o k (by unfold gSM at hg; omega)).1)⟩
  · rintro s t ⟨a1, a2, a3, G, G', g1, g2, g3, g4, g5, g6⟩
    exact rel_shed g1 g2 g3 g4 g5 a1 a3 g6
  · intro o k hw
    exact ⟨by unfold gSSC gOpC at hw; omega, Or.inl hw⟩
  · intro o k hw
    exact ⟨by unfold gSSM gOpM at hw; omega, Or.inr hw⟩
  · rintro σ' ⟨a1, a2, a3, G, G', g1, g2, g3, g4, g5, g6⟩ e
    refine ⟨G, G', H, H', U, U', ⟨⟨g1, g2, g3, g4, g5⟩, ⟨r.2.1.1, r.2.1.2.1, r.2.1.2.2.1, ?_, ?_⟩, ⟨r.2.2.1, r.2.2.2.1, r.2.2.2.2.1, ?_, ?_⟩⟩, a1, a2, a3, kR e rd (by unfold gSSC gSSM gOpC gOpM gRead; omega), g6, kO e o (by unfold gSSC gSSM gOpC gOpM; omega), kH e hh (by unfold gSSC gSSM gOpC gOpM gHM; omega), kU e u (by unfold gSSC gSSM gOpC gOpM gUM; omega)⟩
    · exact (e 0 4 (by unfold gSSC gSSM gOpC gOpM; omega)).2.2.trans r.2.1.2.2.2.1
    · exact (e 0 5 (by unfold gSSC gSSM gOpC gOpM; omega)).2.2.trans r.2.1.2.2.2.2
    · exact (e 0 6 (by unfold gSSC gSSM gOpC gOpM; omega)).2.2.trans r.2.2.2.2.2.1
    · exact (e 0 7 (by unfold gSSC gSSM gOpC gOpM; omega)).2.2.trans r.2.2.2.2.2.2
theorem a_sum {σ : zSt} (h : iAll σ) : ∃ W, zCa iAll W (m_X8_sum 0) (m_X9_sum 64) σ := by
  obtain ⟨S, S', H, H', U, U', r, t, f, k, rd, s, o, hh, u⟩ := h
  have bH := r.2.1.1.b; have bS := r.1.1.b
  have hR : RSu σ σ := ⟨t, f, k, U, U', r.2.2.1, r.2.2.2.1, r.2.2.2.2.1, r.2.2.2.2.2.1, r.2.2.2.2.2.2, u⟩
  refine ⟨fun o k => gUUC o k ∨ gUUM o k, (zCa.rel (R := RSu) (WC := gUUC) (WM := gUUM) hR ?_ ?_ ?_ ?_).imp ?_⟩
  · rintro s s' t t' e e' ⟨a1, a2, a3, G, G', g1, g2, g3, g4, g5, g6⟩
    have bG := g1.b
    exact ⟨a1.lh e e', a2.lh e e', a3.lo e, G, G', g1, g2, g3, (e 0 6 (by omega)).2.2.trans g4, (e 0 7 (by omega)).2.2.trans g5, g6.st (fun o k h1 h2 => (e o k (by omega)).1) (fun o k hg => (e' o k (by unfold gUM at hg; omega)).1)⟩
  · rintro s t ⟨a1, a2, a3, G, G', g1, g2, g3, g4, g5, g6⟩
    exact rel_sum g1 g2 g3 g4 g5 a1 a3 g6
  · intro o k hw
    exact ⟨by unfold gUUC gOpC at hw; omega, Or.inl hw⟩
  · intro o k hw
    exact ⟨by unfold gUUM gOpM at hw; omega, Or.inr hw⟩
  · rintro σ' ⟨a1, a2, a3, G, G', g1, g2, g3, g4, g5, g6⟩ e
    refine ⟨S, S', H, H', G, G', ⟨⟨r.1.1, r.1.2.1, r.1.2.2.1, ?_, ?_⟩, ⟨r.2.1.1, r.2.1.2.1, r.2.1.2.2.1, ?_, ?_⟩, ⟨g1, g2, g3, g4, g5⟩⟩, a1, a2, a3, kR e rd (by unfold gUUC gUUM gOpC gOpM gRead; omega), kS e r.1.1 s (by unfold gUUC gUUM gOpC gOpM gSM; omega), kO e o (by unfold gUUC gUUM gOpC gOpM; omega), kH e hh (by unfold gUUC gUUM gOpC gOpM gHM; omega), g6⟩
    · exact (e 0 2 (by unfold gUUC gUUM gOpC gOpM; omega)).2.2.trans r.1.2.2.2.1
    · exact (e 0 3 (by unfold gUUC gUUM gOpC gOpM; omega)).2.2.trans r.1.2.2.2.2
    · exact (e 0 4 (by unfold gUUC gUUM gOpC gOpM; omega)).2.2.trans r.2.1.2.2.2.1
    · exact (e 0 5 (by unfold gUUC gUUM gOpC gOpM; omega)).2.2.trans r.2.1.2.2.2.2
