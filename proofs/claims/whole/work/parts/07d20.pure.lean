/-! The object's other cells, and the reference's -/
def aL (Ln : gI → Nat) (M : Nat) : Prop :=
  dkL Ln M ∧ rfL Ln ∧ Ln (10, 0) = 16 ∧ Ln (11, 0) = 16 ∧ Ln (13, 0) = 4096 ∧ Ln (15, 0) = 4121 ∧ Ln (19, 0) = 12 ∧ Ln (20, 0) = 12 ∧ Ln (60, 0) = 1 ∧ ∀ k, 22 ≤ k → k ≤ 26 → Ln (k, 0) = 301
def cB (tp : List Nat) (S : gS) : Prop := tp.length ≤ 4096 ∧ ∀ k, k < tp.length → isB (S.1 (13, 0) k) (tp.getD k 0) ∧ fits .byte (.int (S.1 (13, 0) k)) = true
def cT (tp : List Nat) (S : gS) : Prop := S.1 (12, 0) 1 = nI tp.length ∧ cB tp S
def rT (tp : List Nat) (S : gS) : Prop := S.1 (30, 0) 33 = nI tp.length ∧ rfB tp S
def cV (tm vo : Int32) (ti : Nat) (vf : Int32) (fh : Nat) (S : gS) : Prop := S.1 (16, 0) 0 = tm ∧ S.1 (16, 0) 1 = vo ∧ S.2 (16, 0) 2 = lN ti ∧ S.1 (16, 0) 3 = vf ∧ S.1 (16, 0) 4 = nI fh
def rV (tm vo : Int32) (ti sl fh : Nat) (S : gS) : Prop := S.1 (30, 0) 19 = tm ∧ S.1 (30, 0) 20 = vo ∧ S.1 (30, 0) 21 = nI ti ∧ S.1 (30, 0) 22 = nI sl ∧ S.1 (30, 0) 28 = nI fh
def cS (sf : Int32) (bs : Nat) (bt cd : Int32) (S : gS) : Prop := S.1 (17, 0) 0 = sf ∧ S.1 (17, 0) 1 = nI bs ∧ S.1 (17, 0) 2 = bt ∧ S.1 (17, 0) 3 = cd
def rS (sf : Int32) (bs : Nat) (bt cd : Int32) (S : gS) : Prop := S.1 (30, 0) 26 = sf ∧ S.1 (30, 0) 23 = nI bs ∧ S.1 (30, 0) 24 = bt ∧ S.1 (30, 0) 25 = cd
def cG (od : List Nat) (fo : Nat → Nat) (S : gS) : Prop := S.1 (18, 0) 2 = nI od.length ∧ ∀ k, k < od.length → S.1 (19, 0) k = nI (od.getD k 0) ∧ S.1 (20, 0) k = nI (fo (od.getD k 0))
def rG (od : List Nat) (S : gS) : Prop := S.1 (30, 0) 30 = nI od.length ∧ ∀ k, k < od.length → S.1 (45, 0) k = nI (od.getD k 0)
abbrev gEi : Type := Nat × Nat × Int32 × Int32 × Nat
def cE1 (e : gEi) (i : Nat) (S : gS) : Prop := S.1 (22, 0) (i % 301) = nI e.1 ∧ S.1 (23, 0) (i % 301) = nI e.2.1 ∧ S.1 (24, 0) (i % 301) = e.2.2.1 ∧ S.1 (25, 0) (i % 301) = e.2.2.2.1 ∧ S.1 (26, 0) (i % 301) = nI e.2.2.2.2
def cE (ei : Nat → gEi) (bs la : Nat) (S : gS) : Prop := ∀ i, bs < i → i ≤ la → cE1 (ei i) i S
def rE (en : Nat → Nat) (bs la : Nat) (S : gS) : Prop := ∀ i, bs < i → i ≤ la → S.1 (46, 0) (i - bs - 1) = nI (en i)
def cK (kp : Nat → Int32) (S : gS) : Prop := ∀ f, f < 16 → S.1 (11, 0) f = kp f
def rK (kp : Nat → Int32) (S : gS) : Prop := ∀ f, f < 16 → S.1 (44, 0) f = kp f
def cM (fc : Int32) (la di : Nat) (S : gS) : Prop := S.1 (0, 0) 9 = fc ∧ S.1 (0, 0) 10 = nI la ∧ S.1 (0, 0) 11 = nI di
def rM (M : Nat) (fc : Int32) (la di : Nat) (S : gS) : Prop := S.1 (30, 0) 1 = nI M ∧ S.1 (30, 0) 2 = fc ∧ S.1 (30, 0) 27 = nI la ∧ S.1 (30, 0) 29 = nI di
theorem cB.of {tp : List Nat} {S S' : gS} (h : S'.1 (13, 0) = S.1 (13, 0)) (p : cB tp S) : cB tp S' := by unfold cB; rw [h]; exact p
theorem cT.of {tp : List Nat} {S S' : gS} (h1 : S'.1 (12, 0) = S.1 (12, 0)) (h : S'.1 (13, 0) = S.1 (13, 0)) (p : cT tp S) : cT tp S' := by unfold cT; rw [h1]; exact ⟨p.1, p.2.of h⟩
theorem cV.of {tm vo : Int32} {ti : Nat} {vf : Int32} {fh : Nat} {S S' : gS} (h1 : S'.1 (16, 0) = S.1 (16, 0)) (h : S'.2 = S.2) (p : cV tm vo ti vf fh S) : cV tm vo ti vf fh S' := by unfold cV; rw [h1, h]; exact p
theorem cS.of {sf : Int32} {bs : Nat} {bt cd : Int32} {S S' : gS} (h1 : S'.1 (17, 0) = S.1 (17, 0)) (p : cS sf bs bt cd S) : cS sf bs bt cd S' := by unfold cS; rw [h1]; exact p
theorem cG.of {od : List Nat} {fo : Nat → Nat} {S S' : gS} (h1 : S'.1 (18, 0) = S.1 (18, 0)) (h2 : S'.1 (19, 0) = S.1 (19, 0)) (h3 : S'.1 (20, 0) = S.1 (20, 0)) (p : cG od fo S) : cG od fo S' := by unfold cG; rw [h1, h2, h3]; exact p
theorem cE.of {ei : Nat → gEi} {bs la : Nat} {S S' : gS} (h : ∀ k, 22 ≤ k → k ≤ 26 → S'.1 (k, 0) = S.1 (k, 0)) (p : cE ei bs la S) : cE ei bs la S' := by
  intro i h1 h2
  unfold cE1
  rw [h 22 (by omega) (by omega), h 23 (by omega) (by omega), h 24 (by omega) (by omega), h 25 (by omega) (by omega), h 26 (by omega) (by omega)]
  exact p i h1 h2
theorem cK.of {kp : Nat → Int32} {S S' : gS} (h : S'.1 (11, 0) = S.1 (11, 0)) (p : cK kp S) : cK kp S' := by unfold cK; rw [h]; exact p
theorem cM.of {fc : Int32} {la di : Nat} {S S' : gS} (h : S'.1 (0, 0) = S.1 (0, 0)) (p : cM fc la di S) : cM fc la di S' := by unfold cM; rw [h]; exact p
theorem dk_of {M : Nat} {F : gF} {S S' : gS} (h : ∀ i : gI, 1 ≤ i.1 → i.1 ≤ 9 → S'.1 i = S.1 i) (hd : dk M F S) : dk M F S' := by
  obtain ⟨pg, ow, un, uc, m, iI, hN, hff, hb, hfit, hsu⟩ := hd
  refine ⟨pg, ow, un, uc, dkM_of (fun i hi => h i (by omega) (by omega)) (congrFun (h _ (by simp) (by simp)) 3) m, iI, ?_, ?_, ?_, ?_, hsu⟩
  · intro c hc
    rw [h _ (by have := dkN_1 c; omega) (by have := dkN_1 c; omega)]
    exact hN c hc
  · intro f hf
    rw [h _ (by simp) (by simp)]
    exact hff f hf
  · intro c i hc hi
    rw [h _ (by simp) (by simp)]
    exact hb c i hc hi
  · intro a ha
    rw [h _ (by simp) (by simp)]
    exact hfit a ha
/-- the object -/
def cl (M : Nat) (fc : Int32) (F : gF) (tp : List Nat) (tm vo : Int32) (ti : Nat) (vf : Int32) (fh : Nat) (sf : Int32) (bs : Nat) (bt cd : Int32) (la di : Nat) (od : List Nat) (fo : Nat → Nat) (ei : Nat → gEi) (kp : Nat → Int32) (S : gS) : Prop :=
  dk M F S ∧ cT tp S ∧ cV tm vo ti vf fh S ∧ cS sf bs bt cd S ∧ cM fc la di S ∧ cG od fo S ∧ cE ei bs la S ∧ cK kp S
/-- the reference -/
def rl (M : Nat) (fc : Int32) (F : gF) (tp : List Nat) (tm vo : Int32) (ti : Nat) (sl fh : Nat) (sf : Int32) (bs : Nat) (bt cd : Int32) (la di : Nat) (od : List Nat) (kp : Nat → Int32) (T : Nat → gFr) (nf us : Nat) (ri : Nat → List Nat) (en : Nat → Nat) (S : gS) : Prop :=
  rfD T nf us ri F S ∧ rT tp S ∧ rV tm vo ti sl fh S ∧ rS sf bs bt cd S ∧ rM M fc la di S ∧ rG od S ∧ rE en bs la S ∧ rK kp S
/-- kinds below 30 as they were; kinds from 30 on as they were -/
def loX (S S' : gS) : Prop := S'.2 = S.2 ∧ ∀ i : gI, i.1 < 30 → S'.1 i = S.1 i
def hiX (S S' : gS) : Prop := ∀ i : gI, 30 ≤ i.1 → S'.1 i = S.1 i
theorem loX.rf (S : gS) : loX S S := ⟨rfl, fun _ _ => rfl⟩
theorem hiX.rf (S : gS) : hiX S S := fun _ _ => rfl
theorem loX.tr {S S1 S2 : gS} (a : loX S S1) (b : loX S1 S2) : loX S S2 := ⟨b.1.trans a.1, fun i h => (b.2 i h).trans (a.2 i h)⟩
theorem hiX.tr {S S1 S2 : gS} (a : hiX S S1) (b : hiX S1 S2) : hiX S S2 := fun i h => (b i h).trans (a i h)
theorem dkX.hi {S S' : gS} (h : dkX S S') : hiX S S' := fun i hi => h.2 i (by omega)
theorem fX.hi {S S' : gS} (h : fX S S') : hiX S S' := fun i hi => h.2 i (by omega) (by omega)
theorem rX.lo {S S' : gS} (h : rX S S') : loX S S' := ⟨h.1, fun i hi => h.2 i (by omega)⟩
theorem mX.lo {S S' : gS} (h : mX S S') : loX S S' := ⟨h.1, fun i hi => h.2.1 i (by omega)⟩
theorem loX.set {S : gS} {i : gI} {k : Nat} {v : Int32} (h : 30 ≤ i.1) : loX S (gset S i k v) := ⟨rfl, fun j hj => gset_o (by rintro rfl; omega)⟩
theorem hiX.set {S : gS} {i : gI} {k : Nat} {v : Int32} (h : i.1 < 30) : hiX S (gset S i k v) := fun j hj => gset_o (by rintro rfl; omega)
theorem hiX.setL {S : gS} {i : gI} {k : Nat} {v : Int64} : hiX S (gsetL S i k v) := fun j hj => rfl
theorem cl.lo {M : Nat} {fc : Int32} {F : gF} {tp : List Nat} {tm vo : Int32} {ti : Nat} {vf : Int32} {fh : Nat} {sf : Int32} {bs : Nat} {bt cd : Int32} {la di : Nat} {od : List Nat} {fo : Nat → Nat} {ei : Nat → gEi} {kp : Nat → Int32} {S S' : gS}
    (h : loX S S') (p : cl M fc F tp tm vo ti vf fh sf bs bt cd la di od fo ei kp S) : cl M fc F tp tm vo ti vf fh sf bs bt cd la di od fo ei kp S' := by
  obtain ⟨h2, h⟩ := h
  obtain ⟨p1, p2, p3, p4, p5, p6, p7, p8⟩ := p
  exact ⟨dk_of (fun i h1 h2 => h i (by omega)) p1, p2.of (h _ (by simp)) (h _ (by simp)), p3.of (h _ (by simp)) h2, p4.of (h _ (by simp)), p5.of (h _ (by simp)), p6.of (h _ (by simp)) (h _ (by simp)) (h _ (by simp)), p7.of (fun k h1 h2 => h _ (by simp; omega)), p8.of (h _ (by simp))⟩
theorem cl.out {M : Nat} {fc : Int32} {F : gF} {tp : List Nat} {tm vo : Int32} {ti : Nat} {vf : Int32} {fh : Nat} {sf : Int32} {bs : Nat} {bt cd : Int32} {la di : Nat} {od : List Nat} {fo : Nat → Nat} {ei : Nat → gEi} {kp : Nat → Int32} {S : gS} {k : Nat} {v : Int64}
    (p : cl M fc F tp tm vo ti vf fh sf bs bt cd la di od fo ei kp S) : cl M fc F tp tm vo ti vf fh sf bs bt cd la di od fo ei kp (gsetL S (60, 0) k v) := by
  obtain ⟨p1, p2, p3, p4, p5, p6, p7, p8⟩ := p
  refine ⟨dk_of (fun i h1 h2 => rfl) p1, p2.of rfl rfl, ?_, p4.of rfl, p5.of rfl, p6.of rfl rfl rfl, p7.of (fun k h1 h2 => rfl), p8.of rfl⟩
  obtain ⟨q1, q2, q3, q4, q5⟩ := p3
  exact ⟨q1, q2, q3, q4, q5⟩
theorem rfD_of {T : Nat → gFr} {nf us : Nat} {ri : Nat → List Nat} {F : gF} {S S' : gS} (h : ∀ i : gI, 31 ≤ i.1 → i.1 ≤ 43 → S'.1 i = S.1 i) (h3 : S'.1 (30, 0) 3 = S.1 (30, 0) 3) (h11 : S'.1 (30, 0) 11 = S.1 (30, 0) 11) (hD : rfD T nf us ri F S) : rfD T nf us ri F S' := by
  obtain ⟨⟨h1, h2, h4, h5, h6⟩, hR, ⟨f1, f2⟩, hP⟩ := hD
  refine ⟨⟨h1, h2, h3.trans h4, h11.trans h5, fun j hj => ?_⟩, ?_, ⟨?_, ?_⟩, hP⟩
  · have := h6 j hj
    unfold rfJ at this ⊢
    rw [h (31, 0) (by simp) (by simp), h (32, 0) (by simp) (by simp), h (33, 0) (by simp) (by simp), h (34, 0) (by simp) (by simp), h (35, 0) (by simp) (by simp), h (36, 0) (by simp) (by simp), h (37, 0) (by simp) (by simp)]
    exact this
  · intro c hc
    rw [h (39, 0) (by simp) (by simp), h (38, 0) (by simp) (by simp)]
    exact hR c hc
  · intro c hc
    rw [h (40, 0) (by simp) (by simp), h (41, 0) (by simp) (by simp)]
    exact f1 c hc
  · intro f hf
    rw [h (42, 0) (by simp) (by simp), h (43, 0) (by simp) (by simp)]
    exact f2 f hf
theorem rl.hi {M : Nat} {fc : Int32} {F : gF} {tp : List Nat} {tm vo : Int32} {ti sl fh : Nat} {sf : Int32} {bs : Nat} {bt cd : Int32} {la di : Nat} {od : List Nat} {kp : Nat → Int32} {T : Nat → gFr} {nf us : Nat} {ri : Nat → List Nat} {en : Nat → Nat} {S S' : gS}
    (h : hiX S S') (p : rl M fc F tp tm vo ti sl fh sf bs bt cd la di od kp T nf us ri en S) : rl M fc F tp tm vo ti sl fh sf bs bt cd la di od kp T nf us ri en S' := by
  obtain ⟨p1, p2, p3, p4, p5, p6, p7, p8⟩ := p
  have h30 : S'.1 (30, 0) = S.1 (30, 0) := h _ (by simp)
  refine ⟨rfD_of (fun i h1 h2 => h i (by omega)) (congrFun h30 3) (congrFun h30 11) p1, ?_, ?_, ?_, ?_, ?_, ?_, ?_⟩
  · unfold rT rfB; rw [h30, h (47, 0) (by simp)]; exact p2
  · unfold rV; rw [h30]; exact p3
  · unfold rS; rw [h30]; exact p4
  · unfold rM; rw [h30]; exact p5
  · unfold rG; rw [h30, h (45, 0) (by simp)]; exact p6
  · unfold rE; rw [h (46, 0) (by simp)]; exact p7
  · unfold rK; rw [h (44, 0) (by simp)]; exact p8
