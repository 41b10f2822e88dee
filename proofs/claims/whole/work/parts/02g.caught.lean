/-! Calls of methods that may throw, from a method with a table of its own; its handlers. -/
section
variable {p : Program} {l : Launch} {e : Env} {R : Room} {s : State} {m : MethodId} {args : Array Value} {below : List Frame} {meth : Method} {c : Code} {H : Heap} {locs : List Loc} {cells slots : Nat} {Q : State → Prop}
variable {cc : ByteArray} {pc nL : Nat} {ls : Array Slot} {rest st0 As : List Value} {Y : gY} {S : gS} {Ts : List Cond} {own C : String} {b : Addr}
/-- the frame g, with q thrown over it -/
def gxW (p : Program) (l : Launch) (e : Env) (R : Room) (s : State) (m : MethodId) (args : Array Value) (below : List Frame) (meth : Method) (c : Code) (H : Heap) (locs : List Loc) (cells slots : Nat) (Q : State → Prop) (g : JFrame) (q : Addr) : Prop :=
  ∀ T : State, T.heap = H → Stand p l e R s m args below meth c T locs cells slots → ∃ t, Steps p.tables e below ((T.setTop g).pushFrame (.throwing q)) t ∧ Q t
theorem gx_call {y : MethodName} {ws : List Cond} {rm : Room} {Pw : Prop} {Qc : Array Value → State → Outcome → State → Prop} {XX : String → gS → Prop} {bytes : ByteArray} {maxL n index : Nat} {ret : Option FieldType}
    (F : CallFix p m c cc nL s args Ts own) (hM : gxMet l y ws rm (gPre Y (.ref b :: As) S H.size Pw) Y H.size Qc XX) (cw : CallW R s args own C index y bytes maxL ret ws rm 1 6 n) (hp : PreV s H C b (gPre Y (.ref b :: As) S H.size Pw) As)
    (hn : As.length = n) (hsize : ls.size = nL) (hstack : st0 = As.reverse ++ .ref b :: rest) (hW : 2 * (F0 m pc ls st0).monitorRoom + (rest.map fun v => v.category).sum ≤ 8) (hdg : decode cc pc = .ok (.invokevirtual index, 3)) (hf : cells + 1 ≤ R.cells ∧ slots + 6 ≤ R.slots) (hS : va_S (gA Y s.heap.size) s.heap H locs)
    (kx : ∀ (E : String) (S1 : gS) (q : Addr) (ce : Cell) (H1 : Heap) (locs1 : List Loc), XX E S1 → gWd Y S1 H1 → va_S (gA Y s.heap.size) s.heap H1 locs1 → H1[q]? = some ce → ce.vm = .none → s.vm.findClass E = some ce.cls → gxW p l e R s m args below meth c H1 locs1 (cells + 1) (slots + 6) Q (F0 m pc ls rest) q)
    (kk : ∀ (v : Option Value) (st t : State) (H1 : Heap) (locs1 : List Loc), st.heap = H → t.heap = H1 → Qc (Value.ref b :: As).toArray st (.returned v) t → (va_F (gA Y H.size) st t → va_S (gA Y s.heap.size) s.heap H1 locs1) → W p l e R s m args below meth c H1 locs1 (cells + 1) (slots + 6) Q (F0 m (pc + 3) ls (v.toList ++ rest))) : W p l e R s m args below meth c H locs cells slots Q (F0 m pc ls st0) := by
  obtain ⟨⟨hrc, hrs, hfr, hlo, hws, hcw, hcode, hini, hy, hlen, hl⟩, hin, hse⟩ := cw
  obtain ⟨hx, hb, hml, ho, -⟩ := F
  obtain ⟨hbl, ⟨cellB, hcB, hoB, hclB⟩, hPc⟩ := hp
  intro T hT X
  subst hstack
  obtain ⟨mk, methM, hnamed, hmethM, hstM, habM⟩ := Cond.instanceMethod_spec hin
  obtain ⟨methM', cM, hmethM', -, -, -, -, -, -, hsigM⟩ := Cond.code_spec hnamed hcode
  cases hmethM.symm.trans hmethM'
  obtain ⟨c2, r2, m2, q1, q2, q3, q4, kP, hkP, hkPi⟩ := Cond.selects_spec hse
  cases hclB.symm.trans q1
  cases (State.methodFound?_of_named hnamed hy).symm.trans q2
  cases hnamed.symm.trans q3
  have hselP : selectMethod e.platform s.vm cellB.cls mk = .method mk := by rw [Launch.admits_selectMethod X.admits]; exact q4
  have hdg' : decode c.code pc = .ok (.invokevirtual index, 3) := by rw [hb]; exact hdg
  obtain ⟨vm₁, X₁, hstep₁⟩ := X.invokevirtual hx ho hl hnamed hmethM hstM hkP hkPi hy (a := b) (cell := cellB) (by rw [hT]; exact hcB)
    (fun z h => by rw [h] at hoB; cases hoB) hselP hmethM habM hkP hkPi (g := F0 m pc ls (As.reverse ++ .ref b :: rest)) rfl (argsL := As) (rest := rest) (hn.trans (hlen _ hsigM)) rfl hdg'
  obtain ⟨o, t, V, L, hq, e1, e2, XV, hL, hcase⟩ := gx_back (bytes := bytes) (maxL := maxL) (ret := ret) (ig := .invokevirtual index) (g := F0 m pc ls rest) hM hbl hfr hlo hws hcw (fun a' U hW => word_at hW (Or.inl (by first | rfl | simp [Cond.onTables, Cond.keeps, Cond.steady])) hini) X₁ rfl (hsize.trans hml.symm) hdg' hW (X₁.named hnamed) (by rw [hrc]; exact hf.1) (by rw [hrs]; exact hf.2) (hPc (T.setVm vm₁) hT X₁.warmed)
  have hS1 : va_F (gA Y H.size) ((T.setVm vm₁).calling (F0 m pc ls rest) mk (Value.ref b :: As).toArray) t → va_S (gA Y s.heap.size) s.heap V.heap (locs ++ L) := by
    intro hF
    have hz : H.size ≤ t.heap.size := by have := hF.1; rw [show ((T.setVm vm₁).calling (F0 m pc ls rest) mk (Value.ref b :: As).toArray).heap = H from hT] at this; exact this
    have hk : ∀ q : Nat, q < H.size → ¬ gA Y H.size q → t.heap[q]? = H[q]? := by have := hF.2; rw [show ((T.setVm vm₁).calling (F0 m pc ls rest) mk (Value.ref b :: As).toArray).heap = H from hT] at this; exact this
    rw [e1]
    refine ⟨Nat.le_trans hS.1 hz, fun q h1 h2 => ?_, fun q hq => ?_⟩
    · rw [hk q (Nat.lt_of_lt_of_le h1 hS.1) (fun z => h2 (gA_call hS q z))]
      exact hS.2.1 q h1 h2
    · rcases List.mem_append.mp hq with h | h
      · exact hS.2.2 q h
      · exact gA_call hS _ (hL q h)
  rcases hcase with ⟨v, rfl, st⟩ | ⟨q, rfl, st⟩
  · rcases hq with ⟨hq, -⟩ | ⟨q9, E, S1, ce, L9, h9, -⟩
    · obtain ⟨t2, a1, b1⟩ := kk v ((T.setVm vm₁).calling (F0 m pc ls rest) mk (Value.ref b :: As).toArray) t V.heap (locs ++ L) hT e1.symm hq hS1 V rfl XV
      exact ⟨t2, hstep₁ _ fun acts => by rw [doInvoke_state]; exact st.trans a1, b1⟩
    · cases h9
  · rcases hq with ⟨-, L9, ⟨⟨v9, h9⟩, -⟩, -⟩ | ⟨q9, E, S1, ce, L9, h9, hX, hWd, hF, hce, hcv, hcl, -⟩
    · cases h9
    · cases h9
      have hcl' : s.vm.findClass E = some ce.cls := by
        have h1 : (T.setVm vm₁).vm.findClass E = some ce.cls := hcl
        rw [X₁.warmed.alike.findClass] at h1
        exact h1
      obtain ⟨t2, a1, b1⟩ := kx E S1 q ce V.heap (locs ++ L) hX (by rw [e1]; exact hWd) (hS1 hF) (by rw [e1]; exact hce) hcv hcl' V rfl XV
      exact ⟨t2, hstep₁ _ fun acts => by rw [doInvoke_state]; exact st.trans a1, b1⟩
theorem gx_calli {y : MethodName} {ws : List Cond} {rm : Room} {Pw : Prop} {post : Int32 → gS → Prop} {XX : String → gS → Prop} {bytes : ByteArray} {maxL n index : Nat} {ret : Option FieldType}
    (F : CallFix p m c cc nL s args Ts own) (hM : gxMet l y ws rm (gPre Y (.ref b :: As) S H.size Pw) Y H.size (va_Qi post (gB Y) (gA Y H.size)) XX) (cw : CallW R s args own C index y bytes maxL ret ws rm 1 6 n) (hp : PreV s H C b (gPre Y (.ref b :: As) S H.size Pw) As)
    (hn : As.length = n) (hsize : ls.size = nL) (hstack : st0 = As.reverse ++ .ref b :: rest) (hW : 2 * (F0 m pc ls st0).monitorRoom + (rest.map fun v => v.category).sum ≤ 8) (hdg : decode cc pc = .ok (.invokevirtual index, 3)) (hf : cells + 1 ≤ R.cells ∧ slots + 6 ≤ R.slots) (hS : va_S (gA Y s.heap.size) s.heap H locs)
    (kx : ∀ (E : String) (S1 : gS) (q : Addr) (ce : Cell) (H1 : Heap) (locs1 : List Loc), XX E S1 → gWd Y S1 H1 → va_S (gA Y s.heap.size) s.heap H1 locs1 → H1[q]? = some ce → ce.vm = .none → s.vm.findClass E = some ce.cls → gxW p l e R s m args below meth c H1 locs1 (cells + 1) (slots + 6) Q (F0 m pc ls rest) q)
    (kk : ∀ (r : Int32) (S1 : gS) (H1 : Heap) (locs1 : List Loc), post r S1 → gWd Y S1 H1 → va_S (gA Y s.heap.size) s.heap H1 locs1 → W p l e R s m args below meth c H1 locs1 (cells + 1) (slots + 6) Q (F0 m (pc + 3) ls (.int r :: rest))) : W p l e R s m args below meth c H locs cells slots Q (F0 m pc ls st0) := by
  refine gx_call F hM cw hp hn hsize hstack hW hdg hf hS kx (fun v st t H1 locs1 h0 ht hq hF => ?_)
  obtain ⟨⟨r, u, hv, hp1, hB⟩, hF1⟩ := hq
  cases hv
  exact kk r u H1 locs1 hp1 (by rw [← ht]; exact hB.1) (hF hF1)
theorem gx_callv {y : MethodName} {ws : List Cond} {rm : Room} {Pw : Prop} {post : gS → Prop} {XX : String → gS → Prop} {bytes : ByteArray} {maxL n index : Nat} {ret : Option FieldType}
    (F : CallFix p m c cc nL s args Ts own) (hM : gxMet l y ws rm (gPre Y (.ref b :: As) S H.size Pw) Y H.size (va_Qv post (gB Y) (gA Y H.size)) XX) (cw : CallW R s args own C index y bytes maxL ret ws rm 1 6 n) (hp : PreV s H C b (gPre Y (.ref b :: As) S H.size Pw) As)
    (hn : As.length = n) (hsize : ls.size = nL) (hstack : st0 = As.reverse ++ .ref b :: rest) (hW : 2 * (F0 m pc ls st0).monitorRoom + (rest.map fun v => v.category).sum ≤ 8) (hdg : decode cc pc = .ok (.invokevirtual index, 3)) (hf : cells + 1 ≤ R.cells ∧ slots + 6 ≤ R.slots) (hS : va_S (gA Y s.heap.size) s.heap H locs)
    (kx : ∀ (E : String) (S1 : gS) (q : Addr) (ce : Cell) (H1 : Heap) (locs1 : List Loc), XX E S1 → gWd Y S1 H1 → va_S (gA Y s.heap.size) s.heap H1 locs1 → H1[q]? = some ce → ce.vm = .none → s.vm.findClass E = some ce.cls → gxW p l e R s m args below meth c H1 locs1 (cells + 1) (slots + 6) Q (F0 m pc ls rest) q)
    (kk : ∀ (S1 : gS) (H1 : Heap) (locs1 : List Loc), post S1 → gWd Y S1 H1 → va_S (gA Y s.heap.size) s.heap H1 locs1 → W p l e R s m args below meth c H1 locs1 (cells + 1) (slots + 6) Q (F0 m (pc + 3) ls rest)) : W p l e R s m args below meth c H locs cells slots Q (F0 m pc ls st0) := by
  refine gx_call F hM cw hp hn hsize hstack hW hdg hf hS kx (fun v st t H1 locs1 h0 ht hq hF => ?_)
  obtain ⟨⟨u, hv, hp1, hB⟩, hF1⟩ := hq
  cases hv
  exact kk u H1 locs1 hp1 (by rw [← ht]; exact hB.1) (hF hF1)
/-- a row of the table whose class is linked, looked up already or not: the search there is the search behind the looking up -/
theorem gx_warm {x : ExceptionTableEntry} {t : List ExceptionTableEntry} {f : JFrame} {q : Addr} {cz : ClassId} {U : State} {K : Handler → Pre} {Er : CtlPost} {d : Bool} {acts : List Action}
    (hx : covers x f.pc = true) (h0 : x.catchType ≠ 0) (hl : U.vm.ClassLinks e.platform f.method.cls x.catchType cz) :
    wp (findHandler.go f q (x :: t)) K Er e d acts U ↔ wp (findHandler.go f q (x :: t)) K Er e d acts (U.setVm (U.vm.noted f.method.cls x.catchType (.cls cz))) := by
  simp only [covers] at hx
  obtain ⟨ha, ht⟩ := (resolveClass_links e.toSetting hl).op (op := VmOp.resolveClass f.method.cls x.catchType) rfl
  obtain ⟨k, hkd, hres⟩ := hl.ready
  simp [findHandler.go, hx, h0, ha, ht, resolveClass_memo e hkd hres, VmOp.dirties, VmOp.acts]
  exact Iff.rfl
/-- one such row, seen from the method's entry s: it catches, or the search goes on, the class noted -/
theorem gx_row {x : ExceptionTableEntry} {f : JFrame} {q : Addr} {ce : Cell} {cz : ClassId} {U : State} (hv : ce.vm = .none) (hk : ∃ k, s.vm.classes[ce.cls]? = some k) (hU : s.WarmedH U.vm) (hq : U.heap[q]? = some ce)
    (hx : covers x f.pc = true) (h0 : x.catchType ≠ 0) (hl : s.vm.ClassLinks e.platform f.method.cls x.catchType cz) :
    ∃ V : Vm, s.WarmedH V ∧ ∀ (t : List ExceptionTableEntry) (K : Handler → Pre) (Er : CtlPost) (d : Bool) (acts : List Action), wp (findHandler.go f q (x :: t)) K Er e d acts U ↔
      if s.vm.assignable ce.cls cz = true then K (.found x.handlerPc) d acts (U.setVm V) else wp (findHandler.go f q t) K Er e d acts (U.setVm V) := by
  obtain ⟨k, hk⟩ := hk
  obtain ⟨dk, cf, nm, kz, hd, -, -, -, -, hkz, -, hopen⟩ := hl.here
  have hV : s.WarmedH (U.vm.noted f.method.cls x.catchType (.cls cz)) := hU.noted hd hopen (State.rightAt_cls hl)
  obtain ⟨k', hk', -⟩ := hV.alike.2.2 _ _ hk
  obtain ⟨kz', hkz', -⟩ := hV.alike.2.2 _ _ hkz
  have hlU := hU.classLinks hl
  refine ⟨_, hV, fun t K Er d acts => ?_⟩
  rw [gx_warm hx h0 hlU, Jvm.W.findHandler_go_class (s := U.setVm (U.vm.noted f.method.cls x.catchType (.cls cz))) (c := cz) (cell := ce) hx h0 hlU.ready hq (fun z h => by rw [hv] at h; cases h) ⟨k', hk'⟩ ⟨kz', hkz'⟩,
    show (U.setVm (U.vm.noted f.method.cls x.catchType (.cls cz))).vm.assignable ce.cls cz = s.vm.assignable ce.cls cz from hV.alike.assignable ..]
/-- the search through rows that do not take the object, up to one that does -/
theorem gx_seek {x : ExceptionTableEntry} {suf : List ExceptionTableEntry} {f : JFrame} {q : Addr} {ce : Cell} {cT : ClassId} (hv : ce.vm = .none) (hk : ∃ k, s.vm.classes[ce.cls]? = some k) (hx : covers x f.pc = true) (h0 : x.catchType ≠ 0)
    (hl : s.vm.ClassLinks e.platform f.method.cls x.catchType cT) (hfit : s.vm.assignable ce.cls cT = true) (pre : List ExceptionTableEntry) : ∀ U : State, s.WarmedH U.vm → U.heap[q]? = some ce →
    (∀ z ∈ pre, z.catchType ≠ 0 ∧ ∃ cz : ClassId, s.vm.ClassLinks e.platform f.method.cls z.catchType cz ∧ s.vm.assignable ce.cls cz = false) →
    ∃ V : Vm, s.WarmedH V ∧ ∀ (K : Handler → Pre) (Er : CtlPost) (d : Bool) (acts : List Action), wp (findHandler.go f q (pre ++ x :: suf)) K Er e d acts U ↔ K (.found x.handlerPc) d acts (U.setVm V) := by
  induction pre with
  | nil =>
    intro U hU hq _
    obtain ⟨V, hV, hr⟩ := gx_row (e := e) hv hk hU hq hx h0 hl
    exact ⟨V, hV, fun K Er d acts => (hr suf K Er d acts).trans (by rw [if_pos hfit])⟩
  | cons y ys ih =>
    intro U hU hq hno
    have hys : ∀ z ∈ ys, z.catchType ≠ 0 ∧ ∃ cz : ClassId, s.vm.ClassLinks e.platform f.method.cls z.catchType cz ∧ s.vm.assignable ce.cls cz = false := fun z hz => hno z (List.mem_cons_of_mem _ hz)
    cases hc : covers y f.pc with
    | false =>
      obtain ⟨V, hV, hr⟩ := ih U hU hq hys
      exact ⟨V, hV, fun K Er d acts => (Jvm.W.findHandler_go_skip hc).trans (hr K Er d acts)⟩
    | true =>
      obtain ⟨hy0, cz, hly, hn⟩ := hno y (List.mem_cons_self ..)
      obtain ⟨V1, hV1, hr1⟩ := gx_row (e := e) hv hk hU hq hc hy0 hly
      obtain ⟨V, hV, hr⟩ := ih (U.setVm V1) hV1 hq hys
      exact ⟨V, hV, fun K Er d acts => ((hr1 (ys ++ x :: suf) K Er d acts).trans (by rw [hn, if_neg Bool.false_ne_true])).trans (hr K Er d acts)⟩
/-- the step of the unwinding that finds a handler, where the search has noted classes -/
theorem gx_found {f : JFrame} {q : Addr} {U : State} {V : Vm} {h : Nat} {r : List Frame}
    (hw : ∀ (K : Handler → Pre) (Er : CtlPost) (d : Bool) (acts : List Action), wp (findHandler f q) K Er e d acts U ↔ K (.found h) d acts (U.setVm V)) :
    (stepThrowing e U q (.java f :: r)).1 = (U.setVm V).setFrames (.java { f with pc := h, stack := [.ref q] } :: r) := by
  simp only [stepThrowing, searchFrame, vmDo]
  generalize hr : Sem.go _ e false [] U = res
  obtain ⟨as, rfl, -⟩ := Sem.eq_ok_of hr (a := Handler.found h) (s' := U.setVm V) (acts' := []) (by simp [hw])
  rfl
/-- caught by the row x; the rows ahead name classes that the object is none of -/
theorem gx_catch {name E : String} {ce : Cell} {q : Addr} (hown : s.vm.findClass own = some m.cls) (pre : List ExceptionTableEntry) (x : ExceptionTableEntry) (suf : List ExceptionTableEntry) (hsplit : c.exceptionTable.toList = pre ++ x :: suf)
    (hpass : ∀ z ∈ pre, z.catchType ≠ 0 ∧ ∃ nm : String, (Cond.classLink own z.catchType nm).before args s = true ∧ (Cond.not (Cond.castable E nm)).before args s = true) (hx : covers x pc = true) (h0 : x.catchType ≠ 0)
    (hlink : (Cond.classLink own x.catchType name).before args s = true) (hcast : (Cond.castable E name).before args s = true) (hcell : H[q]? = some ce) (hv : ce.vm = .none) (hcl : s.vm.findClass E = some ce.cls)
    (kk : W p l e R s m args below meth c H locs cells slots Q (F0 m x.handlerPc ls [.ref q])) : gxW p l e R s m args below meth c H locs cells slots Q (F0 m pc ls rest) q := by
  intro T hT X
  have hpl : e.platform.magicAccessors = ({} : Platform).magicAccessors := by rw [X.admits.platform]
  obtain ⟨c3, cT, hc3, hcT, hasg⟩ := Cond.castable_spec hcast
  cases Option.some.inj (hc3.symm.trans hcl)
  obtain ⟨cT', hcT', hln⟩ := Cond.classLink_spec hown hlink e.platform hpl
  cases Option.some.inj (hcT.symm.trans hcT')
  obtain ⟨V, hV, hs⟩ := gx_seek (e := e) (f := F0 m pc ls rest) (suf := suf) hv (Vm.classAt_of_findClass hcl) hx h0 hln hasg pre ((T.setTop (F0 m pc ls rest)).pushFrame (.throwing q)) X.warmed (by rw [← hT] at hcell; exact hcell)
    (fun z hz => by
      obtain ⟨hz0, nm, hl1, hno⟩ := hpass z hz
      obtain ⟨cz, hcz, hlz⟩ := Cond.classLink_spec hown hl1 e.platform hpl
      have hn := Cond.holds_not_iff.mp hno
      simp only [Cond.value, hcl, hcz] at hn
      exact ⟨hz0, cz, hlz, Option.some.inj hn⟩)
  obtain ⟨t, a1, b1⟩ := kk (T.setVm V) hT (X.noted hV)
  refine ⟨t, ?_, b1⟩
  have hat : At T (F0 m pc ls rest).method c below := X.here
  obtain ⟨g0, hr⟩ := X.frames_eq
  obtain ⟨hgo, hin⟩ := hat.throwing q
  refine Steps.head hgo hin ?_
  rw [stepThread_throwing (frames_entered hat.top _), gx_found (h := x.handlerPc) (V := V) (fun K Er d acts => (Jvm.W.findHandler_eq (meth := meth) (code := c) X.method' X.code).trans (by rw [hsplit]; exact hs K Er d acts)), hr]
  have hend : (((T.setTop (F0 m pc ls rest)).pushFrame (.throwing q)).setVm V).setFrames (.java (F0 m x.handlerPc ls [.ref q]) :: below) = (T.setVm V).setTop (F0 m x.handlerPc ls [.ref q]) := by
    rw [State.setTop_of_frames (s := T.setVm V) _ hr, State.pushFrame, State.setTop_of_frames (s := T) _ hr]
    show (((T.setVm V).setFrames _).setFrames _).setFrames _ = _
    rw [State.setFrames_setFrames, State.setFrames_setFrames]
  exact Eq.subst (motive := fun u => Steps p.tables e below u t) hend.symm a1
end
theorem gx_table {p : Program} {l : Launch} {y : MethodName} {Sp : Spec} {cc bytes : ByteArray} {maxL maxL' : Nat} {ret ret' : Option FieldType} {e : Env} {s s₁ : State} {m : MethodId} {args : Array Value} {below : List Frame} {meth : Method} {c : Code} {hh : List (Nat × Nat × Nat × Nat)}
    (B : BodyLoose p l y Sp cc maxL ret e s m args below meth c s₁) (h : (Cond.codeWith y bytes maxL' ret' hh).before args s = true) : c.exceptionTable.toList = tableOf hh := by
  obtain ⟨m9, meth9, c9, hn9, h1, h2, -, -, h6, -⟩ := Cond.codeWith_spec h
  cases Option.some.inj (hn9.symm.trans B.named)
  cases Option.some.inj (h1.symm.trans B.method)
  cases Option.some.inj (h2.symm.trans (Stand.of_body B).code)
  rw [← h6, table_eq]
theorem gx_castY {Y : gY} {s : State} (hSt : gSt Y s.heap.size s) (a' : Array Value) {ic : Nat} {E : String} (hq : (ic, E) ∈ gxExc) : (Cond.castable E E).before a' s = true :=
  hSt.2.2 s a' (State.WarmedH.refl s) (fun _ _ _ => rfl) _ (List.mem_append_left _ (List.mem_flatMap.mpr ⟨(ic, E), hq, by simp [gxWords, gxWordsX, gxTail]⟩))
theorem gx_castN {Y : gY} {s : State} (hSt : gSt Y s.heap.size s) (a' : Array Value) {E F : String} (hq : (E, F) ∈ gxNo) : (Cond.not (Cond.castable E F)).before a' s = true :=
  hSt.2.2 s a' (State.WarmedH.refl s) (fun _ _ _ => rfl) _ (List.mem_append_right _ (List.mem_append_right _ (List.mem_map.mpr ⟨(E, F), hq, rfl⟩)))
