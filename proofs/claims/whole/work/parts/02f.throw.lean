/-! 'throw new E(text)': E's constructor hands its text up by a link of its own number; no stack traces. -/
theorem gxIx_ok (E : String) : decode (gxIx E).2 0 = .ok (.aload_n 0, 1) ∧ decode (gxIx E).2 1 = .ok (.aload_n 1, 1) ∧ decode (gxIx E).2 2 = .ok (.invokespecial (gxIx E).1, 3) ∧ decode (gxIx E).2 5 = .ok (.return_, 1) := by
  unfold gxIx
  split
  · exact ⟨by decide +kernel, by decide +kernel, by decide +kernel, by decide +kernel⟩
  · exact ⟨by decide +kernel, by decide +kernel, by decide +kernel, by decide +kernel⟩
section
variable {p : Program} {l : Launch} {e : Env} {R : Room} {s : State} {m₀ : MethodId} {args : Array Value} {below : List Frame} {meth : Method} {c : Code} {W : State} {locs : List Loc} {cells slots : Nat}
set_option maxHeartbeats 1000000 in
theorem gx_ctor (X : Stand p l e R s m₀ args below meth c W locs cells slots) (hexec : p.tables.exec = Jvm.exec) (htr : e.platform.stackTraces = false) {own E : String} {ic ix : Nat} {rx : ByteArray}
    (x0 : decode rx 0 = .ok (.aload_n 0, 1)) (x1 : decode rx 1 = .ok (.aload_n 1, 1)) (x2 : decode rx 2 = .ok (.invokespecial ix, 3)) (x5 : decode rx 5 = .ok (.return_, 1))
    (hown : s.vm.findClass own = some m₀.cls) (hE : Bundle.fit E = true) (h : ∀ w ∈ gxWordsX own ic E ix rx, w.before args s = true)
    (hlocs : ∀ x ∈ locs, ∀ cell, s.heap[x.base]? = some cell → cell.vm.isStatics = false)
    {a : Addr} {cX : ClassId} {kX : Class} (hfX : s.vm.findClass E = some cX) (hkX : s.vm.classes[cX]? = some kX) (hcell : W.heap[a]? = some (freshCell cX kX)) (hnew : s.heap.size ≤ a)
    {msg : Value} (hmsg : msg.isRef = true)
    {g : JFrame} (hg : g.method = m₀) (hsize : g.locals.size = c.maxLocals) (hlocked : g.locked = none) (hentered : g.entered = []) {rest : List Value} (hstack : g.stack = msg :: .ref a :: .ref a :: rest)
    (hd6 : decode c.code g.pc = .ok (.invokespecial ic, 3)) (hd9 : decode c.code (g.pc + 3) = .ok (.athrow, 1)) (hout : ∀ x ∈ c.exceptionTable.toList, covers x (g.pc + 3) = false)
    (hRf : 5 < R.frames) (hRl : 2 * g.monitorRoom + ((Value.ref a :: rest).map fun v => v.category).sum + 81 ≤ R.locals) (hlocks : meth.locks = false) :
    ∃ U : State, Steps p.tables e below (W.setTop g) U ∧ U.status = .running ∧ Ended U below (.threw a) ∧ s.WarmedH U.vm ∧ s.sameButNew ({ U with vm := s.vm } : State) locs cells slots ∧
      ∃ ce, U.heap[a]? = some ce ∧ s.vm.findClass E = some ce.cls ∧ ce.vm = .none := by
  have hpl : e.platform.magicAccessors = ({} : Platform).magicAccessors := by rw [X.admits.platform]
  -- the words, by their groups
  have hA : ∀ w ∈ Bundle.throwableAtoms, w.before args s = true := fun w hw => h w (List.mem_append_left _ hw)
  have hB : ∀ w ∈ Bundle.throwableSAtoms, w.before args s = true := fun w hw => h w (List.mem_append_right _ (List.mem_append_left _ hw))
  have hC : ∀ w ∈ Bundle.passSAtoms E gxUp ix rx, w.before args s = true := fun w hw => h w (List.mem_append_right _ (List.mem_append_right _ (List.mem_append_left _ hw)))
  have hD : ∀ w ∈ Bundle.chainSAtoms gxUp ["java/lang/Exception"], w.before args s = true := fun w hw => h w (List.mem_append_right _ (List.mem_append_right _ (List.mem_append_right _ (List.mem_append_left _ hw))))
  have last : ∀ w ∈ gxTail own ic E, w.before args s = true :=
    fun w hw => h w (List.mem_append_right _ (List.mem_append_right _ (List.mem_append_right _ (List.mem_append_right _ hw))))
  obtain ⟨T, Z0, L, -, Y⟩ := ThrowableC.of_atoms (args := args) (by rw [X.admits.platform]) (by rw [X.admits.platform]) hpl hA
  obtain ⟨Z, M, LZ, LM, hnZ⟩ := Init0T.ofS_atoms (args := args) hpl L Y hB
  obtain ⟨P1, L1, hP1, hPup⟩ := PassC.ofS_atoms (args := args) (s := s) hpl (X := E) (Y := gxUp) (Bundle.fit_spec hE).1 (by decide) x0 x1 x2 x5 hC
  obtain ⟨P2, Ps, hlen, L2, hLs, hP2, hup2, hon⟩ := Bundle.chainS (args := args) hpl hnZ ["java/lang/Exception"] gxUp (by decide +kernel) (by decide +kernel) hD
  have hup1 : P1.sup = P2.m := Option.some.inj (hPup.symm.trans hP2)
  have hfE : s.vm.findClass E = some P1.m.cls := findClass_of_methodNamed hP1
  have ecX : cX = P1.m.cls := Option.some.inj (hfX.symm.trans hfE)
  subst ecX
  obtain ⟨c1, k1, hc1, hk1, hord, -, -, -⟩ := Cond.instantiable_spec (last (.instantiable E 6) (by simp [gxTail]))
  have ec1 : c1 = P1.m.cls := Option.some.inj (hc1.symm.trans hfE)
  subst ec1
  have ek1 : k1 = kX := Option.some.inj (hk1.symm.trans hkX)
  subst ek1
  -- fillInStackTrace is Throwable's own
  have hsel0 : selectMethod e.platform s.vm P1.m.cls T.fill0 = .method T.fill0 := by
    obtain ⟨c2, r2, m2, q1, q2, q3, q4, -⟩ := Cond.selects_spec (last (.selects E Bundle.tFill0 Bundle.tFill0) (by simp [gxTail]))
    have e1 := Option.some.inj (q1.symm.trans hfE)
    have e2 := Option.some.inj (q2.symm.trans (State.methodFound?_of_named Y.fill0 (by decide)))
    have e3 := Option.some.inj (q3.symm.trans Y.fill0)
    rw [e1, e2, e3] at q4
    rw [Launch.admits_selectMethod X.admits]; exact q4
  have hselF : selectMethod e.platform s.vm P1.m.cls T.fill = .method T.fill := by
    obtain ⟨c2, r2, m2, q1, q2, q3, q4, -⟩ := Cond.selects_spec (last (.selects E Bundle.tFill Bundle.tFill) (by simp [gxTail]))
    have e1 := Option.some.inj (q1.symm.trans hfE)
    have e2 := Option.some.inj (q2.symm.trans (State.methodFound?_of_named Y.fill (by decide)))
    have e3 := Option.some.inj (q3.symm.trans Y.fill)
    rw [e1, e2, e3] at q4
    rw [Launch.admits_selectMethod X.admits]; exact q4
  -- Throwable's two constants
  obtain ⟨cs, hcs, hst⟩ := Y.statics
  obtain ⟨u0, hu0⟩ := Cond.staticRefV Y.unassigned L.unassignedStatic L.statics hcs hst (last (.isRef (.static Bundle.tN "UNASSIGNED_STACK" Bundle.steD)) (by simp [gxTail]))
  obtain ⟨sen, hsen⟩ := Cond.staticRefV Y.sentinel L.sentinelStatic L.statics hcs hst (last (.isRef (.static Bundle.tN "SUPPRESSED_SENTINEL" Bundle.listD)) (by simp [gxTail]))
  obtain ⟨csW, hcsW, hvm, -, hkeep⟩ := X.same.2.2.2.2.2 T.aS cs hcs
  have hfar : ∀ i, (⟨T.aS, i⟩ : Loc) ∉ locs := fun i hm => by
    have := hlocs _ hm cs hcs
    rw [hst] at this
    cases this
  have hkn : csW.vm ≠ .unknown := fun hu => by
    rw [hvm] at hu
    rw [show cs.vm = .unknown from hu] at hst
    cases hst
  have hne : T.aS ≠ a := Nat.ne_of_lt (Nat.lt_of_lt_of_le (Array.getElem?_eq_some_iff.mp hcs).1 hnew)
  -- its fields in E
  obtain ⟨ci198, i198, fB, hk198, hg198, ha198, hsB, -, hnB, htB, hffB⟩ := Cond.ownField (t := .object "java/lang/Object") Y.found L.cls (by decide +kernel) (last (.fieldLink Bundle.tN 198 Bundle.tN "backtrace" "Ljava/lang/Object;") (by simp [gxTail])) (last (.lays Bundle.tN Bundle.tN "backtrace" "Ljava/lang/Object;") (by simp [gxTail])) e.platform hpl
  obtain ⟨iM, hffM⟩ := Y.msg
  obtain ⟨tyC, dC, hdC, hnC⟩ := Cond.laysAt hfE hkX Y.cause (last (.lays E Bundle.tN "cause" "Ljava/lang/Throwable;") (by simp [gxTail]))
  obtain ⟨tyS, dS, hdS, hnS⟩ := Cond.laysAt hfE hkX Y.stack (last (.lays E Bundle.tN "stackTrace" Bundle.steD) (by simp [gxTail]))
  obtain ⟨tyP, dP, hdP, hnP⟩ := Cond.laysAt hfE hkX Y.supp (last (.lays E Bundle.tN "suppressedExceptions" Bundle.listD) (by simp [gxTail]))
  obtain ⟨tyM, dM, hdM, hnM⟩ := Cond.laysAt hfE hkX hffM (last (.lays E Bundle.tN "detailMessage" "Ljava/lang/String;") (by simp [gxTail]))
  obtain ⟨tyB, dB, hdB, hnB'⟩ := Cond.laysAt hfE hkX hffB (last (.lays E Bundle.tN "backtrace" "Ljava/lang/Object;") (by simp [gxTail]))
  have b1 := Cond.laysApart hdB hdC hnB' hnC (by rw [hnB, Y.causeName]; decide)
  have b2 := Cond.laysApart hdB hdS hnB' hnS (by rw [hnB, Y.stackName]; decide)
  have b3 := Cond.laysApart hdB hdP hnB' hnP (by rw [hnB, Y.suppName]; decide)
  have hnull := fresh_default (c := P1.m.cls) tyB
  rw [htB] at hnull
  have hskip : SkipFacts T e.platform s (fun u => u) u0 ((preparedCellV T.toThrowableT (freshCell P1.m.cls k1) a u0 sen).withEntry W.cur) :=
    ⟨{ ci198 := ci198, i198 := i198, fBack := fB }, ⟨hk198, hg198, ha198, hsB⟩, by
      simpa [preparedCellV, Cell.setSlot, Cell.withEntry, Array.getElem?_setIfInBounds, b1, b2, b3, b1.symm, b2.symm, b3.symm, defaultValue] using hnull, fun _ _ => rfl⟩
  -- into the constructor
  obtain ⟨tm, methT, cdT, kT, vm₁, hnT, -, -, -, -, -, -, -, hW₁, st1⟩ := Steps.initColdS (tb := p.tables) (e := e) (below := below) (s := s) (U := W) X.here hexec X.warmed hpl hown (t := Bundle.initS E) rfl rfl (Bundle.fit_spec hE).2
    (last (.methodLink own ic (Bundle.initS E)) (by simp [gxTail])) (hC (.instanceMethod (Bundle.initS E)) (by simp [Bundle.passSAtoms])) (bytes := rx) (maxL := 2) (hC (.code (Bundle.initS E) rx 2 none) (by simp [Bundle.passSAtoms]))
    (f := g) hg (a := a) (msg := msg) (rest := .ref a :: rest) hstack hd6
  have etm : tm = P1.m := Option.some.inj (hnT.symm.trans hP1)
  subst etm
  have hlen2 : Ps.length = 1 := hlen
  obtain ⟨vm₂, X₂, st2⟩ := (X.noted hW₁).ctorMessageOffV hexec (g := { g with stack := .ref a :: rest }) hg hsize T L Z LZ M LM (P1 :: P2 :: Ps)
    (fun P hP => by
      rcases List.mem_cons.mp hP with z | hP
      · rw [z]; exact L1
      · rcases List.mem_cons.mp hP with z | hP
        · rw [z]; exact L2
        · exact hLs P hP)
    ⟨hup1, hup2, hon⟩ (u0 := u0) (sen := sen) (self := a) hmsg (cell := freshCell P1.m.cls k1) (cellS := csW)
    hcell (fun _ => by simp) (by simp) rfl rfl hsel0 hselF hcsW hne hkn (by rw [hkeep _ (hfar _)]; exact hu0) (by rw [hkeep _ (hfar _)]; exact hsen)
    (Takes.of_laid hkX hord tyC (by rw [Y.causeType]; rfl)) (Takes.of_laid hkX hord tyS (by rw [Y.stackType]; exact fits_refV_array _ u0)) (Takes.of_laid hkX hord tyP (by rw [Y.suppType]; exact fits_refV_object _ sen))
    (Takes.of_laid hkX hord tyM (by rw [Y.msgType]; exact fits_refV_object _ ⟨msg, hmsg⟩)) Y.objLocals hskip htr [] hd6
    (by simp only [List.length_cons, hlen2]; omega) (by simp only [List.length_cons, hlen2]; omega)
  -- and out of it
  obtain ⟨hwalk, hrun, hended, hWU, hsame⟩ := X₂.athrowLeaves hexec (g := { g with stack := .ref a :: rest, pc := g.pc + 3 }) hg hlocked hentered hout (a := a) (rest := rest) rfl hd9
  have hlt : a < ((W.setVm vm₁).setVm vm₂).heap.size := (Array.getElem?_eq_some_iff.mp hcell).1
  refine ⟨_, st1 _ (fun acts => ?_), hrun, hended, hWU, hsame.weaken (fun y hy hlt' => ?_) (Nat.le_refl _) (Nat.le_refl _), _, heapAt_setCell_self (s := (W.setVm vm₁).setVm vm₂) (plainBareV T.toThrowableT (freshCell P1.m.cls k1) a u0 sen msg) hlt, hfE, rfl⟩
  · rw [doInvoke_state]
    exact st2 _ hwalk
  · rcases List.mem_append.mp hy with h1 | h1
    · exact h1
    · exfalso
      have hb : y.base = a := by
        simp only [List.mem_cons, List.not_mem_nil, or_false] at h1
        rcases h1 with rfl | rfl | rfl | rfl | rfl <;> rfl
      rw [hb] at hlt'
      exact Nat.not_lt.mpr hnew hlt'
end
/-! 'throw new E("..")' in a launch without stack traces. -/
section
variable {p : Program} {l : Launch} {e : Env} {R : Room} {s : State} {m : MethodId} {args : Array Value} {below : List Frame} {meth : Method} {c : Code} {locs : List Loc} {cells slots : Nat}
/-- the state that a walk has come to, taken as a start of its own (the tables those of the first start) -/
abbrev gx_here (s T : State) (m : MethodId) (args : Array Value) (below : List Frame) : State := (T.setVm s.vm).setFrames (.invoking m args :: below)
theorem gx_anew {T : State} (X : Stand p l e R s m args below meth c T locs cells slots) {R' : Room} (h1 : R'.frames ≤ R.frames) (h2 : R'.locals ≤ R.locals) (h3 : cells + R'.cells ≤ R.cells) (h4 : slots + R'.slots ≤ R.slots) :
    Stand p l e R' (gx_here s T m args below) m args below meth c T [] 0 0 := by
  have htop : (T.setVm s.vm).topJava?.isSome := X.here.top
  have hF : (gx_here s T m args below).frames = .invoking m args :: below := State.frames_setFrames _ (State.cur_lt_of_top htop)
  obtain ⟨g₀, hg⟩ := Option.isSome_iff_exists.mp htop
  obtain ⟨r, hr⟩ := State.topJava?_eq_some.mp hg
  have k1 : e.platform.stackLimits (T.setVm s.vm).me = e.platform.stackLimits s.me := X.limits
  have k2 : (T.setVm s.vm).me.stackBytes = s.me.stackBytes := X.bytes
  constructor
  case admits => exact X.admits
  case cas => exact X.cas
  case clock => exact X.clock
  case frames => exact hF
  case hears => exact X.hears
  case method => exact X.method
  case code => exact X.code
  case here => exact X.here
  case tail => exact X.tail
  case warmed => exact X.warmed
  case limits =>
    rw [State.stackLimits_setFrames]
    rfl
  case bytes =>
    rw [State.stackBytes_setFrames]
    rfl
  case same =>
    refine ⟨?_, Nat.le_refl _, Nat.le_refl _, ?_, ?_, fun a c9 h9 => ⟨c9, h9, rfl, rfl, fun _ _ => rfl⟩⟩
    · obtain ⟨t, ht, -⟩ := State.frames_cons hr
      show T.setVm s.vm = { (gx_here s T m args below).setFrames (T.setVm s.vm).frames with heap := T.heap, slotsUsed := T.slotsUsed }
      rw [State.setFrames_setFrames, State.setFrames_self ht]
      rfl
    · show T.slotsUsed = T.slotsUsed + ((T.heap.toList.drop T.heap.size).map (·.slots.size)).sum
      rw [List.drop_eq_nil_of_le (Nat.le_of_eq Array.length_toList)]
      rfl
    · show ((T.heap.toList.drop T.heap.size).map (·.slots.size)).sum ≤ 0
      rw [List.drop_eq_nil_of_le (Nat.le_of_eq Array.length_toList)]
      exact Nat.le_refl _
  case room =>
    have hroom := X.room
    have hin : (gx_here s T m args below).localsInUse = s.localsInUse := by
      rw [State.localsInUse_invoking hF (meth := meth) (c := c) X.method X.code, State.localsInUse_invoking X.frames X.method X.code]
    have b1 := X.heapSize
    have b2 := X.used
    have b3 := X.book
    simp only [State.hasRoom, Bool.and_eq_true, decide_eq_true_eq] at hroom ⊢
    obtain ⟨⟨⟨⟨r1, r2, r3, r4, r5, r6⟩, r7⟩, r8⟩, r9⟩ := hroom
    rw [X.frames, List.length_cons] at r2 r3
    simp only [hF, hin, List.length_cons, State.stackLimits_setFrames, State.stackBytes_setFrames, k1, k2]
    refine ⟨⟨⟨⟨by omega, by omega, by omega, by omega, by omega, r6⟩, ?_⟩, ?_⟩, b3⟩
    · show T.heap.size + R'.cells ≤ e.platform.maxCells
      omega
    · show T.slotsUsed + R'.slots ≤ e.platform.maxSlots
      omega
theorem gx_kept {T U : State} {k n : Nat} (h : (gx_here s T m args below).sameButNew ({ U with vm := s.vm } : State) [] k n) : T.heap.size ≤ U.heap.size ∧ ∀ q : Nat, q < T.heap.size → U.heap[q]? = T.heap[q]? := by
  obtain ⟨-, h2, -, -, -, h6⟩ := h
  refine ⟨h2, fun q hq => ?_⟩
  obtain ⟨c9, e1, e2, e3, e4⟩ := h6 q _ (Array.getElem?_eq_getElem hq)
  have hs : c9.slots = (T.heap[q]).slots := Array.ext_getElem? fun i => e4 i (fun hm => by cases hm)
  have h9 : c9 = T.heap[q] := by
    rw [hs] at e2
    exact e2
  have e5 : U.heap[q]? = some c9 := e1
  rw [e5, h9, Array.getElem?_eq_getElem hq]
theorem gWd_grow {Y : gY} {S : gS} {H H1 : Heap} (h : gWd Y S H) (hk : ∀ q : Nat, q < H.size → H1[q]? = H[q]?) : gWd Y S H1 := va_P.kept h (fun k q hq => hk q.1 (h k q hq).lt)
/-- new; dup; the text; the constructor; athrow -/
theorem gx_throw {H : Heap} {Y : gY} {S : gS} {Qc : Array Value → State → Outcome → State → Prop} {XX : String → gS → Prop} {cc : ByteArray} {pc : Nat} {ls : Array Slot} {rest : List Value} (hx : p.tables.exec = Jvm.exec) (hb : c.code = cc) (hl : l.stackTraces = false) {own E : String} {ik ic pc2 : Nat} {sa : Nat}
    (hown : s.vm.findClass own = some m.cls) (hE : Bundle.fit E = true)
    (hk : (Cond.classLink own ik E).before args s = true) (hini : (Cond.initialized E).before args s = true)
    (hat : ∀ T : State, T.heap = H → ∀ w ∈ gxWords own ic E, w.before args (gx_here s T m args below) = true)
    (hS : va_S (gA Y s.heap.size) s.heap H locs) (hP : gWd Y S H) (hsize : ls.size = c.maxLocals)
    (d0 : decode cc pc = .ok (.new ik, 3)) (d3 : decode cc (pc + 3) = .ok (.dup, 1)) (dm : decode cc pc2 = .ok (.invokespecial ic, 3)) (da : decode cc (pc2 + 3) = .ok (.athrow, 1))
    (hld : ∀ (s' T1 : State) (R' : Room) (a : Addr), s'.vm = s.vm → Stand p l e R' s' m args below meth c T1 [] (0 + 1) (0 + 6) → ∀ target, Steps p.tables e below (T1.setTop (F0 m pc2 ls (.ref sa :: .ref a :: .ref a :: rest))) target → Steps p.tables e below (T1.setTop (F0 m (pc + 4) ls (.ref a :: .ref a :: rest))) target)
    (hout : ∀ x ∈ c.exceptionTable.toList, False) (hRf : 5 < R.frames) (hRl : (rest.map fun v => v.category).sum + 82 ≤ R.locals) (hRc : cells + 1 ≤ R.cells) (hRs : slots + 6 ≤ R.slots) (hlocks : meth.locks = false)
    (hw : XX E S) (hc : cells + 1 ≤ 1) (hs : slots + 6 ≤ 6) :
    W p l e R s m args below meth c H locs cells slots (gxZ below Y Qc XX args s) (F0 m pc ls rest) := by
  intro T hT X
  have htr : e.platform.stackTraces = false := (show e.platform.stackTraces = l.stackTraces by rw [X.admits.platform]).trans hl
  have hwords := hat T hT
  have Z := gx_anew X (R' := { frames := R.frames, locals := R.locals, cells := 1, slots := 6 }) (Nat.le_refl _) (Nat.le_refl _) hRc hRs
  have hW0 : s.WarmedH (gx_here s T m args below).vm := State.WarmedH.refl s
  have hk' : (Cond.classLink own ik E).before args (gx_here s T m args below) = true := va_tabs (u := s) rfl rfl hk
  have hini' : (Cond.initialized E).before args (gx_here s T m args below) = true := va_tabs (u := s) rfl rfl hini
  have hins : (Cond.instantiable E 6).before args (gx_here s T m args below) = true := hwords (.instantiable E 6) (by simp [gxWords, gxWordsX, gxTail])
  obtain ⟨vm₁, cX, kX, hfX, hkX, -, -, X₁, st1⟩ := Z.newCold hx (own := own) (C := E) (index := ik) (n := 6) hown hk' hins hini' (g := F0 m pc ls rest) rfl (by rw [hb]; exact d0) (Nat.le_refl _) (Nat.le_refl _)
  generalize hT1 : (T.setVm vm₁).pushCell { cls := cX, slots := kX.instanceTypes.map defaultValue, vm := .none } = T1 at X₁ st1
  have hcellA : T1.heap[T.heap.size]? = some (freshCell cX kX) := by rw [← hT1]; exact State.heap_pushCell_size _ _
  have d3' : decode c.code (pc + 3) = .ok (.dup, 1) := by rw [hb]; exact d3
  have hcat : (Value.ref T.heap.size).category = 1 := rfl
  obtain ⟨x0, x1, x2, x5⟩ := gxIx_ok E
  obtain ⟨U, hsteps, hrun, hend, hW, hsame, ce, hce, hcl, hvm0⟩ := gx_ctor X₁ hx htr (own := own) (E := E) (ic := ic) x0 x1 x2 x5 hown hE hwords (fun x hx => nomatch hx) hfX hkX hcellA (Nat.le_refl _) (msg := .ref sa) rfl
    (g := F0 m pc2 ls (.ref sa :: .ref T.heap.size :: .ref T.heap.size :: rest)) rfl hsize rfl rfl (rest := rest) rfl
    (by rw [hb]; exact dm) (by rw [hb]; exact da) (fun x hx => absurd (hout x hx) id) hRf (by simp only [List.map_cons, List.sum_cons, hcat]; show 2 * 0 + _ + _ ≤ R.locals; omega) hlocks
  obtain ⟨f1, f2⟩ := gx_kept hsame
  rw [hT] at f1 f2
  have hWs : s.WarmedH U.vm := hW
  have hcl : s.vm.findClass E = some ce.cls := hcl
  have hall : s.sameButNew ({ U with vm := s.vm } : State) locs 1 6 := by
    obtain ⟨e1, e2⟩ := hsame
    rw [State.setFrames_setFrames] at e1
    have h2 : (T.setVm s.vm).sameButNew ({ U with vm := s.vm } : State) [] (0 + 1) (0 + 6) := ⟨e1, e2⟩
    have h3 := X.same.trans h2
    rw [List.append_nil] at h3
    exact h3.mono hc hs
  refine ⟨U, ?_, .threw T.heap.size, hrun, hend, Or.inr ⟨T.heap.size, E, S, ce, locs, rfl, hw, gWd_grow hP f2, ⟨Nat.le_trans hS.1 f1, fun q h1 h2 => (f2 q (Nat.lt_of_lt_of_le h1 hS.1)).trans (hS.2.1 q h1 h2)⟩, hce, hvm0, hcl, hWs, hall, hS.2.2⟩⟩
  refine st1 _ ?_
  show Steps p.tables e below (T1.setTop { method := m, pc := pc + 3, locals := ls, stack := .ref T.heap.size :: rest, locked := none }) _
  jvm_step X₁.here [X₁.here.top, hx, d3', Value.category]
  exact hld (gx_here s T m args below) T1 _ T.heap.size rfl X₁ _ hsteps
theorem gx_hat {Y : gY} {H : Heap} (hSt : gSt Y s.heap.size s) (hS : va_S (gA Y s.heap.size) s.heap H locs) {ic : Nat} {E : String} (hq : (ic, E) ∈ gxExc) : ∀ T : State, T.heap = H → ∀ w ∈ gxWords "LogDisk" ic E, w.before args (gx_here s T m args below) = true := fun T hT w hw =>
  hSt.2.2 (gx_here s T m args below) args (State.WarmedH.refl s) (fun a h1 h2 => by show T.heap[a]? = _; rw [hT]; exact hS.2.1 a h1 h2) w (List.mem_append_left _ (List.mem_flatMap.mpr ⟨(ic, E), hq, hw⟩))
theorem gx_str {Y : gY} (hSt : gSt Y s.heap.size s) {is : Nat} {text : String} (hq : (is, text) ∈ gxStr) (a' : Array Value) {s' : State} (hv : s'.vm = s.vm) (hown : s.vm.findClass "LogDisk" = some m.cls) : (Cond.stringRef "LogDisk" is text).before a' s' = true ∧ ∃ a, (Term.string "LogDisk" is).eval a' s' none [] s' = some (.ref a) := by
  have h0 : (Cond.stringRef "LogDisk" is text).before a' s = true := hSt.2.2 s a' (State.WarmedH.refl s) (fun _ _ _ => rfl) _ (List.mem_append_right _ (List.mem_append_left _ (List.mem_map.mpr ⟨(is, text), hq, rfl⟩)))
  obtain ⟨k, cf, i, a, -, -, -, -, -, hev⟩ := Cond.stringRef_spec hown h0
  have h1 := vk_R.same hv (vk_R.of h0 hev)
  exact ⟨h1.1, a, h1.2⟩
theorem gx_throwS {H : Heap} {Y : gY} {S : gS} {Qc : Array Value → State → Outcome → State → Prop} {XX : String → gS → Prop} {cc : ByteArray} {pc : Nat} {ls : Array Slot} {rest : List Value} (hx : p.tables.exec = Jvm.exec) (hb : c.code = cc) (hl : l.stackTraces = false) {E text : String} {ik is ic : Nat}
    (hown : s.vm.findClass "LogDisk" = some m.cls) (hE : Bundle.fit E = true) (hk : (Cond.classLink "LogDisk" ik E).before args s = true) (hini : (Cond.initialized E).before args s = true) (hSt : gSt Y s.heap.size s) (hq : (ic, E) ∈ gxExc) (hq2 : (is, text) ∈ gxStr)
    (hS : va_S (gA Y s.heap.size) s.heap H locs) (hP : gWd Y S H) (hsize : ls.size = c.maxLocals)
    (d0 : decode cc pc = .ok (.new ik, 3)) (d3 : decode cc (pc + 3) = .ok (.dup, 1)) (d4 : decode cc (pc + 4) = .ok (.ldc is, 2)) (dm : decode cc (pc + 6) = .ok (.invokespecial ic, 3)) (da : decode cc (pc + 9) = .ok (.athrow, 1))
    (hout : ∀ x ∈ c.exceptionTable.toList, False) (hRf : 5 < R.frames) (hRl : (rest.map fun v => v.category).sum + 82 ≤ R.locals) (hRc : cells + 1 ≤ R.cells) (hRs : slots + 6 ≤ R.slots) (hlocks : meth.locks = false)
    (hw : XX E S) (hc : cells + 1 ≤ 1) (hs : slots + 6 ≤ 6) :
    W p l e R s m args below meth c H locs cells slots (gxZ below Y Qc XX args s) (F0 m pc ls rest) := by
  obtain ⟨-, sa, hsa⟩ := gx_str (m := m) hSt hq2 args rfl hown
  refine gx_throw (sa := sa) (pc2 := pc + 6) hx hb hl hown hE hk hini (gx_hat hSt hS hq) hS hP hsize d0 d3 dm da (fun s' T1 R' a hv X1 target h => ?_) hout hRf hRl hRc hRs hlocks hw hc hs
  obtain ⟨k1, sa', k2⟩ := gx_str (m := m) hSt hq2 args hv hown
  have e : sa' = sa := by
    have h3 := (vk_R.same hv.symm (vk_R.of k1 k2)).2
    have h4 : (Term.string "LogDisk" is).eval #[] s none [] s = some (.ref sa) := hsa
    rw [h4] at h3
    exact (Value.ref.inj (Option.some.inj h3)).symm
  subst e
  exact X1.ldcString hx (own := "LogDisk") (text := text) (index := is) (a := sa') (by rw [hv]; exact hown) k1 k2 (g := F0 m (pc + 4) ls (.ref a :: .ref a :: rest)) rfl (by rw [hb]; exact d4) target h
theorem gx_throwW {H : Heap} {Y : gY} {S : gS} {Qc : Array Value → State → Outcome → State → Prop} {XX : String → gS → Prop} {cc : ByteArray} {pc : Nat} {ls : Array Slot} {rest : List Value} (hx : p.tables.exec = Jvm.exec) (hb : c.code = cc) (hl : l.stackTraces = false) {E text : String} {ik is ic : Nat}
    (hown : s.vm.findClass "LogDisk" = some m.cls) (hE : Bundle.fit E = true) (hk : (Cond.classLink "LogDisk" ik E).before args s = true) (hini : (Cond.initialized E).before args s = true) (hSt : gSt Y s.heap.size s) (hq : (ic, E) ∈ gxExc) (hq2 : (is, text) ∈ gxStr)
    (hS : va_S (gA Y s.heap.size) s.heap H locs) (hP : gWd Y S H) (hsize : ls.size = c.maxLocals)
    (d0 : decode cc pc = .ok (.new ik, 3)) (d3 : decode cc (pc + 3) = .ok (.dup, 1)) (d4 : decode cc (pc + 4) = .ok (.ldc_w is, 3)) (dm : decode cc (pc + 7) = .ok (.invokespecial ic, 3)) (da : decode cc (pc + 10) = .ok (.athrow, 1))
    (hout : ∀ x ∈ c.exceptionTable.toList, False) (hRf : 5 < R.frames) (hRl : (rest.map fun v => v.category).sum + 82 ≤ R.locals) (hRc : cells + 1 ≤ R.cells) (hRs : slots + 6 ≤ R.slots) (hlocks : meth.locks = false)
    (hw : XX E S) (hc : cells + 1 ≤ 1) (hs : slots + 6 ≤ 6) :
    W p l e R s m args below meth c H locs cells slots (gxZ below Y Qc XX args s) (F0 m pc ls rest) := by
  obtain ⟨-, sa, hsa⟩ := gx_str (m := m) hSt hq2 args rfl hown
  refine gx_throw (sa := sa) (pc2 := pc + 7) hx hb hl hown hE hk hini (gx_hat hSt hS hq) hS hP hsize d0 d3 dm da (fun s' T1 R' a hv X1 target h => ?_) hout hRf hRl hRc hRs hlocks hw hc hs
  obtain ⟨k1, sa', k2⟩ := gx_str (m := m) hSt hq2 args hv hown
  have e : sa' = sa := by
    have h3 := (vk_R.same hv.symm (vk_R.of k1 k2)).2
    have h4 : (Term.string "LogDisk" is).eval #[] s none [] s = some (.ref sa) := hsa
    rw [h4] at h3
    exact (Value.ref.inj (Option.some.inj h3)).symm
  subst e
  exact X1.ldcStringW hx (own := "LogDisk") (text := text) (index := is) (a := sa') (by rw [hv]; exact hown) k1 k2 (g := F0 m (pc + 4) ls (.ref a :: .ref a :: rest)) rfl (by rw [hb]; exact d4) target h
theorem gx_ret {H : Heap} {Y : gY} {Qc : Array Value → State → Outcome → State → Prop} {XX : String → gS → Prop} {g : JFrame} (k : W p l e R s m args below meth c H locs cells slots (MQ below Qc args s 0 0 (gA Y s.heap.size)) g) : W p l e R s m args below meth c H locs cells slots (gxZ below Y Qc XX args s) g := by
  intro T hT X
  obtain ⟨t, a1, o, b1, b2, b3, L, b4, b5⟩ := k T hT X
  exact ⟨t, a1, o, b1, b2, Or.inl ⟨b3, L, ⟨b4.1, b4.2.1, b4.2.2.mono (Nat.zero_le _) (Nat.zero_le _)⟩, b5⟩⟩
end
theorem gx_ofW {l : Launch} {y : MethodName} {ws ws' : List Cond} {rm : Room} {Pc : Array Value → State → Prop} {Y : gY} {sz : Nat} {Qc : Array Value → State → Outcome → State → Prop} {XX : String → gS → Prop} {cc : ByteArray} {maxL : Nat} {ret : Option FieldType}
    (hy : plainName y.cls = true) (hw : ws = Cond.code y cc maxL ret :: ws')
    (body : ∀ p e s m args below meth c s₁, BodyLoose p l y (headSpec ws rm) cc maxL ret e s m args below meth c s₁ → c.maxLocals = maxL → (∀ x ∈ c.exceptionTable.toList, False) → Pc args s →
      s.heap.size = sz ∧ W p l e (headSpec ws rm).room s m args below meth c s.heap [] 0 0 (gxZ below Y Qc XX args s) (entryFrame m args maxL)) : gxMet l y ws rm Pc Y sz Qc XX := by
  refine MetFree.of_bodyS (code := cc) (maxLocals := maxL) (ret := ret) hy ?_ ?_
  · intro args s m h hn
    obtain ⟨meth, c, h1, h2, h3, h4, h5, h6, -, -⟩ := Cond.code_spec hn (atoms_spec (ws := ws) h _ (by rw [hw]; exact List.mem_cons_self))
    exact ⟨meth, c, h1, h2, h3, h4, h5, h6⟩
  · intro p e s m args below meth c s₁ B hml hP _
    have hh0 : s₁.heap = s.heap := by rw [B.state]; rfl
    have ht : ∀ x ∈ c.exceptionTable.toList, False := by
      obtain ⟨meth9, c9, h1, h2, -, -, -, -, h7, -⟩ := Cond.code_spec B.named (atoms_spec (ws := ws) B.pre _ (by rw [hw]; exact List.mem_cons_self))
      cases Option.some.inj (h1.symm.trans B.method)
      cases Option.some.inj (h2.symm.trans (Stand.of_body B).code)
      intro x hx
      rw [Array.isEmpty_iff.mp h7] at hx
      cases hx
    obtain ⟨hz, hb⟩ := body p e s m args below meth c s₁ B hml ht hP
    obtain ⟨t, a1, o, b1, b2, b3⟩ := hb s₁ hh0 (Stand.of_body B)
    rw [hz] at b3
    exact ⟨t, o, a1, b1, b2, b3⟩
