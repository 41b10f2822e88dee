/-! Methods that return or throw, and calls of them. The thrown object's class is told by its name; the world behind is that of a state. -/
def gxQ (Y : gY) (sz : Nat) (Qc : Array Value → State → Outcome → State → Prop) (X : String → gS → Prop) : Array Value → State → Outcome → State → Prop := fun a st o t =>
  (Qc a st o t ∧ ∃ L, FrameEnd st o t L 1 6 ∧ ∀ q ∈ L, gA Y sz q.base) ∨
  ∃ (q : Addr) (E : String) (S : gS) (ce : Cell) (L : List Loc), o = .threw q ∧ X E S ∧ gWd Y S t.heap ∧ va_F (gA Y sz) st t ∧ t.heap[q]? = some ce ∧ ce.vm = .none ∧ st.vm.findClass E = some ce.cls ∧ st.WarmedH t.vm ∧ st.sameButNew ({ t with vm := st.vm } : State) L 1 6 ∧ ∀ z ∈ L, gA Y sz z.base
def gxZ (below : List Frame) (Y : gY) (Qc : Array Value → State → Outcome → State → Prop) (X : String → gS → Prop) (a : Array Value) (s : State) : State → Prop := fun t =>
  ∃ o, t.status = .running ∧ Ended t below o ∧ gxQ Y s.heap.size Qc X a s o t
abbrev gxMet (l : Launch) (y : MethodName) (ws : List Cond) (rm : Room) (Pc : Array Value → State → Prop) (Y : gY) (sz : Nat) (Qc : Array Value → State → Outcome → State → Prop) (X : String → gS → Prop) : Prop :=
  MetFree l y (headSpec ws rm) Pc (fun _ _ _ _ _ => True) (gxQ Y sz Qc X)
theorem gxQ_ends {Y : gY} {sz : Nat} {Qc : Array Value → State → Outcome → State → Prop} {X : String → gS → Prop} {a : Array Value} {st t : State} {o : Outcome} (h : gxQ Y sz Qc X a st o t) :
    ∃ L, ((∃ v, o = .returned v) ∨ ∃ q, o = .threw q) ∧ st.WarmedH t.vm ∧ st.sameButNew ({ t with vm := st.vm } : State) L 1 6 ∧ ∀ z ∈ L, gA Y sz z.base := by
  rcases h with ⟨-, L, ⟨h1, h2, h3⟩, h4⟩ | ⟨q, E, S, ce, L, h1, -, -, -, -, -, -, h2, h3, h4⟩
  · exact ⟨L, Or.inl h1, h2, h3, h4⟩
  · exact ⟨L, Or.inr ⟨q, h1⟩, h2, h3, h4⟩
section
variable {p : Program} {l : Launch} {e : Env} {R : Room} {s : State} {m : MethodId} {args : Array Value} {below : List Frame} {meth : Method} {c : Code} {U : State} {locs : List Loc} {cells slots : Nat}
/-- behind the machine's step into a callee: it comes back, or throws over the caller's frame -/
theorem gx_back {y : MethodName} {ws : List Cond} {rm : Room} {Pc : Array Value → State → Prop} {Y : gY} {sz : Nat} {Qc : Array Value → State → Outcome → State → Prop} {XX : String → gS → Prop} {bytes : ByteArray} {maxL : Nat} {ret : Option FieldType}
    (hM : gxMet l y ws rm Pc Y sz Qc XX) (hblind : FrameBlind Pc) (hfr : rm.frames + 1 ≤ R.frames) (hlo : 8 + (maxL + 11) + rm.locals ≤ R.locals)
    (hws : ∀ w ∈ ws, ∀ (a' : Array Value) (V : State), s.WarmedH V.vm → w.before a' V = true) (hcode : Cond.code y bytes maxL ret ∈ ws) (hini : ∀ (a' : Array Value) (V : State), s.WarmedH V.vm → (Cond.initialized y.cls).before a' V = true)
    {g : JFrame} {ig : Instr} {mk : MethodId} {a : Array Value}
    (X : Stand p l e R s m args below meth c U locs cells slots) (hg : g.method = m) (hsize : g.locals.size = c.maxLocals) (hdg : decode c.code g.pc = .ok (ig, 3))
    (hW : 2 * g.monitorRoom + (g.stack.map fun v => v.category).sum ≤ 8) (hn : U.methodNamed? y = some mk) (hcells : cells + rm.cells ≤ R.cells) (hslots : slots + rm.slots ≤ R.slots) (hP : Pc a U) :
    ∃ (o : Outcome) (t V : State) (L : List Loc), gxQ Y sz Qc XX a (U.calling g mk a) o t ∧ V.heap = t.heap ∧ V.vm = t.vm ∧ Stand p l e R s m args below meth c V (locs ++ L) (cells + 1) (slots + 6) ∧ (∀ z ∈ L, gA Y sz z.base) ∧
      ((∃ v, o = .returned v ∧ Steps p.tables e below (doInvoke e (U.setTop g) [] mk a).1 (V.setTop { g with pc := g.pc + 3, stack := v.toList ++ g.stack })) ∨
       (∃ q, o = .threw q ∧ Steps p.tables e below (doInvoke e (U.setTop g) [] mk a).1 ((V.setTop g).pushFrame (.throwing q)))) := by
  obtain ⟨methY, cY, hmY, hcY, -, hlY, -, -, -, -⟩ := Cond.code_spec hn (hws _ hcode a U X.warmed)
  obtain ⟨kY, hkY, -⟩ := className_of_methodNamed hn
  have hinitY : kY.init = .initialized := Cond.initialized_spec (findClass_of_methodNamed hn) hkY (hini a U X.warmed)
  have h : At U g.method c below := by rw [hg]; exact X.here
  have h1 : (headSpec ws rm).pre.before a U = true := atoms_intro fun w hw => hws w hw _ _ X.warmed
  have happ : (headSpec ws rm).appliesLoose y e.platform (U.calling g mk a) = true :=
    Spec.appliesLoose_calling (g := g) h hdg hn hkY hinitY
      (X.room_calling (g := g) (R' := (headSpec ws rm).room) hsize hmY hcY hfr (by rw [hlY]; show _ + (maxL + 11) + rm.locals ≤ _; omega) hcells hslots) h1
  obtain ⟨mid, hmid⟩ := h.above
  have hfrm : (U.setTop g).frames = (.java g :: mid) ++ below := by rw [State.frames_setTop' g h.top, hmid]; rfl
  obtain ⟨o, t, hsteps, -, hend, hq⟩ := Steps.callFree hM p X.admits X.cas X.clock (acts := []) hfrm happ (hblind a U g mk hP) trivial
  have hq' : gxQ Y sz Qc XX a (U.calling g mk a) o t := hq
  rw [State.frames_setTop' g h.top] at hend
  obtain ⟨L, ho, hW₂, hsm, hL⟩ := gxQ_ends hq'
  obtain ⟨e2, q2, q3, q4, q5, q6⟩ := hsm
  have e3 : t = ({ (U.calling g mk a).setFrames t.frames with heap := t.heap, slotsUsed := t.slotsUsed } : State).setVm t.vm := by
    have : t = ({ t with vm := (U.calling g mk a).vm } : State).setVm t.vm := rfl
    rw [e2] at this
    exact this
  have hW' : U.WarmedH t.vm := hW₂
  obtain ⟨g₀, hg0⟩ := Option.isSome_iff_exists.mp h.top
  obtain ⟨r, hr⟩ := State.topJava?_eq_some.mp hg0
  have hr' : (({ U with heap := t.heap, slotsUsed := t.slotsUsed } : State).setVm t.vm).frames = .java g₀ :: r := hr
  have hsame : U.sameButNew ({ U with heap := t.heap, slotsUsed := t.slotsUsed } : State) L 1 6 := by
    refine ⟨?_, q2, q3, q4, q5, q6⟩
    obtain ⟨t9, ht9, -⟩ := State.frames_cons hr
    show ({ U with heap := t.heap, slotsUsed := t.slotsUsed } : State) = { U.setFrames U.frames with heap := t.heap, slotsUsed := t.slotsUsed }
    rw [State.setFrames_self ht9]
  subst hg
  refine ⟨o, t, ({ U with heap := t.heap, slotsUsed := t.slotsUsed } : State).setVm t.vm, L, hq', rfl, rfl,
    ⟨X.admits, X.cas, X.clock, X.frames, X.room, X.hears, X.method, X.code, (X.here.setHeapUsed t.heap t.slotsUsed).setVm hW'.alike, X.tail, State.WarmedH.trans X.warmed hW', X.limits, X.bytes, X.same.trans (hsame.setVm s.vm)⟩, hL, ?_⟩
  rcases ho with ⟨v, rfl⟩ | ⟨q, rfl⟩
  · refine Or.inl ⟨v, rfl, ?_⟩
    obtain ⟨c₂, i₂, len₂, hc₂, hd₂, hf₂⟩ := hend
    have hcc : c₂ = c := by
      have h9 : t.code? g.method = U.code? g.method := by rw [State.code?_eq, State.code?_eq, hW'.alike.method?]
      exact Option.some.inj (hc₂.symm.trans (h9.trans h.code))
    subst hcc
    have hlen : len₂ = 3 := by rw [hdg] at hd₂; cases hd₂; rfl
    subst hlen
    have hs₂ : t = (({ U with heap := t.heap, slotsUsed := t.slotsUsed } : State).setVm t.vm).setTop { g with pc := g.pc + 3, stack := v.toList ++ g.stack } := by
      refine e3.trans ?_
      rw [hf₂, State.calling_eq h.top, State.setFrames_setFrames, State.setTop_of_frames _ hr', hr]
      rfl
    rw [← hs₂]
    exact hsteps
  · refine Or.inr ⟨q, rfl, ?_⟩
    have hf₂ : t.frames = .throwing q :: .java g :: U.frames.tail := hend
    have hs₂ : t = ((({ U with heap := t.heap, slotsUsed := t.slotsUsed } : State).setVm t.vm).setTop g).pushFrame (.throwing q) := by
      refine e3.trans ?_
      rw [hf₂, State.calling_eq h.top, State.setFrames_setFrames, State.pushFrame, State.frames_setTop _ hr', State.setTop_of_frames _ hr', State.setFrames_setFrames, hr]
      rfl
    rw [← hs₂]
    exact hsteps
end
