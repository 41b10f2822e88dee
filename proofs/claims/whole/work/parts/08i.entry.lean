/-! What holds at the law's entry: the classes, the words of throws, the table of the sum. -/
def gxIs : List Cond := [.isRef (.static Bundle.tN "UNASSIGNED_STACK" Bundle.steD), .isRef (.static Bundle.tN "SUPPRESSED_SENTINEL" Bundle.listD)]
def gxLs : List Cond := [.laysStatic Bundle.tN "UNASSIGNED_STACK" Bundle.steD, .laysStatic Bundle.tN "SUPPRESSED_SENTINEL" Bundle.listD]
def gxEx : List Cond := gxExc.flatMap (fun q => gxWords "LogDisk" q.1 q.2)
set_option maxRecDepth 100000 in
theorem gxEx_in : gxEx.all (fun w => (decide (w ∈ lw_tbl) && w.keepsFace && (w.onTables || decide (w ∈ gxLs))) || decide (w ∈ gxIs)) = true := by decide +kernel
set_option maxRecDepth 100000 in
theorem gxStr_in : (gxStr.map (fun q => Cond.stringRef "LogDisk" q.1 q.2)).all (fun w => decide (w ∈ lw_tbl)) = true := by decide +kernel
set_option maxRecDepth 100000 in
theorem gxNo_in : (gxNo.map (fun q => Cond.not (Cond.castable q.1 q.2))).all (fun w => decide (w ∈ flatC (Cond.and given_1 narrow_1))) = true := by decide +kernel
set_option maxRecDepth 100000 in
theorem gxIs_in : gxIs.all (fun w => decide (w ∈ flatC (Cond.and given_1 narrow_1))) = true := by decide +kernel
theorem gx_static {A A' : Array Value} {T V : State} {C n d : String} {v : Value} (hv : V.vm = T.vm) (hh : ∀ (a : Nat) (cell : Cell), T.heap[a]? = some cell → V.heap[a]? = some cell) (h : (Term.static C n d).eval A T none [] T = some v) : (Term.static C n d).eval A' V none [] V = some v := by
  have e : V.fieldNamed? C n d true = T.fieldNamed? C n d true := by
    unfold State.fieldNamed? State.fieldFound?
    rw [hv]
  simp only [Term.eval] at h ⊢
  rw [e]
  cases hf : T.fieldNamed? C n d true with
  | none => rw [hf] at h; simp at h
  | some x =>
    obtain ⟨c, k, slot⟩ := x
    rw [hf] at h
    cases hs : k.statics with
    | none => simp [hs] at h
    | some a =>
      cases hc : T.heap[a]? with
      | none => simp [hs, hc] at h
      | some cell =>
        simp [hs, hc] at h
        simp [hs, hh a cell hc]
        exact h
theorem gx_lays {A A' : Array Value} {T V : State} {C n d : String} (hv : V.vm = T.vm) (hh : ∀ (a : Nat) (cell : Cell), T.heap[a]? = some cell → V.heap[a]? = some cell) (h : (Cond.laysStatic C n d).before A T = true) : (Cond.laysStatic C n d).before A' V = true := by
  obtain ⟨c, k, i, f, a, cell, h1, h2, h3, h4, h5, h6, h7, h8, h9⟩ := Cond.laysStatic_spec h
  have e1 : V.vm.findClass C = some c := by rw [hv]; exact h1
  have e2 : V.fieldFound? C n d = some (c, k, i, f) := by
    have : V.fieldFound? C n d = T.fieldFound? C n d := by unfold State.fieldFound?; rw [hv]
    rw [this]; exact h2
  have e3 := hh a cell h5
  simp [Cond.before, Cond.holds, Cond.value, e1, e2, h3, h4, e3, h6, h7, h8, h9]
theorem gx_isRef {A A' : Array Value} {T V : State} {C n d : String} (hv : V.vm = T.vm) (hh : ∀ (a : Nat) (cell : Cell), T.heap[a]? = some cell → V.heap[a]? = some cell) (h : (Cond.isRef (.static C n d)).before A T = true) : (Cond.isRef (.static C n d)).before A' V = true := by
  cases he : (Term.static C n d).eval A T none [] T with
  | none => simp [Cond.before, Cond.holds, Cond.value, he] at h
  | some v =>
    have e := gx_static (A' := A') hv hh he
    simp only [Cond.before, Cond.holds, Cond.value, he] at h
    simp only [Cond.before, Cond.holds, Cond.value, e]
    exact h
theorem gxF_of {s : State} {args : Array Value} {A : Nat → Prop} (hA : ∀ a : Nat, a < s.heap.size → ¬ A a) (hts : ∀ w ∈ lw_tbl, w.before args s = true) (hgv : (Cond.and given_1 narrow_1).before args s = true) : gxF A s := by
  intro V a' hW hH w hw
  have hfl := flat_of_before _ hgv
  have hh : ∀ (a : Nat) (cell : Cell), (s.setVm V.vm).heap[a]? = some cell → V.heap[a]? = some cell := fun a cell h => by
    have h' : s.heap[a]? = some cell := h
    have hl := (Array.getElem?_eq_some_iff.mp h').1
    rw [hH a hl (hA a hl)]; exact h'
  have ride : ∀ w : Cond, w.keepsFace = true → w.before args s = true → w.before args (s.setVm V.vm) = true := fun w h1 h3 => Cond.rides hW.wide h1 h3
  rcases List.mem_append.mp hw with h | h
  · have hin := List.all_eq_true.mp gxEx_in w h
    rw [Bool.or_eq_true, Bool.and_eq_true, Bool.and_eq_true, Bool.or_eq_true, decide_eq_true_eq, decide_eq_true_eq, decide_eq_true_eq] at hin
    rcases hin with ⟨⟨h1, h2⟩, h3 | h3⟩ | h1
    · exact va_tabs (u := s.setVm V.vm) h3 rfl (ride w h2 (hts w h1))
    · unfold gxLs at h3
      simp only [List.mem_cons, List.not_mem_nil, or_false] at h3
      rcases h3 with rfl | rfl
      · exact gx_lays (T := s.setVm V.vm) rfl hh (ride _ h2 (hts _ h1))
      · exact gx_lays (T := s.setVm V.vm) rfl hh (ride _ h2 (hts _ h1))
    · have hi := hfl w (of_decide_eq_true (List.all_eq_true.mp gxIs_in w h1))
      unfold gxIs at h1
      simp only [List.mem_cons, List.not_mem_nil, or_false] at h1
      rcases h1 with rfl | rfl
      · exact gx_isRef (T := s.setVm V.vm) rfl hh (ride _ rfl hi)
      · exact gx_isRef (T := s.setVm V.vm) rfl hh (ride _ rfl hi)
  · rcases List.mem_append.mp h with h | h
    · have hin := hts w (of_decide_eq_true (List.all_eq_true.mp gxStr_in w h))
      obtain ⟨q, hq, e⟩ := List.mem_map.mp h
      rw [← e] at hin ⊢
      exact Cond.stringRef_warmed hW hin
    · have hin := hfl w (of_decide_eq_true (List.all_eq_true.mp gxNo_in w h))
      obtain ⟨q, hq, e⟩ := List.mem_map.mp h
      rw [← e] at hin ⊢
      have hc : (Cond.castable q.1 q.2).value a' V none V [] = (Cond.castable q.1 q.2).value args s none s [] := by
        simp only [Cond.value, hW.alike.findClass, hW.alike.assignable]
      simp only [Cond.before, Cond.holds, Cond.value] at hin ⊢
      simp only [Cond.value] at hc
      rw [hc]
      exact hin
def gSumT : List Cond := (List.range 16).map (fun j => Cond.eq (.elem (.static "LogDisk" "SUM_OF_HALF" "[I") (.int (Int32.ofNat j))) (.int (gSum j)))
set_option maxRecDepth 100000 in
theorem gSumT_in : gSumT.all (fun w => decide (w ∈ flatC (Cond.and given_1 narrow_1))) = true := by decide +kernel
theorem gTab_of {s : State} {args : Array Value} {A : Nat → Prop} (hA : ∀ a : Nat, a < s.heap.size → ¬ A a) (hts : ∀ w ∈ lw_tbl, w.before args s = true) (hgv : (Cond.and given_1 narrow_1).before args s = true) : gTab A s s.heap := by
  have hfl := flat_of_before _ hgv
  obtain ⟨t, ht, hT⟩ := va_Tof (tm := .static "LogDisk" "SUM_OF_HALF" "[I") (N := 16) (f := fun j => .int (gSum j)) (A := A) (by decide) (hfl (.arrayOf (.static "LogDisk" "SUM_OF_HALF" "[I") .int) (by decide +kernel)) (va_eqt (hfl (.eq (.length (.static "LogDisk" "SUM_OF_HALF" "[I")) (.int 16)) (by decide +kernel)))
    (fun j hj => va_eqt (hfl _ (of_decide_eq_true (List.all_eq_true.mp gSumT_in _ (List.mem_map.mpr ⟨j, List.mem_range.mpr hj, rfl⟩))))) hA
  exact ⟨t, va_Zof (hts (.laysStatic "LogDisk" "SUM_OF_HALF" "[I") (by decide +kernel)) (hts (.initialized "LogDisk") (by decide +kernel)) ht hA, hT⟩
theorem gNs_of {s : State} {args : Array Value} (hts : ∀ w ∈ lw_tbl, w.before args s = true) : gNs s :=
  ⟨va_Nw.of rfl (hts _ (by decide +kernel)), va_Nw.of rfl (hts _ (by decide +kernel)), va_Nw.of rfl (hts _ (by decide +kernel)), va_Nw.of rfl (hts _ (by decide +kernel))⟩
theorem gMk_of {s : State} {args : Array Value} (hts : ∀ w ∈ lw_tbl, w.before args s = true) : gMk s :=
  ⟨va_AO.of (hts (.arrayOver (.object "LogDisk$DiskFile")) (by decide +kernel)), va_Nw.of rfl (hts _ (by decide +kernel)), va_Nw.of rfl (hts _ (by decide +kernel)), va_Nw.of rfl (hts _ (by decide +kernel)), va_Nw.of rfl (hts _ (by decide +kernel)), va_Nw.of rfl (hts _ (by decide +kernel)), va_Nw.of rfl (hts _ (by decide +kernel))⟩
theorem gArr {s : State} {args : Array Value} {ty : FieldType} (h : (Cond.arrayClass ty).before args s = true) (hp : ∀ C, ty ≠ .object C) : ∃ cA : ClassId, ArrOfT s cA ty ∧ va_RA s cA ty := by
  obtain ⟨c, k, comp, h1, h2, h3⟩ := Cond.arrayClass_spec h
  refine ⟨c, fun n z => ⟨fun k h => (by cases h), k, h2, comp, h3⟩, ?_⟩
  cases ty with
  | object C => exact absurd rfl (hp C)
  | _ => exact h1
theorem gArrO {s : State} {args : Array Value} {C : String} (h : (Cond.arrayOver (.object C)).before args s = true) : ∃ cA : ClassId, ArrOfT s cA (.object C) ∧ va_RA s cA (.object C) := by
  obtain ⟨comp, c, k, h1, h2, h3, h4, h5⟩ := Cond.arrayOver_spec h
  exact ⟨c, fun n z => ⟨fun k h => (by cases h), k, h3, comp, h4⟩, k, comp, h3, h4, h1, h5⟩
theorem law_K {s : State} {args : Array Value} (hts : ∀ w ∈ lw_tbl, w.before args s = true) (htg : ∀ w ∈ gTb, w.before args s = true) : ∃ (D : va_G) (ac : Nat → ClassId), va_K D gCl (gtyL ac) s := by
  have hC : ∀ c : Nat, ∃ x : ClassId × (Nat → Nat), ∀ q : vw_C, gCl[c]? = some q → u_Kn s q.1 q.2.1 q.2.2 x.1 x.2 := by
    intro c
    have one : ∀ {C : String} {T : u_T} {N n : Nat}, (∀ w ∈ u_ws C T N, w ∈ gTb) → (Cond.instantiable C n) ∈ gTb → gCl[c]? = some (C, T, N) → ∃ x : ClassId × (Nat → Nat), ∀ q : vw_C, gCl[c]? = some q → u_Kn s q.1 q.2.1 q.2.2 x.1 x.2 := by
      intro C T N n hin hi hg
      obtain ⟨cC, iS, h⟩ := u_known htg hin (htg _ hi)
      refine ⟨(cC, iS), fun q hq => ?_⟩
      have e : q = (C, T, N) := Option.some.inj (hq.symm.trans hg)
      rw [e]; exact h
    match c with
    | 0 => exact one in_Content gw_193 rfl
    | 1 => exact one in_DiskFile gw_187 rfl
    | 2 => exact one in_Entries gw_134 rfl
    | 3 => exact one in_Frame gw_50 rfl
    | 4 => exact one in_Pages gw_167 rfl
    | 5 => exact one in_Segments gw_115 rfl
    | 6 => exact one in_Snapshot gw_92 rfl
    | 7 => exact one in_Tape gw_33 rfl
    | 8 => exact one in_Vote gw_65 rfl
    | 9 => exact one in_LogDisk gw_23 rfl
    | 10 => exact one in_Mo gw_802 rfl
    | n + 11 => exact ⟨(0, fun _ => 0), fun q hq => by
        have : (gCl[n + 11]? : Option vw_C) = none := List.getElem?_eq_none (by show 11 ≤ n + 11; omega)
        rw [this] at hq; cases hq⟩
  obtain ⟨a0, h0⟩ := gArr (hts (.arrayClass .int) (by decide +kernel)) (fun C => by simp)
  obtain ⟨a1, h1⟩ := gArr (hts (.arrayClass .byte) (by decide +kernel)) (fun C => by simp)
  obtain ⟨a2, h2⟩ := gArr (hts (.arrayClass .boolean) (by decide +kernel)) (fun C => by simp)
  obtain ⟨a3, h3⟩ := gArr (hts (.arrayClass .long) (by decide +kernel)) (fun C => by simp)
  obtain ⟨a4, h4⟩ := gArrO (hts (.arrayOver (.object "LogDisk$DiskFile")) (by decide +kernel))
  refine ⟨(fun c => (Classical.choose (hC c)).1, fun c => (Classical.choose (hC c)).2), fun k => match k with | 0 => a0 | 1 => a1 | 2 => a2 | 3 => a3 | _ => a4, fun c q hq => Classical.choose_spec (hC c) q hq, fun k q hq => ?_⟩
  match k with
  | 0 => cases hq; exact h0
  | 1 => cases hq; exact h1
  | 2 => cases hq; exact h2
  | 3 => cases hq; exact h3
  | 4 => cases hq; exact h4
  | n + 5 => simp at hq
