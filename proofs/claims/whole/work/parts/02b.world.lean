/-! The world of a state, rows of the machine over it. Before this part: gT, grf, gTys, gce, gce_congr (printed out of the class's tables). -/
def gWs (Y : gY) (S : gS) : va_W := (gLs Y).map (fun i => (gad Y i, gce Y S i))
def gWd (Y : gY) (S : gS) (H : Heap) : Prop := va_P (gDd Y) gCl (gWs Y S) H
def gA (Y : gY) (sz : Nat) : Nat → Prop := fun q => (∃ i, i ∈ gLs Y ∧ gad Y i = q) ∨ sz ≤ q
theorem gWs_get {Y : gY} {S : gS} {k : Nat} {q : Nat × va_E} (h : (gWs Y S)[k]? = some q) : ∃ i, (gLs Y)[k]? = some i ∧ q = (gad Y i, gce Y S i) := by
  unfold gWs at h
  rw [List.getElem?_map] at h
  cases hi : (gLs Y)[k]? with
  | none => rw [hi] at h; cases h
  | some i => rw [hi] at h; exact ⟨i, rfl, (Option.some.inj h).symm⟩
theorem gWs_at {Y : gY} (S : gS) {i : gI} (h : i ∈ gLs Y) : ∃ k : Nat, (gLs Y)[k]? = some i ∧ (gWs Y S)[k]? = some (gad Y i, gce Y S i) := by
  obtain ⟨k, hk⟩ := List.getElem?_of_mem h
  refine ⟨k, hk, ?_⟩
  unfold gWs
  rw [List.getElem?_map, hk]
  rfl
theorem gD {Y : gY} {S : gS} {sz : Nat} (h : gInj Y) : va_D (gA Y sz) (gWs Y S) := by
  refine ⟨fun a b x y ha hb hxy => ?_, fun k q hk => ?_⟩
  · obtain ⟨i, h1, rfl⟩ := gWs_get ha
    obtain ⟨j, h2, rfl⟩ := gWs_get hb
    have hij := h.2 i (List.mem_of_getElem? h1) j (List.mem_of_getElem? h2) hxy
    subst hij
    exact (List.getElem?_inj (List.getElem?_eq_some_iff.mp h1).1 h.1).mp (h1.trans h2.symm)
  · obtain ⟨i, h1, rfl⟩ := gWs_get hk
    exact Or.inl ⟨i, List.mem_of_getElem? h1, rfl⟩
theorem gWd_set {Y : gY} {S S' : gS} {i : gI} {k : Nat} {e' : va_E} {H : Heap} (h : gInj Y) (hk : (gLs Y)[k]? = some i) (h1 : gce Y S' i = e') (h2 : ∀ j, j ≠ i → gce Y S' j = gce Y S j) (hP : va_P (gDd Y) gCl ((gWs Y S).set k (gad Y i, e')) H) : gWd Y S' H := by
  intro a q ha
  obtain ⟨j, hj, rfl⟩ := gWs_get ha
  have hl : k < (gWs Y S).length := by
    unfold gWs
    rw [List.length_map]
    exact (List.getElem?_eq_some_iff.mp hk).1
  by_cases hak : a = k
  · subst hak
    rw [hk] at hj
    cases hj
    rw [h1]
    exact hP a _ (List.getElem?_set_self hl)
  · have hji : j ≠ i := by
      intro z
      subst z
      exact hak ((List.getElem?_inj (List.getElem?_eq_some_iff.mp hj).1 h.1).mp (hj.trans hk.symm))
    rw [h2 j hji]
    refine hP a _ ?_
    rw [List.getElem?_set_ne (Ne.symm hak)]
    unfold gWs
    rw [List.getElem?_map, hj]
    rfl
theorem gce_gset {Y : gY} {S : gS} {i : gI} {k : Nat} {v : Int32} : ∀ j, j ≠ i → gce Y (gset S i k v) j = gce Y S j := fun j h => gce_congr (gset_o h) rfl
theorem gce_gsetL {Y : gY} {S : gS} {i : gI} {k : Nat} {v : Int64} : ∀ j, j ≠ i → gce Y (gsetL S i k v) j = gce Y S j := fun j h => gce_congr rfl (funext fun n => by show (if j = i ∧ n = k then v else S.2 j n) = _; rw [if_neg (fun z => h z.1)])
theorem gce_gcpy {Y : gY} {S : gS} {i i0 : gI} {sp dp n : Nat} : ∀ j, j ≠ i → gce Y (gcpy S i0 sp i dp n) j = gce Y S j := fun j h => gce_congr (funext fun n => by show (if j = i then _ else S.1 j n) = _; rw [if_neg h]) rfl
theorem gA_call {Y : gY} {s : State} {H : Heap} {locs : List Loc} (hS : va_S (gA Y s.heap.size) s.heap H locs) : ∀ q, gA Y H.size q → gA Y s.heap.size q := fun q h => h.elim Or.inl (fun z => Or.inr (Nat.le_trans hS.1 z))
section
variable {p : Program} {l : Launch} {e : Env} {R : Room} {s : State} {m : MethodId} {args : Array Value} {below : List Frame} {meth : Method} {c : Code} {H : Heap} {locs : List Loc} {cells slots : Nat} {Q : State → Prop}
variable {cc : ByteArray} {pc : Nat} {ls : Array Slot} {rest : List Value} {Y : gY} {S : gS} {i : gI} {t : Nat}
theorem g_get (hx : p.tables.exec = Jvm.exec) (hb : c.code = cc) {own C : String} {T : u_T} {N ci index : Nat} {Ts : List Cond} (hts : ∀ w ∈ Ts, w.before args s = true) (hin : ∀ w ∈ u_ws C T N, w ∈ Ts) (hown : s.vm.findClass own = some m.cls) (hK : va_K (gDd Y) gCl (gTys Y) s) (hP : gWd Y S H) (hi : gis Y t i) {fs : List Value} (he : gce Y S i = .inr (ci, fs)) (hc : gCl[ci]? = some (C, T, N)) (k : Nat) (hk : k < N) (hlink : (Cond.fieldLink own index (T k).1 (T k).2.1 (T k).2.2.1).before args s = true) {v : Value} (hv : fs[k]? = some v) (hdg : decode cc pc = .ok (.getfield index, 3))
    (kk : W p l e R s m args below meth c H locs cells slots Q (F0 m (pc + 3) ls (v :: rest))) : W p l e R s m args below meth c H locs cells slots Q (F0 m pc ls (.ref (gad Y i) :: rest)) := by
  obtain ⟨q0, -, h1⟩ := gWs_at S hi.2
  rw [he] at h1
  exact va_get hx hb hts hin hown hK hP q0 h1 hc k hk hlink (fun _ h => h) hv hdg kk
theorem g_put (hx : p.tables.exec = Jvm.exec) (hb : c.code = cc) {own C : String} {T : u_T} {N ci index : Nat} {Ts : List Cond} (hts : ∀ w ∈ Ts, w.before args s = true) (hin : ∀ w ∈ u_ws C T N, w ∈ Ts) (ty0 : Nat → FieldType) (hty : ∀ k, k < N → parseFieldDescriptor (T k).2.2.1 = some (ty0 k)) (hnm : ∀ a, a < N → ∀ b, b < N → a ≠ b → (T a).2.1 ≠ (T b).2.1) (hown : s.vm.findClass own = some m.cls) (hK : va_K (gDd Y) gCl (gTys Y) s) (hJ : gInj Y) (hP : gWd Y S H) (hS : va_S (gA Y s.heap.size) s.heap H locs) (hi : gis Y t i) {fs : List Value} (he : gce Y S i = .inr (ci, fs)) (hc : gCl[ci]? = some (C, T, N)) (k : Nat) (hk : k < N) (hlink : (Cond.fieldLink own index (T k).1 (T k).2.1 (T k).2.2.1).before args s = true) (hfin : (T k).2.2.2 = false) {ty : FieldType} {v : Value} (hd : parseFieldDescriptor (T k).2.2.1 = some ty) (hn : narrow ty v = v) (hfit : fits ty v = true) (hl : k < fs.length) {S' : gS} (h1 : gce Y S' i = .inr (ci, fs.set k v)) (h2 : ∀ j, j ≠ i → gce Y S' j = gce Y S j)
    (hdg : decode cc pc = .ok (.putfield index, 3)) (kk : ∀ (H1 : Heap) (locs1 : List Loc), gWd Y S' H1 → va_S (gA Y s.heap.size) s.heap H1 locs1 → W p l e R s m args below meth c H1 locs1 cells slots Q (F0 m (pc + 3) ls rest)) : W p l e R s m args below meth c H locs cells slots Q (F0 m pc ls (v :: .ref (gad Y i) :: rest)) := by
  obtain ⟨q0, h0, h3⟩ := gWs_at S hi.2
  rw [he] at h3
  exact va_put hx hb hts hin ty0 hty hnm hown hK hP (gD hJ) hS q0 h3 hc k hk hlink (fun _ h => h) hfin hd hn hfit hl hdg (fun H1 locs1 hP1 _ hS1 => kk H1 locs1 (gWd_set hJ h0 h1 h2 hP1) hS1)
end
/-! What is given of the start: links of nest mates, the table of the sum. -/
def gSumL : List Int32 := [0, 498536548, 997073096, 651767980, 1994146192, 1802195444, 1303535960, 1342533948, -306674912, -267414716, -690576408, -882789492, -1687895376, -2032938284, -1609899400, -1111625188]
def gSum (j : Nat) : Int32 := gSumL.getD j 0
def gNs (U : State) : Prop := va_Nw (.methodLinkNest "LogDisk$Content" 17 y_LogDisk_pagesFor "LogDisk") U ∧ va_Nw (.methodLinkNest "LogDisk$DiskFile" 31 y_LogDisk_pagesFor "LogDisk") U ∧ va_Nw (.methodLinkNest "LogDisk$DiskFile" 110 y_LogDisk_sumStep "LogDisk") U ∧ va_Nw (.methodLinkNest "LogDisk$Frame" 29 y_LogDisk_sumStep "LogDisk") U
def gTab (A : Nat → Prop) (U : State) (H : Heap) : Prop := ∃ t : Nat, va_Z "LogDisk" "SUM_OF_HALF" "[I" (.ref t) A U H ∧ va_T .int t 16 (fun j => .int (gSum j)) A U H
/-- throws: the constructors' places, the texts, the classes that are not each other's -/
def gxExc : List (Nat × String) := [(93, "java/lang/IllegalArgumentException"), (103, "java/lang/IllegalStateException"), (128, "java/lang/UnsupportedOperationException"), (193, "java/lang/IndexOutOfBoundsException"), (274, "java/util/NoSuchElementException")]
def gxStr : List (Nat × String) := [(91, "n is not 1 .. 8"), (101, "the tape would have more than 4096 bytes"), (112, "term is not TERM .. 1000000"), (114, "voted is not NONE .. 6"), (126, "full"), (157, "term is below that of LAST or above 1000000"), (159, "kind is not 0 .. 2"), (164, "there are 300 entries above BASE"), (191, "not BASE + 1 .. LAST"), (220, "base is not BASE + 1 .. 1000000"), (222, "term is not 0 .. 1000000"), (230, "no such file"), (232, "keep is below 0"), (257, "no such what"), (259, "no such entry"), (268, "no such entry above BASE"), (272, "no such byte"), (280, "no such segment")]
def gxNo : List (String × String) := [("java/lang/IllegalStateException", "java/lang/IllegalArgumentException"), ("java/lang/UnsupportedOperationException", "java/lang/IllegalArgumentException"), ("java/lang/UnsupportedOperationException", "java/lang/IllegalStateException"), ("java/lang/UnsupportedOperationException", "java/lang/IndexOutOfBoundsException"), ("java/lang/IllegalArgumentException", "java/lang/IndexOutOfBoundsException"), ("java/util/NoSuchElementException", "java/lang/IndexOutOfBoundsException")]
def gxUp : String := "java/lang/RuntimeException"
def gxTail (own : String) (ic : Nat) (E : String) : List Cond := [.methodLink own ic (Bundle.initS E), .instantiable E 6, .castable E E, .selects E Bundle.tFill0 Bundle.tFill0, .selects E Bundle.tFill Bundle.tFill, .lays E Bundle.tN "cause" "Ljava/lang/Throwable;", .lays E Bundle.tN "stackTrace" Bundle.steD, .lays E Bundle.tN "suppressedExceptions" Bundle.listD, .lays E Bundle.tN "detailMessage" "Ljava/lang/String;", .isRef (.static Bundle.tN "UNASSIGNED_STACK" Bundle.steD), .isRef (.static Bundle.tN "SUPPRESSED_SENTINEL" Bundle.listD), .fieldLink Bundle.tN 198 Bundle.tN "backtrace" "Ljava/lang/Object;", .lays Bundle.tN Bundle.tN "backtrace" "Ljava/lang/Object;", .lays E Bundle.tN "backtrace" "Ljava/lang/Object;"]
def gxWordsX (own : String) (ic : Nat) (E : String) (ix : Nat) (rx : ByteArray) : List Cond :=
  Bundle.throwableAtoms ++ (Bundle.throwableSAtoms ++ (Bundle.passSAtoms E gxUp ix rx ++ (Bundle.chainSAtoms gxUp ["java/lang/Exception"] ++
  gxTail own ic E)))
/-- the place and the code by which an exception's constructor hands its text up -/
def gxIx (E : String) : Nat × ByteArray := if E = "java/util/NoSuchElementException" then (13, prog_23_method_4_code) else (7, Bundle.six)
def gxWords (own : String) (ic : Nat) (E : String) : List Cond := gxWordsX own ic E (gxIx E).1 (gxIx E).2
def gxAll : List Cond := gxExc.flatMap (fun q => gxWords "LogDisk" q.1 q.2) ++ (gxStr.map (fun q => Cond.stringRef "LogDisk" q.1 q.2) ++ gxNo.map (fun q => Cond.not (Cond.castable q.1 q.2)))
/-- these words hold, and go on to hold where only A was written -/
def gxF (A : Nat → Prop) (U : State) : Prop := ∀ (V : State) (a' : Array Value), U.WarmedH V.vm → (∀ a : Nat, a < U.heap.size → ¬ A a → V.heap[a]? = U.heap[a]?) → ∀ w ∈ gxAll, w.before a' V = true
def gSt (Y : gY) (sz : Nat) (U : State) : Prop := gNs U ∧ gTab (gA Y sz) U U.heap ∧ gxF (gA Y sz) U
theorem gSt_calling {Y : gY} {sz : Nat} {U : State} {g : JFrame} {mk : MethodId} {a : Array Value} (h : gSt Y sz U) : gSt Y sz (U.calling g mk a) := by
  obtain ⟨⟨n1, n2, n3, n4⟩, ⟨t, hz, ht⟩, hF⟩ := h
  exact ⟨⟨n1.same rfl rfl, n2.same rfl rfl, n3.same rfl rfl, n4.same rfl rfl⟩, ⟨t, va_Z.moved (Vm.Alike.refl U.vm) hz, va_T.moved (Vm.Alike.refl U.vm) ht⟩, fun V a' h1 h2 => hF V a' h1 h2⟩
theorem gSt_call {Y : gY} {s U : State} {H : Heap} {locs : List Loc} (h : gSt Y s.heap.size s) (hS : va_S (gA Y s.heap.size) s.heap H locs) (hU : U.heap = H) (hW : s.WarmedH U.vm) : gSt Y H.size U := by
  obtain ⟨⟨n1, n2, n3, n4⟩, ⟨t, hz, ht⟩, hF⟩ := h
  subst hU
  refine ⟨⟨n1.warmM hW, n2.warmM hW, n3.warmM hW, n4.warmM hW⟩, ⟨t, va_Z.moved hW.alike ((hz.kept (fun a h1 h2 => hS.2.1 a h1 h2)).narrow (gA_call hS)), va_T.moved hW.alike ((ht.kept (fun a h1 h2 => hS.2.1 a h1 h2)).narrow (gA_call hS))⟩, fun V a' h1 h2 => hF V a' (State.WarmedH.trans hW h1) (fun a h3 h4 => ?_)⟩
  rw [h2 a (Nat.lt_of_lt_of_le h3 hS.1) (fun z => h4 (gA_call hS a z))]
  exact hS.2.1 a h3 h4
