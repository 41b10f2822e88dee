/-! The frame of a method's rows: what holds all along, its end, its calls. -/
abbrev gRm (f lo : Nat) : Room := { frames := f, cells := 0, slots := 0, locals := lo }
abbrev gRmX (f lo : Nat) : Room := { frames := f, cells := 1, slots := 6, locals := lo }
def gCx (p : Program) (s : State) (m : MethodId) (args : Array Value) (meth : Method) (c : Code) (Y : gY) (own : String) (cc : ByteArray) (nL : Nat) (ret : Option FieldType) (Ts : List Cond) : Prop :=
  p.tables.exec = Jvm.exec ∧ c.code = cc ∧ c.maxLocals = nL ∧ s.vm.findClass own = some m.cls ∧ (∀ w ∈ Ts, w.before args s = true) ∧ meth.sig.returnType = ret ∧ meth.locks = false ∧ va_K (gDd Y) gCl (gTys Y) s ∧ gOK Y ∧ gSt Y s.heap.size s
theorem gG_V {x cw : Cond} {own C : String} {idx : Nat} {y : MethodName} (h1 : Cond.methodLink own idx y ∈ gTb) (h2 : Cond.instanceMethod y ∈ gTb) (h3 : Cond.selects C y y ∈ gTb) (h4 : Cond.initialized C ∈ gTb) (h5 : cw ∈ gTb) : GoodIn (x :: gTb) (wsV own idx C y (cw :: gTb)) := gTb_good (fun w hw => by
  unfold wsV at hw
  rcases List.mem_append.mp hw with h | h
  · simp only [List.mem_cons, List.not_mem_nil, or_false] at h
    rcases h with rfl | rfl | rfl | rfl
    · exact h1
    · exact h2
    · exact h3
    · exact h4
  · rcases List.mem_cons.mp h with rfl | h
    · exact h5
    · exact h)
theorem gG_S {x cw : Cond} {own : String} {idx : Nat} {y : MethodName} (h1 : Cond.methodLink own idx y ∈ gTb) (h2 : Cond.static y ∈ gTb) (h4 : Cond.initialized y.cls ∈ gTb) (h5 : cw ∈ gTb) : GoodIn (x :: gTb) (va_wsS own idx y (cw :: gTb)) := gTb_good (fun w hw => by
  unfold va_wsS at hw
  rcases List.mem_append.mp hw with h | h
  · simp only [List.mem_cons, List.not_mem_nil, or_false] at h
    rcases h with rfl | rfl | rfl
    · exact h1
    · exact h2
    · exact h4
  · rcases List.mem_cons.mp h with rfl | h
    · exact h5
    · exact h)
theorem gG_N {x cw : Cond} (h5 : cw ∈ gTb) : GoodIn (x :: gTb) (cw :: gTb) := gTb_good (fun w hw => by
  rcases List.mem_cons.mp hw with rfl | h
  · exact h5
  · exact h)
section
variable {p : Program} {l : Launch} {e : Env} {R : Room} {s : State} {m : MethodId} {args : Array Value} {below : List Frame} {meth : Method} {c : Code} {H : Heap} {locs : List Loc} {cells slots : Nat} {Q : State → Prop}
variable {cc : ByteArray} {pc : Nat} {ls : Array Slot} {rest st0 : List Value} {Y : gY} {S : gS} {i j : gI} {t : Nat}
theorem g_pre {av : List Value} {P : Prop} (hK : va_K (gDd Y) gCl (gTys Y) s) (hSt : gSt Y s.heap.size s) (hS : va_S (gA Y s.heap.size) s.heap H locs) (hP : gWd Y S H) (hw : P) : ∀ U : State, U.heap = H → s.WarmedH U.vm → gPre Y av S H.size P av.toArray U := fun U hU hW => ⟨rfl, by rw [hU], by rw [hU]; exact hP, va_K.moved hW.alike hK, gSt_call hSt hS hU hW, hw⟩
theorem g_recv {n : Nat} (hK : va_K (gDd Y) gCl (gTys Y) s) (hP : gWd Y S H) (hi : gis Y t i) {fs : List Value} (he : gce Y S i = .inr (n, fs)) {q : vw_C} (hc : gCl[n]? = some q) : ∃ cell : Cell, H[gad Y i]? = some cell ∧ cell.vm.isStatics = false ∧ s.vm.findClass q.1 = some cell.cls := by
  obtain ⟨q0, -, h1⟩ := gWs_at S hi.2
  rw [he] at h1
  exact va_recv hK hP hc h1
theorem g_aaload (hx : p.tables.exec = Jvm.exec) (hb : c.code = cc) (hK : va_K (gDd Y) gCl (gTys Y) s) (hP : gWd Y S H) (hi : gis Y gt_file i) {x : Int32} (hin : vp_in x (gLn Y i)) (hdg : decode cc pc = .ok (.aaload, 1))
    (kk : W p l e R s m args below meth c H locs cells slots Q (F0 m (pc + 1) ls (.ref (gad Y (grf i x.toNatClampNeg)) :: rest))) : W p l e R s m args below meth c H locs cells slots Q (F0 m pc ls (.int x :: .ref (gad Y i) :: rest)) := by
  obtain ⟨q0, -, h1⟩ := gWs_at S hi.2
  rw [gce_file hi.1] at h1
  exact va_aldq hx hb hK hP q0 4 h1 rfl hin hdg kk
theorem g_sum (hx : p.tables.exec = Jvm.exec) (hb : c.code = cc) (hown : s.vm.findClass "LogDisk" = some m.cls) (hSt : gSt Y s.heap.size s) (hS : va_S (gA Y s.heap.size) s.heap H locs) {index : Nat} (hlink : (Cond.fieldLink "LogDisk" index "LogDisk" "SUM_OF_HALF" "[I").before args s = true) (hdg : decode cc pc = .ok (.getstatic index, 3))
    (kk : ∀ t : Nat, va_T .int t 16 (fun j => .int (gSum j)) (gA Y s.heap.size) s s.heap → W p l e R s m args below meth c H locs cells slots Q (F0 m (pc + 3) ls (.ref t :: rest))) : W p l e R s m args below meth c H locs cells slots Q (F0 m pc ls rest) := by
  obtain ⟨-, ⟨t, hz, ht⟩, -⟩ := hSt
  exact va_gets hx hb hz hS hown hlink (fun _ h => h) hdg (kk t ht)
theorem g_sumAt (hx : p.tables.exec = Jvm.exec) (hb : c.code = cc) {t : Nat} (hT : va_T .int t 16 (fun j => .int (gSum j)) (gA Y s.heap.size) s s.heap) (hS : va_S (gA Y s.heap.size) s.heap H locs) {x : Int32} (hin : vp_in x 16) (hdg : decode cc pc = .ok (.iaload, 1))
    (kk : W p l e R s m args below meth c H locs cells slots Q (F0 m (pc + 1) ls (.int (gSum x.toNatClampNeg) :: rest))) : W p l e R s m args below meth c H locs cells slots Q (F0 m pc ls (.int x :: .ref t :: rest)) := va_ti hx hb hT hS hin rfl hdg kk
theorem g_zaload (hx : p.tables.exec = Jvm.exec) (hb : c.code = cc) (hK : va_K (gDd Y) gCl (gTys Y) s) (hP : gWd Y S H) (hi : gis Y gt_bool i) {x : Int32} (hin : vp_in x (gLn Y i)) (hdg : decode cc pc = .ok (.baload, 1))
    (kk : W p l e R s m args below meth c H locs cells slots Q (F0 m (pc + 1) ls (.int (S.1 i x.toNatClampNeg) :: rest))) : W p l e R s m args below meth c H locs cells slots Q (F0 m pc ls (.int x :: .ref (gad Y i) :: rest)) := by
  obtain ⟨q0, -, h1⟩ := gWs_at S hi.2
  rw [gce_bool hi.1] at h1
  exact va_zald hx hb hK hP q0 2 h1 rfl hin hdg kk
theorem g_zastore (hx : p.tables.exec = Jvm.exec) (hb : c.code = cc) (hK : va_K (gDd Y) gCl (gTys Y) s) (hJ : gInj Y) (hP : gWd Y S H) (hS : va_S (gA Y s.heap.size) s.heap H locs) (hi : gis Y gt_bool i) {x v : Int32} (hin : vp_in x (gLn Y i)) (hdg : decode cc pc = .ok (.bastore, 1))
    (kk : ∀ (S' : gS), S' = gset S i x.toNatClampNeg (vp_nar .boolean v) → ∀ (H1 : Heap) (locs1 : List Loc), gWd Y S' H1 → va_S (gA Y s.heap.size) s.heap H1 locs1 → W p l e R s m args below meth c H1 locs1 cells slots Q (F0 m (pc + 1) ls rest)) : W p l e R s m args below meth c H locs cells slots Q (F0 m pc ls (.int v :: .int x :: .ref (gad Y i) :: rest)) := by
  obtain ⟨q0, h0, h1⟩ := gWs_at S hi.2
  rw [gce_bool hi.1] at h1
  exact va_zast hx hb hK hP (gD hJ) hS q0 2 h1 rfl hin hdg (fun H1 locs1 hP1 _ hS1 => kk _ rfl H1 locs1 (gWd_set hJ h0 (by rw [gce_bool hi.1, gset_u]) gce_gset hP1) hS1)
theorem gsetL_u (S : gS) (i : gI) (k : Nat) (v : Int64) : (gsetL S i k v).2 i = vp_updL (S.2 i) k v := by
  funext n
  show (if i = i ∧ n = k then v else S.2 i n) = _
  by_cases h : n = k
  · rw [if_pos ⟨rfl, h⟩, h, pk_uLs]
  · rw [if_neg (fun z => h z.2), pk_uLn h]
theorem g_laload (hx : p.tables.exec = Jvm.exec) (hb : c.code = cc) (hK : va_K (gDd Y) gCl (gTys Y) s) (hP : gWd Y S H) (hi : gis Y gt_long i) {x : Int32} (hin : vp_in x (gLn Y i)) (hdg : decode cc pc = .ok (.laload, 1))
    (kk : W p l e R s m args below meth c H locs cells slots Q (F0 m (pc + 1) ls (.long (S.2 i x.toNatClampNeg) :: rest))) : W p l e R s m args below meth c H locs cells slots Q (F0 m pc ls (.int x :: .ref (gad Y i) :: rest)) := by
  obtain ⟨q0, -, h1⟩ := gWs_at S hi.2
  rw [gce_long hi.1] at h1
  exact va_lald hx hb hK hP q0 3 h1 rfl hin hdg kk
theorem g_lastore (hx : p.tables.exec = Jvm.exec) (hb : c.code = cc) (hK : va_K (gDd Y) gCl (gTys Y) s) (hJ : gInj Y) (hP : gWd Y S H) (hS : va_S (gA Y s.heap.size) s.heap H locs) (hi : gis Y gt_long i) {x : Int32} {v : Int64} (hin : vp_in x (gLn Y i)) (hdg : decode cc pc = .ok (.lastore, 1))
    (kk : ∀ (S' : gS), S' = gsetL S i x.toNatClampNeg v → ∀ (H1 : Heap) (locs1 : List Loc), gWd Y S' H1 → va_S (gA Y s.heap.size) s.heap H1 locs1 → W p l e R s m args below meth c H1 locs1 cells slots Q (F0 m (pc + 1) ls rest)) : W p l e R s m args below meth c H locs cells slots Q (F0 m pc ls (.long v :: .int x :: .ref (gad Y i) :: rest)) := by
  obtain ⟨q0, h0, h1⟩ := gWs_at S hi.2
  rw [gce_long hi.1] at h1
  exact va_last hx hb hK hP (gD hJ) hS q0 3 h1 rfl hin hdg (fun H1 locs1 hP1 _ hS1 => kk _ rfl H1 locs1 (gWd_set hJ h0 (by rw [gce_long hi.1, gsetL_u]) gce_gsetL hP1) hS1)
end
theorem g_nb {v : Int32} (h : v = 0 ∨ v = 1) : narrow .boolean (.int v) = .int v := by rcases h with rfl | rfl <;> rfl
theorem g_fb {v : Int32} (h : v = 0 ∨ v = 1) : fits .boolean (.int v) = true := by rcases h with rfl | rfl <;> rfl
abbrev ju_lshr (x : Int64) (y : Int32) : Int64 := x >>> (y.toInt64 &&& 63)
theorem g_sw_0_10 (x : Int32) : (x.toInt < 0 ∨ 10 < x.toInt) ∨ x = 0 ∨ x = 1 ∨ x = 2 ∨ x = 3 ∨ x = 4 ∨ x = 5 ∨ x = 6 ∨ x = 7 ∨ x = 8 ∨ x = 9 ∨ x = 10 := by
  have key : ∀ k : Int32, x.toInt = k.toInt → x = k := fun k h => Int32.toInt_inj.mp h
  by_cases h : x.toInt < 0 ∨ 10 < x.toInt
  · exact Or.inl h
  · refine Or.inr ?_
    have : x.toInt = 0 ∨ x.toInt = 1 ∨ x.toInt = 2 ∨ x.toInt = 3 ∨ x.toInt = 4 ∨ x.toInt = 5 ∨ x.toInt = 6 ∨ x.toInt = 7 ∨ x.toInt = 8 ∨ x.toInt = 9 ∨ x.toInt = 10 := by omega
    rcases this with h | h | h | h | h | h | h | h | h | h | h
    · exact Or.inl (key 0 h)
    · exact Or.inr (Or.inl (key 1 h))
    · exact Or.inr (Or.inr (Or.inl (key 2 h)))
    · exact Or.inr (Or.inr (Or.inr (Or.inl (key 3 h))))
    · exact Or.inr (Or.inr (Or.inr (Or.inr (Or.inl (key 4 h)))))
    · exact Or.inr (Or.inr (Or.inr (Or.inr (Or.inr (Or.inl (key 5 h))))))
    · exact Or.inr (Or.inr (Or.inr (Or.inr (Or.inr (Or.inr (Or.inl (key 6 h)))))))
    · exact Or.inr (Or.inr (Or.inr (Or.inr (Or.inr (Or.inr (Or.inr (Or.inl (key 7 h))))))))
    · exact Or.inr (Or.inr (Or.inr (Or.inr (Or.inr (Or.inr (Or.inr (Or.inr (Or.inl (key 8 h)))))))))
    · exact Or.inr (Or.inr (Or.inr (Or.inr (Or.inr (Or.inr (Or.inr (Or.inr (Or.inr (Or.inl (key 9 h))))))))))
    · exact Or.inr (Or.inr (Or.inr (Or.inr (Or.inr (Or.inr (Or.inr (Or.inr (Or.inr (Or.inr (key 10 h))))))))))
theorem g_sw_0_4 (x : Int32) : (x.toInt < 0 ∨ 4 < x.toInt) ∨ x = 0 ∨ x = 1 ∨ x = 2 ∨ x = 3 ∨ x = 4 := by
  have key : ∀ k : Int32, x.toInt = k.toInt → x = k := fun k h => Int32.toInt_inj.mp h
  by_cases h : x.toInt < 0 ∨ 4 < x.toInt
  · exact Or.inl h
  · refine Or.inr ?_
    have : x.toInt = 0 ∨ x.toInt = 1 ∨ x.toInt = 2 ∨ x.toInt = 3 ∨ x.toInt = 4 := by omega
    rcases this with h | h | h | h | h
    · exact Or.inl (key 0 h)
    · exact Or.inr (Or.inl (key 1 h))
    · exact Or.inr (Or.inr (Or.inl (key 2 h)))
    · exact Or.inr (Or.inr (Or.inr (Or.inl (key 3 h))))
    · exact Or.inr (Or.inr (Or.inr (Or.inr (key 4 h))))
theorem g_sw_0_1 (x : Int32) : (x.toInt < 0 ∨ 1 < x.toInt) ∨ x = 0 ∨ x = 1 := by
  have key : ∀ k : Int32, x.toInt = k.toInt → x = k := fun k h => Int32.toInt_inj.mp h
  by_cases h : x.toInt < 0 ∨ 1 < x.toInt
  · exact Or.inl h
  · refine Or.inr ?_
    have : x.toInt = 0 ∨ x.toInt = 1 := by omega
    rcases this with h | h
    · exact Or.inl (key 0 h)
    · exact Or.inr (key 1 h)
/-! A cell behind a write. -/
theorem gp_Content_there {Y : gY} {S : gS} {i : gI} {v : Int32} (h : gT i = 0) : gce Y (gset S i 1 v) i = .inr (0, (gf_Content Y S i).set 1 (.int v)) := by
  rw [gce_Content h]
  simp [gf_Content, gset]
theorem gp_Content_size {Y : gY} {S : gS} {i : gI} {v : Int32} (h : gT i = 0) : gce Y (gset S i 2 v) i = .inr (0, (gf_Content Y S i).set 2 (.int v)) := by
  rw [gce_Content h]
  simp [gf_Content, gset]
theorem gp_DiskFile_low {Y : gY} {S : gS} {i : gI} {v : Int32} (h : gT i = 1) : gce Y (gset S i 3 v) i = .inr (1, (gf_DiskFile Y S i).set 3 (.int v)) := by
  rw [gce_DiskFile h]
  simp [gf_DiskFile, gset]
theorem gp_Frame_size {Y : gY} {S : gS} {i : gI} {v : Int32} (h : gT i = 3) : gce Y (gset S i 1 v) i = .inr (3, (gf_Frame Y S i).set 1 (.int v)) := by
  rw [gce_Frame h]
  simp [gf_Frame, gset]
theorem gp_Pages_unusedCount {Y : gY} {S : gS} {i : gI} {v : Int32} (h : gT i = 4) : gce Y (gset S i 3 v) i = .inr (4, (gf_Pages Y S i).set 3 (.int v)) := by
  rw [gce_Pages h]
  simp [gf_Pages, gset]
theorem gp_Segments_count {Y : gY} {S : gS} {i : gI} {v : Int32} (h : gT i = 5) : gce Y (gset S i 2 v) i = .inr (5, (gf_Segments Y S i).set 2 (.int v)) := by
  rw [gce_Segments h]
  simp [gf_Segments, gset]
theorem gp_Snapshot_file {Y : gY} {S : gS} {i : gI} {v : Int32} (h : gT i = 6) : gce Y (gset S i 0 v) i = .inr (6, (gf_Snapshot Y S i).set 0 (.int v)) := by
  rw [gce_Snapshot h]
  simp [gf_Snapshot, gset]
theorem gp_Snapshot_base {Y : gY} {S : gS} {i : gI} {v : Int32} (h : gT i = 6) : gce Y (gset S i 1 v) i = .inr (6, (gf_Snapshot Y S i).set 1 (.int v)) := by
  rw [gce_Snapshot h]
  simp [gf_Snapshot, gset]
theorem gp_Snapshot_term {Y : gY} {S : gS} {i : gI} {v : Int32} (h : gT i = 6) : gce Y (gset S i 2 v) i = .inr (6, (gf_Snapshot Y S i).set 2 (.int v)) := by
  rw [gce_Snapshot h]
  simp [gf_Snapshot, gset]
theorem gp_Snapshot_code {Y : gY} {S : gS} {i : gI} {v : Int32} (h : gT i = 6) : gce Y (gset S i 3 v) i = .inr (6, (gf_Snapshot Y S i).set 3 (.int v)) := by
  rw [gce_Snapshot h]
  simp [gf_Snapshot, gset]
theorem gp_Tape_size {Y : gY} {S : gS} {i : gI} {v : Int32} (h : gT i = 7) : gce Y (gset S i 1 v) i = .inr (7, (gf_Tape Y S i).set 1 (.int v)) := by
  rw [gce_Tape h]
  simp [gf_Tape, gset]
theorem gp_Vote_term {Y : gY} {S : gS} {i : gI} {v : Int32} (h : gT i = 8) : gce Y (gset S i 0 v) i = .inr (8, (gf_Vote Y S i).set 0 (.int v)) := by
  rw [gce_Vote h]
  simp [gf_Vote, gset]
theorem gp_Vote_voted {Y : gY} {S : gS} {i : gI} {v : Int32} (h : gT i = 8) : gce Y (gset S i 1 v) i = .inr (8, (gf_Vote Y S i).set 1 (.int v)) := by
  rw [gce_Vote h]
  simp [gf_Vote, gset]
theorem gp_Vote_times {Y : gY} {S : gS} {i : gI} {v : Int64} (h : gT i = 8) : gce Y (gsetL S i 2 v) i = .inr (8, (gf_Vote Y S i).set 2 (.long v)) := by
  rw [gce_Vote h]
  simp [gf_Vote, gsetL]
theorem gp_Vote_file {Y : gY} {S : gS} {i : gI} {v : Int32} (h : gT i = 8) : gce Y (gset S i 3 v) i = .inr (8, (gf_Vote Y S i).set 3 (.int v)) := by
  rw [gce_Vote h]
  simp [gf_Vote, gset]
theorem gp_Vote_fresh {Y : gY} {S : gS} {i : gI} {v : Int32} (h : gT i = 8) : gce Y (gset S i 4 v) i = .inr (8, (gf_Vote Y S i).set 4 (.int v)) := by
  rw [gce_Vote h]
  simp [gf_Vote, gset]
theorem gp_LogDisk_firstCode {Y : gY} {S : gS} {i : gI} {v : Int32} (h : gT i = 9) : gce Y (gset S i 9 v) i = .inr (9, (gf_LogDisk Y S i).set 9 (.int v)) := by
  rw [gce_LogDisk h]
  simp [gf_LogDisk, gset]
theorem gp_LogDisk_last {Y : gY} {S : gS} {i : gI} {v : Int32} (h : gT i = 9) : gce Y (gset S i 10 v) i = .inr (9, (gf_LogDisk Y S i).set 10 (.int v)) := by
  rw [gce_LogDisk h]
  simp [gf_LogDisk, gset]
theorem gp_LogDisk_dirty {Y : gY} {S : gS} {i : gI} {v : Int32} (h : gT i = 9) : gce Y (gset S i 11 v) i = .inr (9, (gf_LogDisk Y S i).set 11 (.int v)) := by
  rw [gce_LogDisk h]
  simp [gf_LogDisk, gset]
theorem gp_Mo_thrown {Y : gY} {S : gS} {i : gI} {v : Int32} (h : gT i = 10) : gce Y (gset S i 0 v) i = .inr (10, (gf_Mo Y S i).set 0 (.int v)) := by
  rw [gce_Mo h]
  simp [gf_Mo, gset]
theorem gp_Mo_limit {Y : gY} {S : gS} {i : gI} {v : Int32} (h : gT i = 10) : gce Y (gset S i 1 v) i = .inr (10, (gf_Mo Y S i).set 1 (.int v)) := by
  rw [gce_Mo h]
  simp [gf_Mo, gset]
theorem gp_Mo_firstCode {Y : gY} {S : gS} {i : gI} {v : Int32} (h : gT i = 10) : gce Y (gset S i 2 v) i = .inr (10, (gf_Mo Y S i).set 2 (.int v)) := by
  rw [gce_Mo h]
  simp [gf_Mo, gset]
theorem gp_Mo_frames {Y : gY} {S : gS} {i : gI} {v : Int32} (h : gT i = 10) : gce Y (gset S i 3 v) i = .inr (10, (gf_Mo Y S i).set 3 (.int v)) := by
  rw [gce_Mo h]
  simp [gf_Mo, gset]
theorem gp_Mo_used {Y : gY} {S : gS} {i : gI} {v : Int32} (h : gT i = 10) : gce Y (gset S i 11 v) i = .inr (10, (gf_Mo Y S i).set 11 (.int v)) := by
  rw [gce_Mo h]
  simp [gf_Mo, gset]
theorem gp_Mo_term {Y : gY} {S : gS} {i : gI} {v : Int32} (h : gT i = 10) : gce Y (gset S i 19 v) i = .inr (10, (gf_Mo Y S i).set 19 (.int v)) := by
  rw [gce_Mo h]
  simp [gf_Mo, gset]
theorem gp_Mo_voted {Y : gY} {S : gS} {i : gI} {v : Int32} (h : gT i = 10) : gce Y (gset S i 20 v) i = .inr (10, (gf_Mo Y S i).set 20 (.int v)) := by
  rw [gce_Mo h]
  simp [gf_Mo, gset]
theorem gp_Mo_times {Y : gY} {S : gS} {i : gI} {v : Int32} (h : gT i = 10) : gce Y (gset S i 21 v) i = .inr (10, (gf_Mo Y S i).set 21 (.int v)) := by
  rw [gce_Mo h]
  simp [gf_Mo, gset]
theorem gp_Mo_slot {Y : gY} {S : gS} {i : gI} {v : Int32} (h : gT i = 10) : gce Y (gset S i 22 v) i = .inr (10, (gf_Mo Y S i).set 22 (.int v)) := by
  rw [gce_Mo h]
  simp [gf_Mo, gset]
theorem gp_Mo_base {Y : gY} {S : gS} {i : gI} {v : Int32} (h : gT i = 10) : gce Y (gset S i 23 v) i = .inr (10, (gf_Mo Y S i).set 23 (.int v)) := by
  rw [gce_Mo h]
  simp [gf_Mo, gset]
theorem gp_Mo_baseTerm {Y : gY} {S : gS} {i : gI} {v : Int32} (h : gT i = 10) : gce Y (gset S i 24 v) i = .inr (10, (gf_Mo Y S i).set 24 (.int v)) := by
  rw [gce_Mo h]
  simp [gf_Mo, gset]
theorem gp_Mo_code {Y : gY} {S : gS} {i : gI} {v : Int32} (h : gT i = 10) : gce Y (gset S i 25 v) i = .inr (10, (gf_Mo Y S i).set 25 (.int v)) := by
  rw [gce_Mo h]
  simp [gf_Mo, gset]
theorem gp_Mo_snapshot {Y : gY} {S : gS} {i : gI} {v : Int32} (h : gT i = 10) : gce Y (gset S i 26 v) i = .inr (10, (gf_Mo Y S i).set 26 (.int v)) := by
  rw [gce_Mo h]
  simp [gf_Mo, gset]
theorem gp_Mo_last {Y : gY} {S : gS} {i : gI} {v : Int32} (h : gT i = 10) : gce Y (gset S i 27 v) i = .inr (10, (gf_Mo Y S i).set 27 (.int v)) := by
  rw [gce_Mo h]
  simp [gf_Mo, gset]
theorem gp_Mo_slotSince {Y : gY} {S : gS} {i : gI} {v : Int32} (h : gT i = 10) : gce Y (gset S i 28 v) i = .inr (10, (gf_Mo Y S i).set 28 (.int v)) := by
  rw [gce_Mo h]
  simp [gf_Mo, gset]
theorem gp_Mo_dirty {Y : gY} {S : gS} {i : gI} {v : Int32} (h : gT i = 10) : gce Y (gset S i 29 v) i = .inr (10, (gf_Mo Y S i).set 29 (.int v)) := by
  rw [gce_Mo h]
  simp [gf_Mo, gset]
theorem gp_Mo_segments {Y : gY} {S : gS} {i : gI} {v : Int32} (h : gT i = 10) : gce Y (gset S i 30 v) i = .inr (10, (gf_Mo Y S i).set 30 (.int v)) := by
  rw [gce_Mo h]
  simp [gf_Mo, gset]
theorem gp_Mo_tape {Y : gY} {S : gS} {i : gI} {v : Int32} (h : gT i = 10) : gce Y (gset S i 33 v) i = .inr (10, (gf_Mo Y S i).set 33 (.int v)) := by
  rw [gce_Mo h]
  simp [gf_Mo, gset]
