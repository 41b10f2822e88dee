/-! Arrays, calls, ends. -/
section
variable {p : Program} {l : Launch} {e : Env} {R : Room} {s : State} {m : MethodId} {args : Array Value} {below : List Frame} {meth : Method} {c : Code} {H : Heap} {locs : List Loc} {cells slots : Nat} {Q : State → Prop}
variable {cc : ByteArray} {pc : Nat} {ls : Array Slot} {rest st0 : List Value} {Y : gY} {S : gS} {i j : gI} {t : Nat}
theorem g_iaload (hx : p.tables.exec = Jvm.exec) (hb : c.code = cc) (hK : va_K (gDd Y) gCl (gTys Y) s) (hP : gWd Y S H) (hi : gis Y gt_int i) {x : Int32} (hin : vp_in x (gLn Y i)) (hdg : decode cc pc = .ok (.iaload, 1))
    (kk : W p l e R s m args below meth c H locs cells slots Q (F0 m (pc + 1) ls (.int (S.1 i x.toNatClampNeg) :: rest))) : W p l e R s m args below meth c H locs cells slots Q (F0 m pc ls (.int x :: .ref (gad Y i) :: rest)) := by
  obtain ⟨q0, -, h1⟩ := gWs_at S hi.2
  rw [gce_int hi.1] at h1
  exact va_iald hx hb hK hP q0 0 h1 rfl hin hdg kk
theorem g_baload (hx : p.tables.exec = Jvm.exec) (hb : c.code = cc) (hK : va_K (gDd Y) gCl (gTys Y) s) (hP : gWd Y S H) (hi : gis Y gt_byte i) {x : Int32} (hin : vp_in x (gLn Y i)) (hdg : decode cc pc = .ok (.baload, 1))
    (kk : W p l e R s m args below meth c H locs cells slots Q (F0 m (pc + 1) ls (.int (S.1 i x.toNatClampNeg) :: rest))) : W p l e R s m args below meth c H locs cells slots Q (F0 m pc ls (.int x :: .ref (gad Y i) :: rest)) := by
  obtain ⟨q0, -, h1⟩ := gWs_at S hi.2
  rw [gce_byte hi.1] at h1
  exact va_bald hx hb hK hP q0 1 h1 rfl hin hdg kk
theorem g_iastore (hx : p.tables.exec = Jvm.exec) (hb : c.code = cc) (hK : va_K (gDd Y) gCl (gTys Y) s) (hJ : gInj Y) (hP : gWd Y S H) (hS : va_S (gA Y s.heap.size) s.heap H locs) (hi : gis Y gt_int i) {x v : Int32} (hin : vp_in x (gLn Y i)) (hdg : decode cc pc = .ok (.iastore, 1))
    (kk : ∀ (S' : gS), S' = gset S i x.toNatClampNeg v → ∀ (H1 : Heap) (locs1 : List Loc), gWd Y S' H1 → va_S (gA Y s.heap.size) s.heap H1 locs1 → W p l e R s m args below meth c H1 locs1 cells slots Q (F0 m (pc + 1) ls rest)) : W p l e R s m args below meth c H locs cells slots Q (F0 m pc ls (.int v :: .int x :: .ref (gad Y i) :: rest)) := by
  obtain ⟨q0, h0, h1⟩ := gWs_at S hi.2
  rw [gce_int hi.1] at h1
  exact va_iast hx hb hK hP (gD hJ) hS q0 0 h1 rfl hin hdg (fun H1 locs1 hP1 _ hS1 => kk _ rfl H1 locs1 (gWd_set hJ h0 (by rw [gce_int hi.1, gset_u]) gce_gset hP1) hS1)
theorem g_bastore (hx : p.tables.exec = Jvm.exec) (hb : c.code = cc) (hK : va_K (gDd Y) gCl (gTys Y) s) (hJ : gInj Y) (hP : gWd Y S H) (hS : va_S (gA Y s.heap.size) s.heap H locs) (hi : gis Y gt_byte i) {x v : Int32} (hin : vp_in x (gLn Y i)) (hdg : decode cc pc = .ok (.bastore, 1))
    (kk : ∀ (S' : gS), S' = gset S i x.toNatClampNeg (vp_nar .byte v) → ∀ (H1 : Heap) (locs1 : List Loc), gWd Y S' H1 → va_S (gA Y s.heap.size) s.heap H1 locs1 → W p l e R s m args below meth c H1 locs1 cells slots Q (F0 m (pc + 1) ls rest)) : W p l e R s m args below meth c H locs cells slots Q (F0 m pc ls (.int v :: .int x :: .ref (gad Y i) :: rest)) := by
  obtain ⟨q0, h0, h1⟩ := gWs_at S hi.2
  rw [gce_byte hi.1] at h1
  exact va_bast hx hb hK hP (gD hJ) hS q0 1 h1 rfl hin hdg (fun H1 locs1 hP1 _ hS1 => kk _ rfl H1 locs1 (gWd_set hJ h0 (by rw [gce_byte hi.1, gset_u]) gce_gset hP1) hS1)
theorem g_alenI (hx : p.tables.exec = Jvm.exec) (hb : c.code = cc) (hK : va_K (gDd Y) gCl (gTys Y) s) (hP : gWd Y S H) (hi : gis Y gt_int i) (hdg : decode cc pc = .ok (.arraylength, 1))
    (kk : W p l e R s m args below meth c H locs cells slots Q (F0 m (pc + 1) ls (.int (Int32.ofNat (gLn Y i)) :: rest))) : W p l e R s m args below meth c H locs cells slots Q (F0 m pc ls (.ref (gad Y i) :: rest)) := by
  obtain ⟨q0, -, h1⟩ := gWs_at S hi.2
  rw [gce_int hi.1] at h1
  exact va_alen hx hb hK hP q0 0 h1 rfl rfl hdg kk
theorem g_alenB (hx : p.tables.exec = Jvm.exec) (hb : c.code = cc) (hK : va_K (gDd Y) gCl (gTys Y) s) (hP : gWd Y S H) (hi : gis Y gt_byte i) (hdg : decode cc pc = .ok (.arraylength, 1))
    (kk : W p l e R s m args below meth c H locs cells slots Q (F0 m (pc + 1) ls (.int (Int32.ofNat (gLn Y i)) :: rest))) : W p l e R s m args below meth c H locs cells slots Q (F0 m pc ls (.ref (gad Y i) :: rest)) := by
  obtain ⟨q0, -, h1⟩ := gWs_at S hi.2
  rw [gce_byte hi.1] at h1
  exact va_alen hx hb hK hP q0 1 h1 rfl rfl hdg kk
theorem g_copyB (hx : p.tables.exec = Jvm.exec) (hb : c.code = cc) (hml : c.maxLocals = ls.size) {own : String} {index : Nat} (hown : s.vm.findClass own = some m.cls) (hlink : (Cond.methodLink own index arraycopyName).before args s = true) (hnat : (Cond.native arraycopyName).before args s = true) (hstat : (Cond.static arraycopyName).before args s = true) (hini : (Cond.initialized "java/lang/System").before args s = true)
    (hK : va_K (gDd Y) gCl (gTys Y) s) (hJ : gInj Y) (hP : gWd Y S H) (hS : va_S (gA Y s.heap.size) s.heap H locs) (hi : gis Y gt_byte i) (hj : gis Y gt_byte j)
    {sp dp n : Int32} (h1 : ¬ sp < 0) (h2 : ¬ dp < 0) (h3 : ¬ n < 0) (h4 : sp.toNatClampNeg + n.toNatClampNeg ≤ gLn Y i) (h5 : dp.toNatClampNeg + n.toNatClampNeg ≤ gLn Y j) (hfit : ∀ a, a < n.toNatClampNeg → fits .byte (.int (S.1 i (sp.toNatClampNeg + a))) = true)
    (hframes : 1 ≤ R.frames) (hlocals : (rest.map fun v => v.category).sum + (nativeFrameWords "java/lang/System" "arraycopy" 5 + 11) ≤ R.locals) (hdg : decode cc pc = .ok (.invokestatic index, 3))
    (kk : ∀ (S' : gS), S' = gcpy S i sp.toNatClampNeg j dp.toNatClampNeg n.toNatClampNeg → ∀ (H1 : Heap) (locs1 : List Loc), gWd Y S' H1 → va_S (gA Y s.heap.size) s.heap H1 locs1 → W p l e R s m args below meth c H1 locs1 cells slots Q (F0 m (pc + 3) ls rest)) : W p l e R s m args below meth c H locs cells slots Q (F0 m pc ls (.int n :: .int dp :: .ref (gad Y j) :: .int sp :: .ref (gad Y i) :: rest)) := by
  obtain ⟨q0, -, r0⟩ := gWs_at S hi.2
  obtain ⟨q1, z1, r1⟩ := gWs_at S hj.2
  rw [gce_byte hi.1] at r0
  rw [gce_byte hj.1] at r1
  refine va_copyi hx hb hml hown hlink hnat hstat hini hK hP (gD hJ) hS q0 q1 1 1 r0 r1 rfl rfl rfl h1 h2 h3 h4 h5 hfit hframes hlocals hdg (fun H1 locs1 hP1 _ hS1 => kk _ rfl H1 locs1 (gWd_set hJ z1 ?_ gce_gcpy hP1) hS1)
  rw [gce_byte hj.1]
  have : (gcpy S i sp.toNatClampNeg j dp.toNatClampNeg n.toNatClampNeg).1 j = va_cpy (S.1 i) (S.1 j) sp.toNatClampNeg dp.toNatClampNeg n.toNatClampNeg := by
    funext k
    show (if j = j then _ else _) = _
    rw [if_pos rfl]
  rw [this]
/-- what a method finds at its start -/
def gPre (Y : gY) (av : List Value) (S : gS) (sz : Nat) (P : Prop) : Array Value → State → Prop := va_Pc av (fun U => U.heap.size = sz ∧ gWd Y S U.heap ∧ va_K (gDd Y) gCl (gTys Y) U ∧ gSt Y sz U ∧ P)
def gB (Y : gY) (S : gS) (t : State) : Prop := gWd Y S t.heap ∧ va_K (gDd Y) gCl (gTys Y) t
theorem gPre_blind {Y : gY} {av : List Value} {S : gS} {sz : Nat} {P : Prop} : FrameBlind (gPre Y av S sz P) := fun a U g mk q => by
  obtain ⟨q0, q1, qP, qK, qS, qW⟩ := q
  exact ⟨q0, q1, qP, va_K.moved (u := U) (U := U.calling g mk a) (Vm.Alike.refl U.vm) qK, gSt_calling qS, qW⟩
theorem g_calli {post : Int32 → gS → Prop} {a : Array Value} (hr : va_Run p l e R s m args below meth c H locs cells slots 0 0 (F0 m pc ls st0) rest (va_Qi post (gB Y) (gA Y H.size) a) (gA Y H.size)) (hS : va_S (gA Y s.heap.size) s.heap H locs)
    (kk : ∀ (r : Int32) (S1 : gS) (H1 : Heap) (locs1 : List Loc), post r S1 → gWd Y S1 H1 → va_S (gA Y s.heap.size) s.heap H1 locs1 → W p l e R s m args below meth c H1 locs1 cells slots Q (F0 m (pc + 3) ls (.int r :: rest))) : W p l e R s m args below meth c H locs cells slots Q (F0 m pc ls st0) :=
  va_calli hr hS (fun q _ h => gA_call hS q h) (gA_call hS) (fun r u t H1 locs1 ht _ hp hB _ _ hS1 => kk r u H1 locs1 hp (by rw [← ht]; exact hB.1) hS1)
theorem g_calll {post : Int64 → gS → Prop} {a : Array Value} (hr : va_Run p l e R s m args below meth c H locs cells slots 0 0 (F0 m pc ls st0) rest (va_Ql post (gB Y) (gA Y H.size) a) (gA Y H.size)) (hS : va_S (gA Y s.heap.size) s.heap H locs)
    (kk : ∀ (r : Int64) (S1 : gS) (H1 : Heap) (locs1 : List Loc), post r S1 → gWd Y S1 H1 → va_S (gA Y s.heap.size) s.heap H1 locs1 → W p l e R s m args below meth c H1 locs1 cells slots Q (F0 m (pc + 3) ls (.long r :: rest))) : W p l e R s m args below meth c H locs cells slots Q (F0 m pc ls st0) :=
  va_calll hr hS (fun q _ h => gA_call hS q h) (gA_call hS) (fun r u t H1 locs1 ht _ hp hB _ _ hS1 => kk r u H1 locs1 hp (by rw [← ht]; exact hB.1) hS1)
theorem g_callv {post : gS → Prop} {a : Array Value} (hr : va_Run p l e R s m args below meth c H locs cells slots 0 0 (F0 m pc ls st0) rest (va_Qv post (gB Y) (gA Y H.size) a) (gA Y H.size)) (hS : va_S (gA Y s.heap.size) s.heap H locs)
    (kk : ∀ (S1 : gS) (H1 : Heap) (locs1 : List Loc), post S1 → gWd Y S1 H1 → va_S (gA Y s.heap.size) s.heap H1 locs1 → W p l e R s m args below meth c H1 locs1 cells slots Q (F0 m (pc + 3) ls rest)) : W p l e R s m args below meth c H locs cells slots Q (F0 m pc ls st0) :=
  va_callv hr hS (fun q _ h => gA_call hS q h) (gA_call hS) (fun u t H1 locs1 ht _ hp hB _ _ hS1 => kk u H1 locs1 hp (by rw [← ht]; exact hB.1) hS1)
end
