def wp_Law_feed (Ln : gI → Nat) (Q : Int32 → gS → Prop) (x0 : gI) (x1 : Int64) (x3 : Int32) (x4 : gI)  (S : gS) : Prop :=
  wp_LogDisk_feed Ln (fun r3 S1 => vp_in 0 (Ln x4) ∧ (∀ S4 : gS, S4 = gsetL S1 x4 (0 : Int32).toNatClampNeg (r3.toInt64) → (Q 0 S4))) (fun E S2 => (E = "java/lang/IllegalArgumentException" ∧ (Q 1 S2)) ∨ (E = "java/lang/IllegalStateException" ∧ (Q 2 S2))) x0 x1 x3 S
set_option maxHeartbeats 4000000 in
set_option maxRecDepth 100000 in
theorem mw_Law_feed {p : Program} {l : Launch} {e : Env} {s : State} {m : MethodId} {args : Array Value} {below : List Frame} {meth : Method} {c : Code} {Y : gY} {Q : Int32 → gS → Prop} (C : gCx p s m args meth c Y "LogDiskLaw" c_Law_feed 6 (Option.some Jvm.ClassFile.FieldType.int) w_Law_feed) (hlt : l.stackTraces = false) (hout : c.exceptionTable.toList = tableOf hh_Law_feed) : ∀ (x0 : gI) (x1 : Int64) (x3 : Int32) (x4 : gI)  (S : gS) (H : Heap) (locs : List Loc) (ls : Array Slot), gis Y 9 x0 → gis Y 23 x4 → wp_Law_feed (gLn Y) Q x0 x1 x3 x4 S → gWd Y S H → va_S (gA Y s.heap.size) s.heap H locs → lv_has ls 6 [(0, .ref (gad Y x0)), (1, .long x1), (3, .int x3), (4, .ref (gad Y x4))] → W p l e (gRmX 7 124) s m args below meth c H locs 0 0 (MQ below (va_Qi Q (gB Y) (gA Y s.heap.size)) args s 1 6 (gA Y s.heap.size)) (F0 m 0 ls []) := by
  have C0 := C
  obtain ⟨hx, hb, hml, hown, hts, hr, hlocks, hK, hY, hSt⟩ := C
  intro x0 x1 x3 x4 S H locs ls hx0 hx4 hw hP hS hl
  unfold wp_Law_feed at hw
  refine lv_aload hx hb d_Law_feed_0 (lv_at hl 3 rfl) ?_
  refine lv_iconst (v := 0) hx hb d_Law_feed_2 (by decide) ?_
  refine lv_aload_n hx hb d_Law_feed_3 rfl (lv_at hl 0 rfl) ?_
  refine lv_lload_n hx hb d_Law_feed_4 rfl (lv_at hl 1 rfl) ?_
  refine lv_iload_n hx hb d_Law_feed_5 rfl (lv_at hl 2 rfl) ?_
  refine gx_calli (As := [.long x1, .int x3]) (rest := [.int 0, .ref (gad Y x4)]) ⟨hx, hb, hml, hown, hts⟩ (k_LogDisk_feed l hlt Y hY H.size x0 x1 x3 hx0 S _ _) (cwV 2 hts (gG_V gw_430 gw_431 gw_432 gw_1 gw_433) rfl rfl rfl (by decide +kernel) ⟨Nat.le_of_ble_eq_true rfl, Nat.le_of_ble_eq_true rfl⟩) ⟨gPre_blind, g_recv hK hP hx0 (gce_LogDisk hx0.1) rfl, g_pre hK hSt hS hP hw⟩ rfl hl.1 rfl (lv_room (Nat.le_of_ble_eq_true rfl)) d_Law_feed_6 ⟨Nat.le_of_ble_eq_true rfl, Nat.le_of_ble_eq_true rfl⟩ hS (fun E S2 q ce H locs hw hP hS hq hqv hcl => ?_) (fun r3 S1 H locs hw hP hS => ?_)
  · rcases hw with ⟨rfl, hw⟩ | ⟨rfl, hw⟩
    · refine gx_catch (E := "java/lang/IllegalArgumentException") (name := "java/lang/IllegalArgumentException") hown [] ⟨0, 11, 14, 13⟩ [⟨0, 11, 18, 15⟩] (by rw [hout]; rfl) (fun z hz => by cases hz) (by decide) (by decide) (hts _ (List.mem_cons_of_mem _ gw_428)) (gx_castY hSt args (ic := 93) (by decide +kernel)) hq hqv hcl ?_
      refine lv_astore (lv' := [(5, .ref q), (0, .ref (gad Y x0)), (1, .long x1), (3, .int x3), (4, .ref (gad Y x4))]) hx hb d_Law_feed_14 hl (by decide) rfl (fun ls hl => ?_)
      refine lv_iconst (v := 1) hx hb d_Law_feed_16 (by decide) ?_
      exact W.iret (v := 1) hx hb hr (fun t ht hW => ⟨⟨1, S2, rfl, hw, by rw [ht]; exact hP, va_K.moved hW.alike hK⟩, hS.F ht⟩) hS.2.2 d_Law_feed_17
    · refine gx_catch (E := "java/lang/IllegalStateException") (name := "java/lang/IllegalStateException") hown [⟨0, 11, 14, 13⟩] ⟨0, 11, 18, 15⟩ [] (by rw [hout]; rfl) (fun z hz => by cases List.mem_singleton.mp hz; exact ⟨by decide, _, (hts _ (List.mem_cons_of_mem _ gw_428)), gx_castN hSt args (by decide +kernel)⟩) (by decide) (by decide) (hts _ (List.mem_cons_of_mem _ gw_429)) (gx_castY hSt args (ic := 103) (by decide +kernel)) hq hqv hcl ?_
      refine lv_astore (lv' := [(5, .ref q), (0, .ref (gad Y x0)), (1, .long x1), (3, .int x3), (4, .ref (gad Y x4))]) hx hb d_Law_feed_18 hl (by decide) rfl (fun ls hl => ?_)
      refine lv_iconst (v := 2) hx hb d_Law_feed_20 (by decide) ?_
      exact W.iret (v := 2) hx hb hr (fun t ht hW => ⟨⟨2, S2, rfl, hw, by rw [ht]; exact hP, va_K.moved hW.alike hK⟩, hS.F ht⟩) hS.2.2 d_Law_feed_21
  refine lv_i2l hx hb d_Law_feed_9 rfl ?_
  obtain ⟨hin, hw⟩ := hw
  refine g_lastore hx hb hK hY.1 hP hS hx4 hin d_Law_feed_10 (fun S4 eS4 H locs hP hS => ?_)
  replace hw := hw S4 eS4
  refine lv_goto (tgt := 22) hx hb d_Law_feed_11 (by decide) ?_
  refine lv_iconst (v := 0) hx hb d_Law_feed_22 (by decide) ?_
  exact W.iret (v := 0) hx hb hr (fun t ht hW => ⟨⟨0, S4, rfl, hw, by rw [ht]; exact hP, va_K.moved hW.alike hK⟩, hS.F ht⟩) hS.2.2 d_Law_feed_23
set_option maxHeartbeats 4000000 in
set_option maxRecDepth 100000 in
theorem k_Law_feed (l : Launch) (hlt : l.stackTraces = false) (Y : gY) (hY : gOK Y) (sz : Nat) (x0 : gI) (x1 : Int64) (x3 : Int32) (x4 : gI)  (hx0 : gis Y 9 x0) (hx4 : gis Y 23 x4) (S : gS) (Q : Int32 → gS → Prop) : Met l y_Law_feed w_Law_feed (gRmX 7 124) (gPre Y [.ref (gad Y x0), .long x1, .int x3, .ref (gad Y x4)] S sz (wp_Law_feed (gLn Y) Q x0 x1 x3 x4 S)) (va_Qi Q (gB Y) (gA Y sz)) 1 6 (gA Y sz) := by
  refine va_MetW (cc := c_Law_feed) (maxL := 6) (ret := (Option.some Jvm.ClassFile.FieldType.int)) (hh := hh_Law_feed) (by decide) rfl ?_
  intro p e s m args below meth c s₁ B hml hv
  obtain ⟨rfl, hsz, hP, hK, hSt, hw⟩ := hv
  subst hsz
  have hts := atoms_spec (ws := w_Law_feed) B.pre
  have hl := lv_entry ([.ref (gad Y x0), .long x1, .int x3, .ref (gad Y x4)]) (n := 6) (Nat.le_of_ble_eq_true rfl)
  rw [lg_entry_eq]
  generalize (lg_sl ([.ref (gad Y x0), .long x1, .int x3, .ref (gad Y x4)]) ++ List.replicate (6 - (lg_sl ([.ref (gad Y x0), .long x1, .int x3, .ref (gad Y x4)])).length) Slot.unset).toArray = ls at hl ⊢
  exact mw_Law_feed ⟨B.exec, B.bytes, hml, findClass_of_methodNamed B.named, hts, B.returns, B.notSynchronized, hK, hY, hSt⟩ hlt (gx_table B (hts _ List.mem_cons_self)) x0 x1 x3 x4 S s.heap [] ls hx0 hx4 hw hP va_S.rf hl

def wp_Law_save (Ln : gI → Nat) (Q : Int32 → gS → Prop) (x0 : gI) (x1 : Int32) (x2 : Int32) (x3 : gI)  (S : gS) : Prop :=
  wp_LogDisk_save Ln (fun r3 S1 => vp_in 0 (Ln x3) ∧ (∀ S4 : gS, S4 = gsetL S1 x3 (0 : Int32).toNatClampNeg (r3.toInt64) → (Q 0 S4))) (fun E S2 => (E = "java/lang/IllegalArgumentException" ∧ (Q 1 S2)) ∨ (E = "java/lang/UnsupportedOperationException" ∧ (Q 2 S2))) x0 x1 x2 S
set_option maxHeartbeats 4000000 in
set_option maxRecDepth 100000 in
theorem mw_Law_save {p : Program} {l : Launch} {e : Env} {s : State} {m : MethodId} {args : Array Value} {below : List Frame} {meth : Method} {c : Code} {Y : gY} {Q : Int32 → gS → Prop} (C : gCx p s m args meth c Y "LogDiskLaw" c_Law_save 5 (Option.some Jvm.ClassFile.FieldType.int) w_Law_save) (hlt : l.stackTraces = false) (hout : c.exceptionTable.toList = tableOf hh_Law_save) : ∀ (x0 : gI) (x1 : Int32) (x2 : Int32) (x3 : gI)  (S : gS) (H : Heap) (locs : List Loc) (ls : Array Slot), gis Y 9 x0 → gis Y 23 x3 → wp_Law_save (gLn Y) Q x0 x1 x2 x3 S → gWd Y S H → va_S (gA Y s.heap.size) s.heap H locs → lv_has ls 5 [(0, .ref (gad Y x0)), (1, .int x1), (2, .int x2), (3, .ref (gad Y x3))] → W p l e (gRmX 7 153) s m args below meth c H locs 0 0 (MQ below (va_Qi Q (gB Y) (gA Y s.heap.size)) args s 1 6 (gA Y s.heap.size)) (F0 m 0 ls []) := by
  have C0 := C
  obtain ⟨hx, hb, hml, hown, hts, hr, hlocks, hK, hY, hSt⟩ := C
  intro x0 x1 x2 x3 S H locs ls hx0 hx3 hw hP hS hl
  unfold wp_Law_save at hw
  refine lv_aload_n hx hb d_Law_save_0 rfl (lv_at hl 3 rfl) ?_
  refine lv_iconst (v := 0) hx hb d_Law_save_1 (by decide) ?_
  refine lv_aload_n hx hb d_Law_save_2 rfl (lv_at hl 0 rfl) ?_
  refine lv_iload_n hx hb d_Law_save_3 rfl (lv_at hl 1 rfl) ?_
  refine lv_iload_n hx hb d_Law_save_4 rfl (lv_at hl 2 rfl) ?_
  refine gx_calli (As := [.int x1, .int x2]) (rest := [.int 0, .ref (gad Y x3)]) ⟨hx, hb, hml, hown, hts⟩ (k_LogDisk_save l hlt Y hY H.size x0 x1 x2 hx0 S _ _) (cwV 2 hts (gG_V gw_523 gw_524 gw_525 gw_1 gw_526) rfl rfl rfl (by decide +kernel) ⟨Nat.le_of_ble_eq_true rfl, Nat.le_of_ble_eq_true rfl⟩) ⟨gPre_blind, g_recv hK hP hx0 (gce_LogDisk hx0.1) rfl, g_pre hK hSt hS hP hw⟩ rfl hl.1 rfl (lv_room (Nat.le_of_ble_eq_true rfl)) d_Law_save_5 ⟨Nat.le_of_ble_eq_true rfl, Nat.le_of_ble_eq_true rfl⟩ hS (fun E S2 q ce H locs hw hP hS hq hqv hcl => ?_) (fun r3 S1 H locs hw hP hS => ?_)
  · rcases hw with ⟨rfl, hw⟩ | ⟨rfl, hw⟩
    · refine gx_catch (E := "java/lang/IllegalArgumentException") (name := "java/lang/IllegalArgumentException") hown [] ⟨0, 10, 13, 13⟩ [⟨0, 10, 17, 21⟩] (by rw [hout]; rfl) (fun z hz => by cases hz) (by decide) (by decide) (hts _ (List.mem_cons_of_mem _ gw_428)) (gx_castY hSt args (ic := 93) (by decide +kernel)) hq hqv hcl ?_
      refine lv_astore (lv' := [(4, .ref q), (0, .ref (gad Y x0)), (1, .int x1), (2, .int x2), (3, .ref (gad Y x3))]) hx hb d_Law_save_13 hl (by decide) rfl (fun ls hl => ?_)
      refine lv_iconst (v := 1) hx hb d_Law_save_15 (by decide) ?_
      exact W.iret (v := 1) hx hb hr (fun t ht hW => ⟨⟨1, S2, rfl, hw, by rw [ht]; exact hP, va_K.moved hW.alike hK⟩, hS.F ht⟩) hS.2.2 d_Law_save_16
    · refine gx_catch (E := "java/lang/UnsupportedOperationException") (name := "java/lang/UnsupportedOperationException") hown [⟨0, 10, 13, 13⟩] ⟨0, 10, 17, 21⟩ [] (by rw [hout]; rfl) (fun z hz => by cases List.mem_singleton.mp hz; exact ⟨by decide, _, (hts _ (List.mem_cons_of_mem _ gw_428)), gx_castN hSt args (by decide +kernel)⟩) (by decide) (by decide) (hts _ (List.mem_cons_of_mem _ gw_522)) (gx_castY hSt args (ic := 128) (by decide +kernel)) hq hqv hcl ?_
      refine lv_astore (lv' := [(4, .ref q), (0, .ref (gad Y x0)), (1, .int x1), (2, .int x2), (3, .ref (gad Y x3))]) hx hb d_Law_save_17 hl (by decide) rfl (fun ls hl => ?_)
      refine lv_iconst (v := 2) hx hb d_Law_save_19 (by decide) ?_
      exact W.iret (v := 2) hx hb hr (fun t ht hW => ⟨⟨2, S2, rfl, hw, by rw [ht]; exact hP, va_K.moved hW.alike hK⟩, hS.F ht⟩) hS.2.2 d_Law_save_20
  refine lv_i2l hx hb d_Law_save_8 rfl ?_
  obtain ⟨hin, hw⟩ := hw
  refine g_lastore hx hb hK hY.1 hP hS hx3 hin d_Law_save_9 (fun S4 eS4 H locs hP hS => ?_)
  replace hw := hw S4 eS4
  refine lv_goto (tgt := 21) hx hb d_Law_save_10 (by decide) ?_
  refine lv_iconst (v := 0) hx hb d_Law_save_21 (by decide) ?_
  exact W.iret (v := 0) hx hb hr (fun t ht hW => ⟨⟨0, S4, rfl, hw, by rw [ht]; exact hP, va_K.moved hW.alike hK⟩, hS.F ht⟩) hS.2.2 d_Law_save_22
set_option maxHeartbeats 4000000 in
set_option maxRecDepth 100000 in
theorem k_Law_save (l : Launch) (hlt : l.stackTraces = false) (Y : gY) (hY : gOK Y) (sz : Nat) (x0 : gI) (x1 : Int32) (x2 : Int32) (x3 : gI)  (hx0 : gis Y 9 x0) (hx3 : gis Y 23 x3) (S : gS) (Q : Int32 → gS → Prop) : Met l y_Law_save w_Law_save (gRmX 7 153) (gPre Y [.ref (gad Y x0), .int x1, .int x2, .ref (gad Y x3)] S sz (wp_Law_save (gLn Y) Q x0 x1 x2 x3 S)) (va_Qi Q (gB Y) (gA Y sz)) 1 6 (gA Y sz) := by
  refine va_MetW (cc := c_Law_save) (maxL := 5) (ret := (Option.some Jvm.ClassFile.FieldType.int)) (hh := hh_Law_save) (by decide) rfl ?_
  intro p e s m args below meth c s₁ B hml hv
  obtain ⟨rfl, hsz, hP, hK, hSt, hw⟩ := hv
  subst hsz
  have hts := atoms_spec (ws := w_Law_save) B.pre
  have hl := lv_entry ([.ref (gad Y x0), .int x1, .int x2, .ref (gad Y x3)]) (n := 5) (Nat.le_of_ble_eq_true rfl)
  rw [lg_entry_eq]
  generalize (lg_sl ([.ref (gad Y x0), .int x1, .int x2, .ref (gad Y x3)]) ++ List.replicate (5 - (lg_sl ([.ref (gad Y x0), .int x1, .int x2, .ref (gad Y x3)])).length) Slot.unset).toArray = ls at hl ⊢
  exact mw_Law_save ⟨B.exec, B.bytes, hml, findClass_of_methodNamed B.named, hts, B.returns, B.notSynchronized, hK, hY, hSt⟩ hlt (gx_table B (hts _ List.mem_cons_self)) x0 x1 x2 x3 S s.heap [] ls hx0 hx3 hw hP va_S.rf hl

def wp_Law_append (Ln : gI → Nat) (Q : Int32 → gS → Prop) (x0 : gI) (x1 : Int32) (x2 : Int32) (x3 : gI)  (S : gS) : Prop :=
  wp_LogDisk_append Ln (fun r3 S1 => vp_in 0 (Ln x3) ∧ (∀ S4 : gS, S4 = gsetL S1 x3 (0 : Int32).toNatClampNeg (r3.toInt64) → (Q 0 S4))) (fun E S2 => (E = "java/lang/IllegalArgumentException" ∧ (Q 1 S2)) ∨ (E = "java/lang/IllegalStateException" ∧ (Q 2 S2)) ∨ (E = "java/lang/UnsupportedOperationException" ∧ (Q 3 S2))) x0 x1 x2 S
set_option maxHeartbeats 4000000 in
set_option maxRecDepth 100000 in
theorem mw_Law_append {p : Program} {l : Launch} {e : Env} {s : State} {m : MethodId} {args : Array Value} {below : List Frame} {meth : Method} {c : Code} {Y : gY} {Q : Int32 → gS → Prop} (C : gCx p s m args meth c Y "LogDiskLaw" c_Law_append 5 (Option.some Jvm.ClassFile.FieldType.int) w_Law_append) (hlt : l.stackTraces = false) (hout : c.exceptionTable.toList = tableOf hh_Law_append) : ∀ (x0 : gI) (x1 : Int32) (x2 : Int32) (x3 : gI)  (S : gS) (H : Heap) (locs : List Loc) (ls : Array Slot), gis Y 9 x0 → gis Y 23 x3 → wp_Law_append (gLn Y) Q x0 x1 x2 x3 S → gWd Y S H → va_S (gA Y s.heap.size) s.heap H locs → lv_has ls 5 [(0, .ref (gad Y x0)), (1, .int x1), (2, .int x2), (3, .ref (gad Y x3))] → W p l e (gRmX 7 160) s m args below meth c H locs 0 0 (MQ below (va_Qi Q (gB Y) (gA Y s.heap.size)) args s 1 6 (gA Y s.heap.size)) (F0 m 0 ls []) := by
  have C0 := C
  obtain ⟨hx, hb, hml, hown, hts, hr, hlocks, hK, hY, hSt⟩ := C
  intro x0 x1 x2 x3 S H locs ls hx0 hx3 hw hP hS hl
  unfold wp_Law_append at hw
  refine lv_aload_n hx hb d_Law_append_0 rfl (lv_at hl 3 rfl) ?_
  refine lv_iconst (v := 0) hx hb d_Law_append_1 (by decide) ?_
  refine lv_aload_n hx hb d_Law_append_2 rfl (lv_at hl 0 rfl) ?_
  refine lv_iload_n hx hb d_Law_append_3 rfl (lv_at hl 1 rfl) ?_
  refine lv_iload_n hx hb d_Law_append_4 rfl (lv_at hl 2 rfl) ?_
  refine gx_calli (As := [.int x1, .int x2]) (rest := [.int 0, .ref (gad Y x3)]) ⟨hx, hb, hml, hown, hts⟩ (k_LogDisk_append l hlt Y hY H.size x0 x1 x2 hx0 S _ _) (cwV 2 hts (gG_V gw_603 gw_604 gw_605 gw_1 gw_606) rfl rfl rfl (by decide +kernel) ⟨Nat.le_of_ble_eq_true rfl, Nat.le_of_ble_eq_true rfl⟩) ⟨gPre_blind, g_recv hK hP hx0 (gce_LogDisk hx0.1) rfl, g_pre hK hSt hS hP hw⟩ rfl hl.1 rfl (lv_room (Nat.le_of_ble_eq_true rfl)) d_Law_append_5 ⟨Nat.le_of_ble_eq_true rfl, Nat.le_of_ble_eq_true rfl⟩ hS (fun E S2 q ce H locs hw hP hS hq hqv hcl => ?_) (fun r3 S1 H locs hw hP hS => ?_)
  · rcases hw with ⟨rfl, hw⟩ | ⟨rfl, hw⟩ | ⟨rfl, hw⟩
    · refine gx_catch (E := "java/lang/IllegalArgumentException") (name := "java/lang/IllegalArgumentException") hown [] ⟨0, 10, 13, 13⟩ [⟨0, 10, 17, 15⟩, ⟨0, 10, 21, 21⟩] (by rw [hout]; rfl) (fun z hz => by cases hz) (by decide) (by decide) (hts _ (List.mem_cons_of_mem _ gw_428)) (gx_castY hSt args (ic := 93) (by decide +kernel)) hq hqv hcl ?_
      refine lv_astore (lv' := [(4, .ref q), (0, .ref (gad Y x0)), (1, .int x1), (2, .int x2), (3, .ref (gad Y x3))]) hx hb d_Law_append_13 hl (by decide) rfl (fun ls hl => ?_)
      refine lv_iconst (v := 1) hx hb d_Law_append_15 (by decide) ?_
      exact W.iret (v := 1) hx hb hr (fun t ht hW => ⟨⟨1, S2, rfl, hw, by rw [ht]; exact hP, va_K.moved hW.alike hK⟩, hS.F ht⟩) hS.2.2 d_Law_append_16
    · refine gx_catch (E := "java/lang/IllegalStateException") (name := "java/lang/IllegalStateException") hown [⟨0, 10, 13, 13⟩] ⟨0, 10, 17, 15⟩ [⟨0, 10, 21, 21⟩] (by rw [hout]; rfl) (fun z hz => by cases List.mem_singleton.mp hz; exact ⟨by decide, _, (hts _ (List.mem_cons_of_mem _ gw_428)), gx_castN hSt args (by decide +kernel)⟩) (by decide) (by decide) (hts _ (List.mem_cons_of_mem _ gw_429)) (gx_castY hSt args (ic := 103) (by decide +kernel)) hq hqv hcl ?_
      refine lv_astore (lv' := [(4, .ref q), (0, .ref (gad Y x0)), (1, .int x1), (2, .int x2), (3, .ref (gad Y x3))]) hx hb d_Law_append_17 hl (by decide) rfl (fun ls hl => ?_)
      refine lv_iconst (v := 2) hx hb d_Law_append_19 (by decide) ?_
      exact W.iret (v := 2) hx hb hr (fun t ht hW => ⟨⟨2, S2, rfl, hw, by rw [ht]; exact hP, va_K.moved hW.alike hK⟩, hS.F ht⟩) hS.2.2 d_Law_append_20
    · refine gx_catch (E := "java/lang/UnsupportedOperationException") (name := "java/lang/UnsupportedOperationException") hown [⟨0, 10, 13, 13⟩, ⟨0, 10, 17, 15⟩] ⟨0, 10, 21, 21⟩ [] (by rw [hout]; rfl) (fun z hz => by
        rcases List.mem_cons.mp hz with h9 | h9
        · cases h9; exact ⟨by decide, _, (hts _ (List.mem_cons_of_mem _ gw_428)), gx_castN hSt args (by decide +kernel)⟩
        · cases List.mem_singleton.mp h9; exact ⟨by decide, _, (hts _ (List.mem_cons_of_mem _ gw_429)), gx_castN hSt args (by decide +kernel)⟩) (by decide) (by decide) (hts _ (List.mem_cons_of_mem _ gw_522)) (gx_castY hSt args (ic := 128) (by decide +kernel)) hq hqv hcl ?_
      refine lv_astore (lv' := [(4, .ref q), (0, .ref (gad Y x0)), (1, .int x1), (2, .int x2), (3, .ref (gad Y x3))]) hx hb d_Law_append_21 hl (by decide) rfl (fun ls hl => ?_)
      refine lv_iconst (v := 3) hx hb d_Law_append_23 (by decide) ?_
      exact W.iret (v := 3) hx hb hr (fun t ht hW => ⟨⟨3, S2, rfl, hw, by rw [ht]; exact hP, va_K.moved hW.alike hK⟩, hS.F ht⟩) hS.2.2 d_Law_append_24
  refine lv_i2l hx hb d_Law_append_8 rfl ?_
  obtain ⟨hin, hw⟩ := hw
  refine g_lastore hx hb hK hY.1 hP hS hx3 hin d_Law_append_9 (fun S4 eS4 H locs hP hS => ?_)
  replace hw := hw S4 eS4
  refine lv_goto (tgt := 25) hx hb d_Law_append_10 (by decide) ?_
  refine lv_iconst (v := 0) hx hb d_Law_append_25 (by decide) ?_
  exact W.iret (v := 0) hx hb hr (fun t ht hW => ⟨⟨0, S4, rfl, hw, by rw [ht]; exact hP, va_K.moved hW.alike hK⟩, hS.F ht⟩) hS.2.2 d_Law_append_26
set_option maxHeartbeats 4000000 in
set_option maxRecDepth 100000 in
theorem k_Law_append (l : Launch) (hlt : l.stackTraces = false) (Y : gY) (hY : gOK Y) (sz : Nat) (x0 : gI) (x1 : Int32) (x2 : Int32) (x3 : gI)  (hx0 : gis Y 9 x0) (hx3 : gis Y 23 x3) (S : gS) (Q : Int32 → gS → Prop) : Met l y_Law_append w_Law_append (gRmX 7 160) (gPre Y [.ref (gad Y x0), .int x1, .int x2, .ref (gad Y x3)] S sz (wp_Law_append (gLn Y) Q x0 x1 x2 x3 S)) (va_Qi Q (gB Y) (gA Y sz)) 1 6 (gA Y sz) := by
  refine va_MetW (cc := c_Law_append) (maxL := 5) (ret := (Option.some Jvm.ClassFile.FieldType.int)) (hh := hh_Law_append) (by decide) rfl ?_
  intro p e s m args below meth c s₁ B hml hv
  obtain ⟨rfl, hsz, hP, hK, hSt, hw⟩ := hv
  subst hsz
  have hts := atoms_spec (ws := w_Law_append) B.pre
  have hl := lv_entry ([.ref (gad Y x0), .int x1, .int x2, .ref (gad Y x3)]) (n := 5) (Nat.le_of_ble_eq_true rfl)
  rw [lg_entry_eq]
  generalize (lg_sl ([.ref (gad Y x0), .int x1, .int x2, .ref (gad Y x3)]) ++ List.replicate (5 - (lg_sl ([.ref (gad Y x0), .int x1, .int x2, .ref (gad Y x3)])).length) Slot.unset).toArray = ls at hl ⊢
  exact mw_Law_append ⟨B.exec, B.bytes, hml, findClass_of_methodNamed B.named, hts, B.returns, B.notSynchronized, hK, hY, hSt⟩ hlt (gx_table B (hts _ List.mem_cons_self)) x0 x1 x2 x3 S s.heap [] ls hx0 hx3 hw hP va_S.rf hl

def wp_Law_cutFrom (Ln : gI → Nat) (Q : Int32 → gS → Prop) (x0 : gI) (x1 : Int32) (x2 : gI)  (S : gS) : Prop :=
  wp_LogDisk_cutFrom Ln (fun r3 S1 => vp_in 0 (Ln x2) ∧ (∀ S4 : gS, S4 = gsetL S1 x2 (0 : Int32).toNatClampNeg (r3.toInt64) → (Q 0 S4))) (fun E S2 => (E = "java/lang/IndexOutOfBoundsException" ∧ (Q 1 S2))) x0 x1 S
set_option maxHeartbeats 4000000 in
set_option maxRecDepth 100000 in
theorem mw_Law_cutFrom {p : Program} {l : Launch} {e : Env} {s : State} {m : MethodId} {args : Array Value} {below : List Frame} {meth : Method} {c : Code} {Y : gY} {Q : Int32 → gS → Prop} (C : gCx p s m args meth c Y "LogDiskLaw" c_Law_cutFrom 4 (Option.some Jvm.ClassFile.FieldType.int) w_Law_cutFrom) (hlt : l.stackTraces = false) (hout : c.exceptionTable.toList = tableOf hh_Law_cutFrom) : ∀ (x0 : gI) (x1 : Int32) (x2 : gI)  (S : gS) (H : Heap) (locs : List Loc) (ls : Array Slot), gis Y 9 x0 → gis Y 23 x2 → wp_Law_cutFrom (gLn Y) Q x0 x1 x2 S → gWd Y S H → va_S (gA Y s.heap.size) s.heap H locs → lv_has ls 4 [(0, .ref (gad Y x0)), (1, .int x1), (2, .ref (gad Y x2))] → W p l e (gRmX 7 123) s m args below meth c H locs 0 0 (MQ below (va_Qi Q (gB Y) (gA Y s.heap.size)) args s 1 6 (gA Y s.heap.size)) (F0 m 0 ls []) := by
  have C0 := C
  obtain ⟨hx, hb, hml, hown, hts, hr, hlocks, hK, hY, hSt⟩ := C
  intro x0 x1 x2 S H locs ls hx0 hx2 hw hP hS hl
  unfold wp_Law_cutFrom at hw
  refine lv_aload_n hx hb d_Law_cutFrom_0 rfl (lv_at hl 2 rfl) ?_
  refine lv_iconst (v := 0) hx hb d_Law_cutFrom_1 (by decide) ?_
  refine lv_aload_n hx hb d_Law_cutFrom_2 rfl (lv_at hl 0 rfl) ?_
  refine lv_iload_n hx hb d_Law_cutFrom_3 rfl (lv_at hl 1 rfl) ?_
  refine gx_calli (As := [.int x1]) (rest := [.int 0, .ref (gad Y x2)]) ⟨hx, hb, hml, hown, hts⟩ (k_LogDisk_cutFrom l hlt Y hY H.size x0 x1 hx0 S _ _) (cwV 1 hts (gG_V gw_655 gw_656 gw_657 gw_1 gw_658) rfl rfl rfl (by decide +kernel) ⟨Nat.le_of_ble_eq_true rfl, Nat.le_of_ble_eq_true rfl⟩) ⟨gPre_blind, g_recv hK hP hx0 (gce_LogDisk hx0.1) rfl, g_pre hK hSt hS hP hw⟩ rfl hl.1 rfl (lv_room (Nat.le_of_ble_eq_true rfl)) d_Law_cutFrom_4 ⟨Nat.le_of_ble_eq_true rfl, Nat.le_of_ble_eq_true rfl⟩ hS (fun E S2 q ce H locs hw hP hS hq hqv hcl => ?_) (fun r3 S1 H locs hw hP hS => ?_)
  · obtain ⟨rfl, hw⟩ := hw
    refine gx_catch (E := "java/lang/IndexOutOfBoundsException") (name := "java/lang/IndexOutOfBoundsException") hown [] ⟨0, 9, 12, 30⟩ [] (by rw [hout]; rfl) (fun z hz => by cases hz) (by decide) (by decide) (hts _ (List.mem_cons_of_mem _ gw_654)) (gx_castY hSt args (ic := 193) (by decide +kernel)) hq hqv hcl ?_
    refine lv_astore_n (lv' := [(3, .ref q), (0, .ref (gad Y x0)), (1, .int x1), (2, .ref (gad Y x2))]) hx hb d_Law_cutFrom_12 rfl hl (by decide) rfl (fun ls hl => ?_)
    refine lv_iconst (v := 1) hx hb d_Law_cutFrom_13 (by decide) ?_
    exact W.iret (v := 1) hx hb hr (fun t ht hW => ⟨⟨1, S2, rfl, hw, by rw [ht]; exact hP, va_K.moved hW.alike hK⟩, hS.F ht⟩) hS.2.2 d_Law_cutFrom_14
  refine lv_i2l hx hb d_Law_cutFrom_7 rfl ?_
  obtain ⟨hin, hw⟩ := hw
  refine g_lastore hx hb hK hY.1 hP hS hx2 hin d_Law_cutFrom_8 (fun S4 eS4 H locs hP hS => ?_)
  replace hw := hw S4 eS4
  refine lv_goto (tgt := 15) hx hb d_Law_cutFrom_9 (by decide) ?_
  refine lv_iconst (v := 0) hx hb d_Law_cutFrom_15 (by decide) ?_
  exact W.iret (v := 0) hx hb hr (fun t ht hW => ⟨⟨0, S4, rfl, hw, by rw [ht]; exact hP, va_K.moved hW.alike hK⟩, hS.F ht⟩) hS.2.2 d_Law_cutFrom_16
set_option maxHeartbeats 4000000 in
set_option maxRecDepth 100000 in
theorem k_Law_cutFrom (l : Launch) (hlt : l.stackTraces = false) (Y : gY) (hY : gOK Y) (sz : Nat) (x0 : gI) (x1 : Int32) (x2 : gI)  (hx0 : gis Y 9 x0) (hx2 : gis Y 23 x2) (S : gS) (Q : Int32 → gS → Prop) : Met l y_Law_cutFrom w_Law_cutFrom (gRmX 7 123) (gPre Y [.ref (gad Y x0), .int x1, .ref (gad Y x2)] S sz (wp_Law_cutFrom (gLn Y) Q x0 x1 x2 S)) (va_Qi Q (gB Y) (gA Y sz)) 1 6 (gA Y sz) := by
  refine va_MetW (cc := c_Law_cutFrom) (maxL := 4) (ret := (Option.some Jvm.ClassFile.FieldType.int)) (hh := hh_Law_cutFrom) (by decide) rfl ?_
  intro p e s m args below meth c s₁ B hml hv
  obtain ⟨rfl, hsz, hP, hK, hSt, hw⟩ := hv
  subst hsz
  have hts := atoms_spec (ws := w_Law_cutFrom) B.pre
  have hl := lv_entry ([.ref (gad Y x0), .int x1, .ref (gad Y x2)]) (n := 4) (Nat.le_of_ble_eq_true rfl)
  rw [lg_entry_eq]
  generalize (lg_sl ([.ref (gad Y x0), .int x1, .ref (gad Y x2)]) ++ List.replicate (4 - (lg_sl ([.ref (gad Y x0), .int x1, .ref (gad Y x2)])).length) Slot.unset).toArray = ls at hl ⊢
  exact mw_Law_cutFrom ⟨B.exec, B.bytes, hml, findClass_of_methodNamed B.named, hts, B.returns, B.notSynchronized, hK, hY, hSt⟩ hlt (gx_table B (hts _ List.mem_cons_self)) x0 x1 x2 S s.heap [] ls hx0 hx2 hw hP va_S.rf hl

def wp_Law_compact (Ln : gI → Nat) (Q : Int32 → gS → Prop) (x0 : gI) (x1 : Int32) (x2 : Int32) (x3 : gI)  (S : gS) : Prop :=
  wp_LogDisk_compact Ln (fun r3 S1 => vp_in 0 (Ln x3) ∧ (∀ S4 : gS, S4 = gsetL S1 x3 (0 : Int32).toNatClampNeg (r3.toInt64) → (Q 0 S4))) (fun E S2 => (E = "java/lang/IndexOutOfBoundsException" ∧ (Q 1 S2)) ∨ (E = "java/lang/UnsupportedOperationException" ∧ (Q 2 S2))) x0 x1 x2 S
set_option maxHeartbeats 4000000 in
set_option maxRecDepth 100000 in
theorem mw_Law_compact {p : Program} {l : Launch} {e : Env} {s : State} {m : MethodId} {args : Array Value} {below : List Frame} {meth : Method} {c : Code} {Y : gY} {Q : Int32 → gS → Prop} (C : gCx p s m args meth c Y "LogDiskLaw" c_Law_compact 5 (Option.some Jvm.ClassFile.FieldType.int) w_Law_compact) (hlt : l.stackTraces = false) (hout : c.exceptionTable.toList = tableOf hh_Law_compact) : ∀ (x0 : gI) (x1 : Int32) (x2 : Int32) (x3 : gI)  (S : gS) (H : Heap) (locs : List Loc) (ls : Array Slot), gis Y 9 x0 → gis Y 23 x3 → wp_Law_compact (gLn Y) Q x0 x1 x2 x3 S → gWd Y S H → va_S (gA Y s.heap.size) s.heap H locs → lv_has ls 5 [(0, .ref (gad Y x0)), (1, .int x1), (2, .int x2), (3, .ref (gad Y x3))] → W p l e (gRmX 7 159) s m args below meth c H locs 0 0 (MQ below (va_Qi Q (gB Y) (gA Y s.heap.size)) args s 1 6 (gA Y s.heap.size)) (F0 m 0 ls []) := by
  have C0 := C
  obtain ⟨hx, hb, hml, hown, hts, hr, hlocks, hK, hY, hSt⟩ := C
  intro x0 x1 x2 x3 S H locs ls hx0 hx3 hw hP hS hl
  unfold wp_Law_compact at hw
  refine lv_aload_n hx hb d_Law_compact_0 rfl (lv_at hl 3 rfl) ?_
  refine lv_iconst (v := 0) hx hb d_Law_compact_1 (by decide) ?_
  refine lv_aload_n hx hb d_Law_compact_2 rfl (lv_at hl 0 rfl) ?_
  refine lv_iload_n hx hb d_Law_compact_3 rfl (lv_at hl 1 rfl) ?_
  refine lv_iload_n hx hb d_Law_compact_4 rfl (lv_at hl 2 rfl) ?_
  refine gx_calli (As := [.int x1, .int x2]) (rest := [.int 0, .ref (gad Y x3)]) ⟨hx, hb, hml, hown, hts⟩ (k_LogDisk_compact l hlt Y hY H.size x0 x1 x2 hx0 S _ _) (cwV 2 hts (gG_V gw_678 gw_679 gw_680 gw_1 gw_681) rfl rfl rfl (by decide +kernel) ⟨Nat.le_of_ble_eq_true rfl, Nat.le_of_ble_eq_true rfl⟩) ⟨gPre_blind, g_recv hK hP hx0 (gce_LogDisk hx0.1) rfl, g_pre hK hSt hS hP hw⟩ rfl hl.1 rfl (lv_room (Nat.le_of_ble_eq_true rfl)) d_Law_compact_5 ⟨Nat.le_of_ble_eq_true rfl, Nat.le_of_ble_eq_true rfl⟩ hS (fun E S2 q ce H locs hw hP hS hq hqv hcl => ?_) (fun r3 S1 H locs hw hP hS => ?_)
  · rcases hw with ⟨rfl, hw⟩ | ⟨rfl, hw⟩
    · refine gx_catch (E := "java/lang/IndexOutOfBoundsException") (name := "java/lang/IndexOutOfBoundsException") hown [] ⟨0, 10, 13, 30⟩ [⟨0, 10, 17, 21⟩] (by rw [hout]; rfl) (fun z hz => by cases hz) (by decide) (by decide) (hts _ (List.mem_cons_of_mem _ gw_654)) (gx_castY hSt args (ic := 193) (by decide +kernel)) hq hqv hcl ?_
      refine lv_astore (lv' := [(4, .ref q), (0, .ref (gad Y x0)), (1, .int x1), (2, .int x2), (3, .ref (gad Y x3))]) hx hb d_Law_compact_13 hl (by decide) rfl (fun ls hl => ?_)
      refine lv_iconst (v := 1) hx hb d_Law_compact_15 (by decide) ?_
      exact W.iret (v := 1) hx hb hr (fun t ht hW => ⟨⟨1, S2, rfl, hw, by rw [ht]; exact hP, va_K.moved hW.alike hK⟩, hS.F ht⟩) hS.2.2 d_Law_compact_16
    · refine gx_catch (E := "java/lang/UnsupportedOperationException") (name := "java/lang/UnsupportedOperationException") hown [⟨0, 10, 13, 30⟩] ⟨0, 10, 17, 21⟩ [] (by rw [hout]; rfl) (fun z hz => by cases List.mem_singleton.mp hz; exact ⟨by decide, _, (hts _ (List.mem_cons_of_mem _ gw_654)), gx_castN hSt args (by decide +kernel)⟩) (by decide) (by decide) (hts _ (List.mem_cons_of_mem _ gw_522)) (gx_castY hSt args (ic := 128) (by decide +kernel)) hq hqv hcl ?_
      refine lv_astore (lv' := [(4, .ref q), (0, .ref (gad Y x0)), (1, .int x1), (2, .int x2), (3, .ref (gad Y x3))]) hx hb d_Law_compact_17 hl (by decide) rfl (fun ls hl => ?_)
      refine lv_iconst (v := 2) hx hb d_Law_compact_19 (by decide) ?_
      exact W.iret (v := 2) hx hb hr (fun t ht hW => ⟨⟨2, S2, rfl, hw, by rw [ht]; exact hP, va_K.moved hW.alike hK⟩, hS.F ht⟩) hS.2.2 d_Law_compact_20
  refine lv_i2l hx hb d_Law_compact_8 rfl ?_
  obtain ⟨hin, hw⟩ := hw
  refine g_lastore hx hb hK hY.1 hP hS hx3 hin d_Law_compact_9 (fun S4 eS4 H locs hP hS => ?_)
  replace hw := hw S4 eS4
  refine lv_goto (tgt := 21) hx hb d_Law_compact_10 (by decide) ?_
  refine lv_iconst (v := 0) hx hb d_Law_compact_21 (by decide) ?_
  exact W.iret (v := 0) hx hb hr (fun t ht hW => ⟨⟨0, S4, rfl, hw, by rw [ht]; exact hP, va_K.moved hW.alike hK⟩, hS.F ht⟩) hS.2.2 d_Law_compact_22
set_option maxHeartbeats 4000000 in
set_option maxRecDepth 100000 in
theorem k_Law_compact (l : Launch) (hlt : l.stackTraces = false) (Y : gY) (hY : gOK Y) (sz : Nat) (x0 : gI) (x1 : Int32) (x2 : Int32) (x3 : gI)  (hx0 : gis Y 9 x0) (hx3 : gis Y 23 x3) (S : gS) (Q : Int32 → gS → Prop) : Met l y_Law_compact w_Law_compact (gRmX 7 159) (gPre Y [.ref (gad Y x0), .int x1, .int x2, .ref (gad Y x3)] S sz (wp_Law_compact (gLn Y) Q x0 x1 x2 x3 S)) (va_Qi Q (gB Y) (gA Y sz)) 1 6 (gA Y sz) := by
  refine va_MetW (cc := c_Law_compact) (maxL := 5) (ret := (Option.some Jvm.ClassFile.FieldType.int)) (hh := hh_Law_compact) (by decide) rfl ?_
  intro p e s m args below meth c s₁ B hml hv
  obtain ⟨rfl, hsz, hP, hK, hSt, hw⟩ := hv
  subst hsz
  have hts := atoms_spec (ws := w_Law_compact) B.pre
  have hl := lv_entry ([.ref (gad Y x0), .int x1, .int x2, .ref (gad Y x3)]) (n := 5) (Nat.le_of_ble_eq_true rfl)
  rw [lg_entry_eq]
  generalize (lg_sl ([.ref (gad Y x0), .int x1, .int x2, .ref (gad Y x3)]) ++ List.replicate (5 - (lg_sl ([.ref (gad Y x0), .int x1, .int x2, .ref (gad Y x3)])).length) Slot.unset).toArray = ls at hl ⊢
  exact mw_Law_compact ⟨B.exec, B.bytes, hml, findClass_of_methodNamed B.named, hts, B.returns, B.notSynchronized, hK, hY, hSt⟩ hlt (gx_table B (hts _ List.mem_cons_self)) x0 x1 x2 x3 S s.heap [] ls hx0 hx3 hw hP va_S.rf hl

def wp_Law_take (Ln : gI → Nat) (Q : Int32 → gS → Prop) (x0 : gI) (x1 : Int32) (x2 : Int32) (x3 : Int32) (x4 : gI)  (S : gS) : Prop :=
  wp_LogDisk_take Ln (fun r3 S1 => vp_in 0 (Ln x4) ∧ (∀ S4 : gS, S4 = gsetL S1 x4 (0 : Int32).toNatClampNeg (r3.toInt64) → (Q 0 S4))) (fun E S2 => (E = "java/lang/IllegalArgumentException" ∧ (Q 1 S2)) ∨ (E = "java/lang/UnsupportedOperationException" ∧ (Q 2 S2))) x0 x1 x2 x3 S
set_option maxHeartbeats 4000000 in
set_option maxRecDepth 100000 in
theorem mw_Law_take {p : Program} {l : Launch} {e : Env} {s : State} {m : MethodId} {args : Array Value} {below : List Frame} {meth : Method} {c : Code} {Y : gY} {Q : Int32 → gS → Prop} (C : gCx p s m args meth c Y "LogDiskLaw" c_Law_take 6 (Option.some Jvm.ClassFile.FieldType.int) w_Law_take) (hlt : l.stackTraces = false) (hout : c.exceptionTable.toList = tableOf hh_Law_take) : ∀ (x0 : gI) (x1 : Int32) (x2 : Int32) (x3 : Int32) (x4 : gI)  (S : gS) (H : Heap) (locs : List Loc) (ls : Array Slot), gis Y 9 x0 → gis Y 23 x4 → wp_Law_take (gLn Y) Q x0 x1 x2 x3 x4 S → gWd Y S H → va_S (gA Y s.heap.size) s.heap H locs → lv_has ls 6 [(0, .ref (gad Y x0)), (1, .int x1), (2, .int x2), (3, .int x3), (4, .ref (gad Y x4))] → W p l e (gRmX 7 159) s m args below meth c H locs 0 0 (MQ below (va_Qi Q (gB Y) (gA Y s.heap.size)) args s 1 6 (gA Y s.heap.size)) (F0 m 0 ls []) := by
  have C0 := C
  obtain ⟨hx, hb, hml, hown, hts, hr, hlocks, hK, hY, hSt⟩ := C
  intro x0 x1 x2 x3 x4 S H locs ls hx0 hx4 hw hP hS hl
  unfold wp_Law_take at hw
  refine lv_aload hx hb d_Law_take_0 (lv_at hl 4 rfl) ?_
  refine lv_iconst (v := 0) hx hb d_Law_take_2 (by decide) ?_
  refine lv_aload_n hx hb d_Law_take_3 rfl (lv_at hl 0 rfl) ?_
  refine lv_iload_n hx hb d_Law_take_4 rfl (lv_at hl 1 rfl) ?_
  refine lv_iload_n hx hb d_Law_take_5 rfl (lv_at hl 2 rfl) ?_
  refine lv_iload_n hx hb d_Law_take_6 rfl (lv_at hl 3 rfl) ?_
  refine gx_calli (As := [.int x1, .int x2, .int x3]) (rest := [.int 0, .ref (gad Y x4)]) ⟨hx, hb, hml, hown, hts⟩ (k_LogDisk_take l hlt Y hY H.size x0 x1 x2 x3 hx0 S _ _) (cwV 3 hts (gG_V gw_705 gw_706 gw_707 gw_1 gw_708) rfl rfl rfl (by decide +kernel) ⟨Nat.le_of_ble_eq_true rfl, Nat.le_of_ble_eq_true rfl⟩) ⟨gPre_blind, g_recv hK hP hx0 (gce_LogDisk hx0.1) rfl, g_pre hK hSt hS hP hw⟩ rfl hl.1 rfl (lv_room (Nat.le_of_ble_eq_true rfl)) d_Law_take_7 ⟨Nat.le_of_ble_eq_true rfl, Nat.le_of_ble_eq_true rfl⟩ hS (fun E S2 q ce H locs hw hP hS hq hqv hcl => ?_) (fun r3 S1 H locs hw hP hS => ?_)
  · rcases hw with ⟨rfl, hw⟩ | ⟨rfl, hw⟩
    · refine gx_catch (E := "java/lang/IllegalArgumentException") (name := "java/lang/IllegalArgumentException") hown [] ⟨0, 12, 15, 13⟩ [⟨0, 12, 19, 21⟩] (by rw [hout]; rfl) (fun z hz => by cases hz) (by decide) (by decide) (hts _ (List.mem_cons_of_mem _ gw_428)) (gx_castY hSt args (ic := 93) (by decide +kernel)) hq hqv hcl ?_
      refine lv_astore (lv' := [(5, .ref q), (0, .ref (gad Y x0)), (1, .int x1), (2, .int x2), (3, .int x3), (4, .ref (gad Y x4))]) hx hb d_Law_take_15 hl (by decide) rfl (fun ls hl => ?_)
      refine lv_iconst (v := 1) hx hb d_Law_take_17 (by decide) ?_
      exact W.iret (v := 1) hx hb hr (fun t ht hW => ⟨⟨1, S2, rfl, hw, by rw [ht]; exact hP, va_K.moved hW.alike hK⟩, hS.F ht⟩) hS.2.2 d_Law_take_18
    · refine gx_catch (E := "java/lang/UnsupportedOperationException") (name := "java/lang/UnsupportedOperationException") hown [⟨0, 12, 15, 13⟩] ⟨0, 12, 19, 21⟩ [] (by rw [hout]; rfl) (fun z hz => by cases List.mem_singleton.mp hz; exact ⟨by decide, _, (hts _ (List.mem_cons_of_mem _ gw_428)), gx_castN hSt args (by decide +kernel)⟩) (by decide) (by decide) (hts _ (List.mem_cons_of_mem _ gw_522)) (gx_castY hSt args (ic := 128) (by decide +kernel)) hq hqv hcl ?_
      refine lv_astore (lv' := [(5, .ref q), (0, .ref (gad Y x0)), (1, .int x1), (2, .int x2), (3, .int x3), (4, .ref (gad Y x4))]) hx hb d_Law_take_19 hl (by decide) rfl (fun ls hl => ?_)
      refine lv_iconst (v := 2) hx hb d_Law_take_21 (by decide) ?_
      exact W.iret (v := 2) hx hb hr (fun t ht hW => ⟨⟨2, S2, rfl, hw, by rw [ht]; exact hP, va_K.moved hW.alike hK⟩, hS.F ht⟩) hS.2.2 d_Law_take_22
  refine lv_i2l hx hb d_Law_take_10 rfl ?_
  obtain ⟨hin, hw⟩ := hw
  refine g_lastore hx hb hK hY.1 hP hS hx4 hin d_Law_take_11 (fun S4 eS4 H locs hP hS => ?_)
  replace hw := hw S4 eS4
  refine lv_goto (tgt := 23) hx hb d_Law_take_12 (by decide) ?_
  refine lv_iconst (v := 0) hx hb d_Law_take_23 (by decide) ?_
  exact W.iret (v := 0) hx hb hr (fun t ht hW => ⟨⟨0, S4, rfl, hw, by rw [ht]; exact hP, va_K.moved hW.alike hK⟩, hS.F ht⟩) hS.2.2 d_Law_take_24
set_option maxHeartbeats 4000000 in
set_option maxRecDepth 100000 in
theorem k_Law_take (l : Launch) (hlt : l.stackTraces = false) (Y : gY) (hY : gOK Y) (sz : Nat) (x0 : gI) (x1 : Int32) (x2 : Int32) (x3 : Int32) (x4 : gI)  (hx0 : gis Y 9 x0) (hx4 : gis Y 23 x4) (S : gS) (Q : Int32 → gS → Prop) : Met l y_Law_take w_Law_take (gRmX 7 159) (gPre Y [.ref (gad Y x0), .int x1, .int x2, .int x3, .ref (gad Y x4)] S sz (wp_Law_take (gLn Y) Q x0 x1 x2 x3 x4 S)) (va_Qi Q (gB Y) (gA Y sz)) 1 6 (gA Y sz) := by
  refine va_MetW (cc := c_Law_take) (maxL := 6) (ret := (Option.some Jvm.ClassFile.FieldType.int)) (hh := hh_Law_take) (by decide) rfl ?_
  intro p e s m args below meth c s₁ B hml hv
  obtain ⟨rfl, hsz, hP, hK, hSt, hw⟩ := hv
  subst hsz
  have hts := atoms_spec (ws := w_Law_take) B.pre
  have hl := lv_entry ([.ref (gad Y x0), .int x1, .int x2, .int x3, .ref (gad Y x4)]) (n := 6) (Nat.le_of_ble_eq_true rfl)
  rw [lg_entry_eq]
  generalize (lg_sl ([.ref (gad Y x0), .int x1, .int x2, .int x3, .ref (gad Y x4)]) ++ List.replicate (6 - (lg_sl ([.ref (gad Y x0), .int x1, .int x2, .int x3, .ref (gad Y x4)])).length) Slot.unset).toArray = ls at hl ⊢
  exact mw_Law_take ⟨B.exec, B.bytes, hml, findClass_of_methodNamed B.named, hts, B.returns, B.notSynchronized, hK, hY, hSt⟩ hlt (gx_table B (hts _ List.mem_cons_self)) x0 x1 x2 x3 x4 S s.heap [] ls hx0 hx4 hw hP va_S.rf hl

def wp_Law_keep (Ln : gI → Nat) (Q : Int32 → gS → Prop) (x0 : gI) (x1 : Int32) (x2 : Int32)  (S : gS) : Prop :=
  wp_LogDisk_keep Ln (fun S1 => Q 0 S1) (fun E S2 => (E = "java/lang/IndexOutOfBoundsException" ∧ (Q 1 S2)) ∨ (E = "java/lang/IllegalArgumentException" ∧ (Q 2 S2))) x0 x1 x2 S
set_option maxHeartbeats 4000000 in
set_option maxRecDepth 100000 in
theorem mw_Law_keep {p : Program} {l : Launch} {e : Env} {s : State} {m : MethodId} {args : Array Value} {below : List Frame} {meth : Method} {c : Code} {Y : gY} {Q : Int32 → gS → Prop} (C : gCx p s m args meth c Y "LogDiskLaw" c_Law_keep 4 (Option.some Jvm.ClassFile.FieldType.int) w_Law_keep) (hlt : l.stackTraces = false) (hout : c.exceptionTable.toList = tableOf hh_Law_keep) : ∀ (x0 : gI) (x1 : Int32) (x2 : Int32)  (S : gS) (H : Heap) (locs : List Loc) (ls : Array Slot), gis Y 9 x0 → wp_Law_keep (gLn Y) Q x0 x1 x2 S → gWd Y S H → va_S (gA Y s.heap.size) s.heap H locs → lv_has ls 4 [(0, .ref (gad Y x0)), (1, .int x1), (2, .int x2)] → W p l e (gRmX 7 122) s m args below meth c H locs 0 0 (MQ below (va_Qi Q (gB Y) (gA Y s.heap.size)) args s 1 6 (gA Y s.heap.size)) (F0 m 0 ls []) := by
  have C0 := C
  obtain ⟨hx, hb, hml, hown, hts, hr, hlocks, hK, hY, hSt⟩ := C
  intro x0 x1 x2 S H locs ls hx0 hw hP hS hl
  unfold wp_Law_keep at hw
  refine lv_aload_n hx hb d_Law_keep_0 rfl (lv_at hl 0 rfl) ?_
  refine lv_iload_n hx hb d_Law_keep_1 rfl (lv_at hl 1 rfl) ?_
  refine lv_iload_n hx hb d_Law_keep_2 rfl (lv_at hl 2 rfl) ?_
  refine gx_callv (As := [.int x1, .int x2]) (rest := []) ⟨hx, hb, hml, hown, hts⟩ (k_LogDisk_keep l hlt Y hY H.size x0 x1 x2 hx0 S _ _) (cwV 2 hts (gG_V gw_714 gw_715 gw_716 gw_1 gw_717) rfl rfl rfl (by decide +kernel) ⟨Nat.le_of_ble_eq_true rfl, Nat.le_of_ble_eq_true rfl⟩) ⟨gPre_blind, g_recv hK hP hx0 (gce_LogDisk hx0.1) rfl, g_pre hK hSt hS hP hw⟩ rfl hl.1 rfl (lv_room (Nat.le_of_ble_eq_true rfl)) d_Law_keep_3 ⟨Nat.le_of_ble_eq_true rfl, Nat.le_of_ble_eq_true rfl⟩ hS (fun E S2 q ce H locs hw hP hS hq hqv hcl => ?_) (fun S1 H locs hw hP hS => ?_)
  · rcases hw with ⟨rfl, hw⟩ | ⟨rfl, hw⟩
    · refine gx_catch (E := "java/lang/IndexOutOfBoundsException") (name := "java/lang/IndexOutOfBoundsException") hown [] ⟨0, 6, 9, 30⟩ [⟨0, 6, 12, 13⟩] (by rw [hout]; rfl) (fun z hz => by cases hz) (by decide) (by decide) (hts _ (List.mem_cons_of_mem _ gw_654)) (gx_castY hSt args (ic := 193) (by decide +kernel)) hq hqv hcl ?_
      refine lv_astore_n (lv' := [(3, .ref q), (0, .ref (gad Y x0)), (1, .int x1), (2, .int x2)]) hx hb d_Law_keep_9 rfl hl (by decide) rfl (fun ls hl => ?_)
      refine lv_iconst (v := 1) hx hb d_Law_keep_10 (by decide) ?_
      exact W.iret (v := 1) hx hb hr (fun t ht hW => ⟨⟨1, S2, rfl, hw, by rw [ht]; exact hP, va_K.moved hW.alike hK⟩, hS.F ht⟩) hS.2.2 d_Law_keep_11
    · refine gx_catch (E := "java/lang/IllegalArgumentException") (name := "java/lang/IllegalArgumentException") hown [⟨0, 6, 9, 30⟩] ⟨0, 6, 12, 13⟩ [] (by rw [hout]; rfl) (fun z hz => by cases List.mem_singleton.mp hz; exact ⟨by decide, _, (hts _ (List.mem_cons_of_mem _ gw_654)), gx_castN hSt args (by decide +kernel)⟩) (by decide) (by decide) (hts _ (List.mem_cons_of_mem _ gw_428)) (gx_castY hSt args (ic := 93) (by decide +kernel)) hq hqv hcl ?_
      refine lv_astore_n (lv' := [(3, .ref q), (0, .ref (gad Y x0)), (1, .int x1), (2, .int x2)]) hx hb d_Law_keep_12 rfl hl (by decide) rfl (fun ls hl => ?_)
      refine lv_iconst (v := 2) hx hb d_Law_keep_13 (by decide) ?_
      exact W.iret (v := 2) hx hb hr (fun t ht hW => ⟨⟨2, S2, rfl, hw, by rw [ht]; exact hP, va_K.moved hW.alike hK⟩, hS.F ht⟩) hS.2.2 d_Law_keep_14
  refine lv_goto (tgt := 15) hx hb d_Law_keep_6 (by decide) ?_
  refine lv_iconst (v := 0) hx hb d_Law_keep_15 (by decide) ?_
  exact W.iret (v := 0) hx hb hr (fun t ht hW => ⟨⟨0, S1, rfl, hw, by rw [ht]; exact hP, va_K.moved hW.alike hK⟩, hS.F ht⟩) hS.2.2 d_Law_keep_16
set_option maxHeartbeats 4000000 in
set_option maxRecDepth 100000 in
theorem k_Law_keep (l : Launch) (hlt : l.stackTraces = false) (Y : gY) (hY : gOK Y) (sz : Nat) (x0 : gI) (x1 : Int32) (x2 : Int32)  (hx0 : gis Y 9 x0) (S : gS) (Q : Int32 → gS → Prop) : Met l y_Law_keep w_Law_keep (gRmX 7 122) (gPre Y [.ref (gad Y x0), .int x1, .int x2] S sz (wp_Law_keep (gLn Y) Q x0 x1 x2 S)) (va_Qi Q (gB Y) (gA Y sz)) 1 6 (gA Y sz) := by
  refine va_MetW (cc := c_Law_keep) (maxL := 4) (ret := (Option.some Jvm.ClassFile.FieldType.int)) (hh := hh_Law_keep) (by decide) rfl ?_
  intro p e s m args below meth c s₁ B hml hv
  obtain ⟨rfl, hsz, hP, hK, hSt, hw⟩ := hv
  subst hsz
  have hts := atoms_spec (ws := w_Law_keep) B.pre
  have hl := lv_entry ([.ref (gad Y x0), .int x1, .int x2]) (n := 4) (Nat.le_of_ble_eq_true rfl)
  rw [lg_entry_eq]
  generalize (lg_sl ([.ref (gad Y x0), .int x1, .int x2]) ++ List.replicate (4 - (lg_sl ([.ref (gad Y x0), .int x1, .int x2])).length) Slot.unset).toArray = ls at hl ⊢
  exact mw_Law_keep ⟨B.exec, B.bytes, hml, findClass_of_methodNamed B.named, hts, B.returns, B.notSynchronized, hK, hY, hSt⟩ hlt (gx_table B (hts _ List.mem_cons_self)) x0 x1 x2 S s.heap [] ls hx0 hw hP va_S.rf hl

def wp_Law_state (Ln : gI → Nat) (Q : Int32 → gS → Prop) (x0 : gI) (x1 : Int32) (x2 : gI)  (S : gS) : Prop :=
  wp_LogDisk_state Ln (fun r3 S1 => vp_in 0 (Ln x2) ∧ (∀ S4 : gS, S4 = gsetL S1 x2 (0 : Int32).toNatClampNeg (r3.toInt64) → (Q 0 S4))) (fun E S2 => (E = "java/lang/IndexOutOfBoundsException" ∧ (Q 1 S2))) x0 x1 S
set_option maxHeartbeats 4000000 in
set_option maxRecDepth 100000 in
theorem mw_Law_state {p : Program} {l : Launch} {e : Env} {s : State} {m : MethodId} {args : Array Value} {below : List Frame} {meth : Method} {c : Code} {Y : gY} {Q : Int32 → gS → Prop} (C : gCx p s m args meth c Y "LogDiskLaw" c_Law_state 4 (Option.some Jvm.ClassFile.FieldType.int) w_Law_state) (hlt : l.stackTraces = false) (hout : c.exceptionTable.toList = tableOf hh_Law_state) : ∀ (x0 : gI) (x1 : Int32) (x2 : gI)  (S : gS) (H : Heap) (locs : List Loc) (ls : Array Slot), gis Y 9 x0 → gis Y 23 x2 → wp_Law_state (gLn Y) Q x0 x1 x2 S → gWd Y S H → va_S (gA Y s.heap.size) s.heap H locs → lv_has ls 4 [(0, .ref (gad Y x0)), (1, .int x1), (2, .ref (gad Y x2))] → W p l e (gRmX 7 121) s m args below meth c H locs 0 0 (MQ below (va_Qi Q (gB Y) (gA Y s.heap.size)) args s 1 6 (gA Y s.heap.size)) (F0 m 0 ls []) := by
  have C0 := C
  obtain ⟨hx, hb, hml, hown, hts, hr, hlocks, hK, hY, hSt⟩ := C
  intro x0 x1 x2 S H locs ls hx0 hx2 hw hP hS hl
  unfold wp_Law_state at hw
  refine lv_aload_n hx hb d_Law_state_0 rfl (lv_at hl 2 rfl) ?_
  refine lv_iconst (v := 0) hx hb d_Law_state_1 (by decide) ?_
  refine lv_aload_n hx hb d_Law_state_2 rfl (lv_at hl 0 rfl) ?_
  refine lv_iload_n hx hb d_Law_state_3 rfl (lv_at hl 1 rfl) ?_
  refine gx_calli (As := [.int x1]) (rest := [.int 0, .ref (gad Y x2)]) ⟨hx, hb, hml, hown, hts⟩ (k_LogDisk_state l hlt Y hY H.size x0 x1 hx0 S _ _) (cwV 1 hts (gG_V gw_726 gw_727 gw_728 gw_1 gw_729) rfl rfl rfl (by decide +kernel) ⟨Nat.le_of_ble_eq_true rfl, Nat.le_of_ble_eq_true rfl⟩) ⟨gPre_blind, g_recv hK hP hx0 (gce_LogDisk hx0.1) rfl, g_pre hK hSt hS hP hw⟩ rfl hl.1 rfl (lv_room (Nat.le_of_ble_eq_true rfl)) d_Law_state_4 ⟨Nat.le_of_ble_eq_true rfl, Nat.le_of_ble_eq_true rfl⟩ hS (fun E S2 q ce H locs hw hP hS hq hqv hcl => ?_) (fun r3 S1 H locs hw hP hS => ?_)
  · obtain ⟨rfl, hw⟩ := hw
    refine gx_catch (E := "java/lang/IndexOutOfBoundsException") (name := "java/lang/IndexOutOfBoundsException") hown [] ⟨0, 9, 12, 30⟩ [] (by rw [hout]; rfl) (fun z hz => by cases hz) (by decide) (by decide) (hts _ (List.mem_cons_of_mem _ gw_654)) (gx_castY hSt args (ic := 193) (by decide +kernel)) hq hqv hcl ?_
    refine lv_astore_n (lv' := [(3, .ref q), (0, .ref (gad Y x0)), (1, .int x1), (2, .ref (gad Y x2))]) hx hb d_Law_state_12 rfl hl (by decide) rfl (fun ls hl => ?_)
    refine lv_iconst (v := 1) hx hb d_Law_state_13 (by decide) ?_
    exact W.iret (v := 1) hx hb hr (fun t ht hW => ⟨⟨1, S2, rfl, hw, by rw [ht]; exact hP, va_K.moved hW.alike hK⟩, hS.F ht⟩) hS.2.2 d_Law_state_14
  refine lv_i2l hx hb d_Law_state_7 rfl ?_
  obtain ⟨hin, hw⟩ := hw
  refine g_lastore hx hb hK hY.1 hP hS hx2 hin d_Law_state_8 (fun S4 eS4 H locs hP hS => ?_)
  replace hw := hw S4 eS4
  refine lv_goto (tgt := 15) hx hb d_Law_state_9 (by decide) ?_
  refine lv_iconst (v := 0) hx hb d_Law_state_15 (by decide) ?_
  exact W.iret (v := 0) hx hb hr (fun t ht hW => ⟨⟨0, S4, rfl, hw, by rw [ht]; exact hP, va_K.moved hW.alike hK⟩, hS.F ht⟩) hS.2.2 d_Law_state_16
set_option maxHeartbeats 4000000 in
set_option maxRecDepth 100000 in
theorem k_Law_state (l : Launch) (hlt : l.stackTraces = false) (Y : gY) (hY : gOK Y) (sz : Nat) (x0 : gI) (x1 : Int32) (x2 : gI)  (hx0 : gis Y 9 x0) (hx2 : gis Y 23 x2) (S : gS) (Q : Int32 → gS → Prop) : Met l y_Law_state w_Law_state (gRmX 7 121) (gPre Y [.ref (gad Y x0), .int x1, .ref (gad Y x2)] S sz (wp_Law_state (gLn Y) Q x0 x1 x2 S)) (va_Qi Q (gB Y) (gA Y sz)) 1 6 (gA Y sz) := by
  refine va_MetW (cc := c_Law_state) (maxL := 4) (ret := (Option.some Jvm.ClassFile.FieldType.int)) (hh := hh_Law_state) (by decide) rfl ?_
  intro p e s m args below meth c s₁ B hml hv
  obtain ⟨rfl, hsz, hP, hK, hSt, hw⟩ := hv
  subst hsz
  have hts := atoms_spec (ws := w_Law_state) B.pre
  have hl := lv_entry ([.ref (gad Y x0), .int x1, .ref (gad Y x2)]) (n := 4) (Nat.le_of_ble_eq_true rfl)
  rw [lg_entry_eq]
  generalize (lg_sl ([.ref (gad Y x0), .int x1, .ref (gad Y x2)]) ++ List.replicate (4 - (lg_sl ([.ref (gad Y x0), .int x1, .ref (gad Y x2)])).length) Slot.unset).toArray = ls at hl ⊢
  exact mw_Law_state ⟨B.exec, B.bytes, hml, findClass_of_methodNamed B.named, hts, B.returns, B.notSynchronized, hK, hY, hSt⟩ hlt (gx_table B (hts _ List.mem_cons_self)) x0 x1 x2 S s.heap [] ls hx0 hx2 hw hP va_S.rf hl

def wp_Law_entry (Ln : gI → Nat) (Q : Int32 → gS → Prop) (x0 : gI) (x1 : Int32) (x2 : Int32) (x3 : gI)  (S : gS) : Prop :=
  wp_LogDisk_entry Ln (fun r3 S1 => vp_in 0 (Ln x3) ∧ (∀ S4 : gS, S4 = gsetL S1 x3 (0 : Int32).toNatClampNeg (r3.toInt64) → (Q 0 S4))) (fun E S2 => (E = "java/lang/IndexOutOfBoundsException" ∧ (Q 1 S2))) x0 x1 x2 S
set_option maxHeartbeats 4000000 in
set_option maxRecDepth 100000 in
theorem mw_Law_entry {p : Program} {l : Launch} {e : Env} {s : State} {m : MethodId} {args : Array Value} {below : List Frame} {meth : Method} {c : Code} {Y : gY} {Q : Int32 → gS → Prop} (C : gCx p s m args meth c Y "LogDiskLaw" c_Law_entry 5 (Option.some Jvm.ClassFile.FieldType.int) w_Law_entry) (hlt : l.stackTraces = false) (hout : c.exceptionTable.toList = tableOf hh_Law_entry) : ∀ (x0 : gI) (x1 : Int32) (x2 : Int32) (x3 : gI)  (S : gS) (H : Heap) (locs : List Loc) (ls : Array Slot), gis Y 9 x0 → gis Y 23 x3 → wp_Law_entry (gLn Y) Q x0 x1 x2 x3 S → gWd Y S H → va_S (gA Y s.heap.size) s.heap H locs → lv_has ls 5 [(0, .ref (gad Y x0)), (1, .int x1), (2, .int x2), (3, .ref (gad Y x3))] → W p l e (gRmX 7 123) s m args below meth c H locs 0 0 (MQ below (va_Qi Q (gB Y) (gA Y s.heap.size)) args s 1 6 (gA Y s.heap.size)) (F0 m 0 ls []) := by
  have C0 := C
  obtain ⟨hx, hb, hml, hown, hts, hr, hlocks, hK, hY, hSt⟩ := C
  intro x0 x1 x2 x3 S H locs ls hx0 hx3 hw hP hS hl
  unfold wp_Law_entry at hw
  refine lv_aload_n hx hb d_Law_entry_0 rfl (lv_at hl 3 rfl) ?_
  refine lv_iconst (v := 0) hx hb d_Law_entry_1 (by decide) ?_
  refine lv_aload_n hx hb d_Law_entry_2 rfl (lv_at hl 0 rfl) ?_
  refine lv_iload_n hx hb d_Law_entry_3 rfl (lv_at hl 1 rfl) ?_
  refine lv_iload_n hx hb d_Law_entry_4 rfl (lv_at hl 2 rfl) ?_
  refine gx_calli (As := [.int x1, .int x2]) (rest := [.int 0, .ref (gad Y x3)]) ⟨hx, hb, hml, hown, hts⟩ (k_LogDisk_entry l hlt Y hY H.size x0 x1 x2 hx0 S _ _) (cwV 2 hts (gG_V gw_742 gw_743 gw_744 gw_1 gw_745) rfl rfl rfl (by decide +kernel) ⟨Nat.le_of_ble_eq_true rfl, Nat.le_of_ble_eq_true rfl⟩) ⟨gPre_blind, g_recv hK hP hx0 (gce_LogDisk hx0.1) rfl, g_pre hK hSt hS hP hw⟩ rfl hl.1 rfl (lv_room (Nat.le_of_ble_eq_true rfl)) d_Law_entry_5 ⟨Nat.le_of_ble_eq_true rfl, Nat.le_of_ble_eq_true rfl⟩ hS (fun E S2 q ce H locs hw hP hS hq hqv hcl => ?_) (fun r3 S1 H locs hw hP hS => ?_)
  · obtain ⟨rfl, hw⟩ := hw
    refine gx_catch (E := "java/lang/IndexOutOfBoundsException") (name := "java/lang/IndexOutOfBoundsException") hown [] ⟨0, 10, 13, 30⟩ [] (by rw [hout]; rfl) (fun z hz => by cases hz) (by decide) (by decide) (hts _ (List.mem_cons_of_mem _ gw_654)) (gx_castY hSt args (ic := 193) (by decide +kernel)) hq hqv hcl ?_
    refine lv_astore (lv' := [(4, .ref q), (0, .ref (gad Y x0)), (1, .int x1), (2, .int x2), (3, .ref (gad Y x3))]) hx hb d_Law_entry_13 hl (by decide) rfl (fun ls hl => ?_)
    refine lv_iconst (v := 1) hx hb d_Law_entry_15 (by decide) ?_
    exact W.iret (v := 1) hx hb hr (fun t ht hW => ⟨⟨1, S2, rfl, hw, by rw [ht]; exact hP, va_K.moved hW.alike hK⟩, hS.F ht⟩) hS.2.2 d_Law_entry_16
  refine lv_i2l hx hb d_Law_entry_8 rfl ?_
  obtain ⟨hin, hw⟩ := hw
  refine g_lastore hx hb hK hY.1 hP hS hx3 hin d_Law_entry_9 (fun S4 eS4 H locs hP hS => ?_)
  replace hw := hw S4 eS4
  refine lv_goto (tgt := 17) hx hb d_Law_entry_10 (by decide) ?_
  refine lv_iconst (v := 0) hx hb d_Law_entry_17 (by decide) ?_
  exact W.iret (v := 0) hx hb hr (fun t ht hW => ⟨⟨0, S4, rfl, hw, by rw [ht]; exact hP, va_K.moved hW.alike hK⟩, hS.F ht⟩) hS.2.2 d_Law_entry_18
set_option maxHeartbeats 4000000 in
set_option maxRecDepth 100000 in
theorem k_Law_entry (l : Launch) (hlt : l.stackTraces = false) (Y : gY) (hY : gOK Y) (sz : Nat) (x0 : gI) (x1 : Int32) (x2 : Int32) (x3 : gI)  (hx0 : gis Y 9 x0) (hx3 : gis Y 23 x3) (S : gS) (Q : Int32 → gS → Prop) : Met l y_Law_entry w_Law_entry (gRmX 7 123) (gPre Y [.ref (gad Y x0), .int x1, .int x2, .ref (gad Y x3)] S sz (wp_Law_entry (gLn Y) Q x0 x1 x2 x3 S)) (va_Qi Q (gB Y) (gA Y sz)) 1 6 (gA Y sz) := by
  refine va_MetW (cc := c_Law_entry) (maxL := 5) (ret := (Option.some Jvm.ClassFile.FieldType.int)) (hh := hh_Law_entry) (by decide) rfl ?_
  intro p e s m args below meth c s₁ B hml hv
  obtain ⟨rfl, hsz, hP, hK, hSt, hw⟩ := hv
  subst hsz
  have hts := atoms_spec (ws := w_Law_entry) B.pre
  have hl := lv_entry ([.ref (gad Y x0), .int x1, .int x2, .ref (gad Y x3)]) (n := 5) (Nat.le_of_ble_eq_true rfl)
  rw [lg_entry_eq]
  generalize (lg_sl ([.ref (gad Y x0), .int x1, .int x2, .ref (gad Y x3)]) ++ List.replicate (5 - (lg_sl ([.ref (gad Y x0), .int x1, .int x2, .ref (gad Y x3)])).length) Slot.unset).toArray = ls at hl ⊢
  exact mw_Law_entry ⟨B.exec, B.bytes, hml, findClass_of_methodNamed B.named, hts, B.returns, B.notSynchronized, hK, hY, hSt⟩ hlt (gx_table B (hts _ List.mem_cons_self)) x0 x1 x2 x3 S s.heap [] ls hx0 hx3 hw hP va_S.rf hl

def wp_Law_contentAt (Ln : gI → Nat) (Q : Int32 → gS → Prop) (x0 : gI) (x1 : Int32) (x2 : Int32) (x3 : gI)  (S : gS) : Prop :=
  wp_LogDisk_contentAt Ln (fun r3 S1 => vp_in 0 (Ln x3) ∧ (∀ S4 : gS, S4 = gsetL S1 x3 (0 : Int32).toNatClampNeg (r3.toInt64) → (Q 0 S4))) (fun E S2 => (E = "java/lang/IndexOutOfBoundsException" ∧ (Q 1 S2)) ∨ (E = "java/util/NoSuchElementException" ∧ (Q 2 S2))) x0 x1 x2 S
set_option maxHeartbeats 4000000 in
set_option maxRecDepth 100000 in
theorem mw_Law_contentAt {p : Program} {l : Launch} {e : Env} {s : State} {m : MethodId} {args : Array Value} {below : List Frame} {meth : Method} {c : Code} {Y : gY} {Q : Int32 → gS → Prop} (C : gCx p s m args meth c Y "LogDiskLaw" c_Law_contentAt 5 (Option.some Jvm.ClassFile.FieldType.int) w_Law_contentAt) (hlt : l.stackTraces = false) (hout : c.exceptionTable.toList = tableOf hh_Law_contentAt) : ∀ (x0 : gI) (x1 : Int32) (x2 : Int32) (x3 : gI)  (S : gS) (H : Heap) (locs : List Loc) (ls : Array Slot), gis Y 9 x0 → gis Y 23 x3 → wp_Law_contentAt (gLn Y) Q x0 x1 x2 x3 S → gWd Y S H → va_S (gA Y s.heap.size) s.heap H locs → lv_has ls 5 [(0, .ref (gad Y x0)), (1, .int x1), (2, .int x2), (3, .ref (gad Y x3))] → W p l e (gRmX 7 123) s m args below meth c H locs 0 0 (MQ below (va_Qi Q (gB Y) (gA Y s.heap.size)) args s 1 6 (gA Y s.heap.size)) (F0 m 0 ls []) := by
  have C0 := C
  obtain ⟨hx, hb, hml, hown, hts, hr, hlocks, hK, hY, hSt⟩ := C
  intro x0 x1 x2 x3 S H locs ls hx0 hx3 hw hP hS hl
  unfold wp_Law_contentAt at hw
  refine lv_aload_n hx hb d_Law_contentAt_0 rfl (lv_at hl 3 rfl) ?_
  refine lv_iconst (v := 0) hx hb d_Law_contentAt_1 (by decide) ?_
  refine lv_aload_n hx hb d_Law_contentAt_2 rfl (lv_at hl 0 rfl) ?_
  refine lv_iload_n hx hb d_Law_contentAt_3 rfl (lv_at hl 1 rfl) ?_
  refine lv_iload_n hx hb d_Law_contentAt_4 rfl (lv_at hl 2 rfl) ?_
  refine gx_calli (As := [.int x1, .int x2]) (rest := [.int 0, .ref (gad Y x3)]) ⟨hx, hb, hml, hown, hts⟩ (k_LogDisk_contentAt l hlt Y hY H.size x0 x1 x2 hx0 S _ _) (cwV 2 hts (gG_V gw_751 gw_752 gw_753 gw_1 gw_754) rfl rfl rfl (by decide +kernel) ⟨Nat.le_of_ble_eq_true rfl, Nat.le_of_ble_eq_true rfl⟩) ⟨gPre_blind, g_recv hK hP hx0 (gce_LogDisk hx0.1) rfl, g_pre hK hSt hS hP hw⟩ rfl hl.1 rfl (lv_room (Nat.le_of_ble_eq_true rfl)) d_Law_contentAt_5 ⟨Nat.le_of_ble_eq_true rfl, Nat.le_of_ble_eq_true rfl⟩ hS (fun E S2 q ce H locs hw hP hS hq hqv hcl => ?_) (fun r3 S1 H locs hw hP hS => ?_)
  · rcases hw with ⟨rfl, hw⟩ | ⟨rfl, hw⟩
    · refine gx_catch (E := "java/lang/IndexOutOfBoundsException") (name := "java/lang/IndexOutOfBoundsException") hown [] ⟨0, 10, 13, 30⟩ [⟨0, 10, 17, 52⟩] (by rw [hout]; rfl) (fun z hz => by cases hz) (by decide) (by decide) (hts _ (List.mem_cons_of_mem _ gw_654)) (gx_castY hSt args (ic := 193) (by decide +kernel)) hq hqv hcl ?_
      refine lv_astore (lv' := [(4, .ref q), (0, .ref (gad Y x0)), (1, .int x1), (2, .int x2), (3, .ref (gad Y x3))]) hx hb d_Law_contentAt_13 hl (by decide) rfl (fun ls hl => ?_)
      refine lv_iconst (v := 1) hx hb d_Law_contentAt_15 (by decide) ?_
      exact W.iret (v := 1) hx hb hr (fun t ht hW => ⟨⟨1, S2, rfl, hw, by rw [ht]; exact hP, va_K.moved hW.alike hK⟩, hS.F ht⟩) hS.2.2 d_Law_contentAt_16
    · refine gx_catch (E := "java/util/NoSuchElementException") (name := "java/util/NoSuchElementException") hown [⟨0, 10, 13, 30⟩] ⟨0, 10, 17, 52⟩ [] (by rw [hout]; rfl) (fun z hz => by cases List.mem_singleton.mp hz; exact ⟨by decide, _, (hts _ (List.mem_cons_of_mem _ gw_654)), gx_castN hSt args (by decide +kernel)⟩) (by decide) (by decide) (hts _ (List.mem_cons_of_mem _ gw_750)) (gx_castY hSt args (ic := 274) (by decide +kernel)) hq hqv hcl ?_
      refine lv_astore (lv' := [(4, .ref q), (0, .ref (gad Y x0)), (1, .int x1), (2, .int x2), (3, .ref (gad Y x3))]) hx hb d_Law_contentAt_17 hl (by decide) rfl (fun ls hl => ?_)
      refine lv_iconst (v := 2) hx hb d_Law_contentAt_19 (by decide) ?_
      exact W.iret (v := 2) hx hb hr (fun t ht hW => ⟨⟨2, S2, rfl, hw, by rw [ht]; exact hP, va_K.moved hW.alike hK⟩, hS.F ht⟩) hS.2.2 d_Law_contentAt_20
  refine lv_i2l hx hb d_Law_contentAt_8 rfl ?_
  obtain ⟨hin, hw⟩ := hw
  refine g_lastore hx hb hK hY.1 hP hS hx3 hin d_Law_contentAt_9 (fun S4 eS4 H locs hP hS => ?_)
  replace hw := hw S4 eS4
  refine lv_goto (tgt := 21) hx hb d_Law_contentAt_10 (by decide) ?_
  refine lv_iconst (v := 0) hx hb d_Law_contentAt_21 (by decide) ?_
  exact W.iret (v := 0) hx hb hr (fun t ht hW => ⟨⟨0, S4, rfl, hw, by rw [ht]; exact hP, va_K.moved hW.alike hK⟩, hS.F ht⟩) hS.2.2 d_Law_contentAt_22
set_option maxHeartbeats 4000000 in
set_option maxRecDepth 100000 in
theorem k_Law_contentAt (l : Launch) (hlt : l.stackTraces = false) (Y : gY) (hY : gOK Y) (sz : Nat) (x0 : gI) (x1 : Int32) (x2 : Int32) (x3 : gI)  (hx0 : gis Y 9 x0) (hx3 : gis Y 23 x3) (S : gS) (Q : Int32 → gS → Prop) : Met l y_Law_contentAt w_Law_contentAt (gRmX 7 123) (gPre Y [.ref (gad Y x0), .int x1, .int x2, .ref (gad Y x3)] S sz (wp_Law_contentAt (gLn Y) Q x0 x1 x2 x3 S)) (va_Qi Q (gB Y) (gA Y sz)) 1 6 (gA Y sz) := by
  refine va_MetW (cc := c_Law_contentAt) (maxL := 5) (ret := (Option.some Jvm.ClassFile.FieldType.int)) (hh := hh_Law_contentAt) (by decide) rfl ?_
  intro p e s m args below meth c s₁ B hml hv
  obtain ⟨rfl, hsz, hP, hK, hSt, hw⟩ := hv
  subst hsz
  have hts := atoms_spec (ws := w_Law_contentAt) B.pre
  have hl := lv_entry ([.ref (gad Y x0), .int x1, .int x2, .ref (gad Y x3)]) (n := 5) (Nat.le_of_ble_eq_true rfl)
  rw [lg_entry_eq]
  generalize (lg_sl ([.ref (gad Y x0), .int x1, .int x2, .ref (gad Y x3)]) ++ List.replicate (5 - (lg_sl ([.ref (gad Y x0), .int x1, .int x2, .ref (gad Y x3)])).length) Slot.unset).toArray = ls at hl ⊢
  exact mw_Law_contentAt ⟨B.exec, B.bytes, hml, findClass_of_methodNamed B.named, hts, B.returns, B.notSynchronized, hK, hY, hSt⟩ hlt (gx_table B (hts _ List.mem_cons_self)) x0 x1 x2 x3 S s.heap [] ls hx0 hx3 hw hP va_S.rf hl

def wp_Law_snapshotAt (Ln : gI → Nat) (Q : Int32 → gS → Prop) (x0 : gI) (x1 : Int32) (x2 : gI)  (S : gS) : Prop :=
  wp_LogDisk_snapshotAt Ln (fun r3 S1 => vp_in 0 (Ln x2) ∧ (∀ S4 : gS, S4 = gsetL S1 x2 (0 : Int32).toNatClampNeg (r3.toInt64) → (Q 0 S4))) (fun E S2 => (E = "java/lang/IndexOutOfBoundsException" ∧ (Q 1 S2))) x0 x1 S
set_option maxHeartbeats 4000000 in
set_option maxRecDepth 100000 in
theorem mw_Law_snapshotAt {p : Program} {l : Launch} {e : Env} {s : State} {m : MethodId} {args : Array Value} {below : List Frame} {meth : Method} {c : Code} {Y : gY} {Q : Int32 → gS → Prop} (C : gCx p s m args meth c Y "LogDiskLaw" c_Law_snapshotAt 4 (Option.some Jvm.ClassFile.FieldType.int) w_Law_snapshotAt) (hlt : l.stackTraces = false) (hout : c.exceptionTable.toList = tableOf hh_Law_snapshotAt) : ∀ (x0 : gI) (x1 : Int32) (x2 : gI)  (S : gS) (H : Heap) (locs : List Loc) (ls : Array Slot), gis Y 9 x0 → gis Y 23 x2 → wp_Law_snapshotAt (gLn Y) Q x0 x1 x2 S → gWd Y S H → va_S (gA Y s.heap.size) s.heap H locs → lv_has ls 4 [(0, .ref (gad Y x0)), (1, .int x1), (2, .ref (gad Y x2))] → W p l e (gRmX 7 121) s m args below meth c H locs 0 0 (MQ below (va_Qi Q (gB Y) (gA Y s.heap.size)) args s 1 6 (gA Y s.heap.size)) (F0 m 0 ls []) := by
  have C0 := C
  obtain ⟨hx, hb, hml, hown, hts, hr, hlocks, hK, hY, hSt⟩ := C
  intro x0 x1 x2 S H locs ls hx0 hx2 hw hP hS hl
  unfold wp_Law_snapshotAt at hw
  refine lv_aload_n hx hb d_Law_snapshotAt_0 rfl (lv_at hl 2 rfl) ?_
  refine lv_iconst (v := 0) hx hb d_Law_snapshotAt_1 (by decide) ?_
  refine lv_aload_n hx hb d_Law_snapshotAt_2 rfl (lv_at hl 0 rfl) ?_
  refine lv_iload_n hx hb d_Law_snapshotAt_3 rfl (lv_at hl 1 rfl) ?_
  refine gx_calli (As := [.int x1]) (rest := [.int 0, .ref (gad Y x2)]) ⟨hx, hb, hml, hown, hts⟩ (k_LogDisk_snapshotAt l hlt Y hY H.size x0 x1 hx0 S _ _) (cwV 1 hts (gG_V gw_775 gw_776 gw_777 gw_1 gw_778) rfl rfl rfl (by decide +kernel) ⟨Nat.le_of_ble_eq_true rfl, Nat.le_of_ble_eq_true rfl⟩) ⟨gPre_blind, g_recv hK hP hx0 (gce_LogDisk hx0.1) rfl, g_pre hK hSt hS hP hw⟩ rfl hl.1 rfl (lv_room (Nat.le_of_ble_eq_true rfl)) d_Law_snapshotAt_4 ⟨Nat.le_of_ble_eq_true rfl, Nat.le_of_ble_eq_true rfl⟩ hS (fun E S2 q ce H locs hw hP hS hq hqv hcl => ?_) (fun r3 S1 H locs hw hP hS => ?_)
  · obtain ⟨rfl, hw⟩ := hw
    refine gx_catch (E := "java/lang/IndexOutOfBoundsException") (name := "java/lang/IndexOutOfBoundsException") hown [] ⟨0, 9, 12, 30⟩ [] (by rw [hout]; rfl) (fun z hz => by cases hz) (by decide) (by decide) (hts _ (List.mem_cons_of_mem _ gw_654)) (gx_castY hSt args (ic := 193) (by decide +kernel)) hq hqv hcl ?_
    refine lv_astore_n (lv' := [(3, .ref q), (0, .ref (gad Y x0)), (1, .int x1), (2, .ref (gad Y x2))]) hx hb d_Law_snapshotAt_12 rfl hl (by decide) rfl (fun ls hl => ?_)
    refine lv_iconst (v := 1) hx hb d_Law_snapshotAt_13 (by decide) ?_
    exact W.iret (v := 1) hx hb hr (fun t ht hW => ⟨⟨1, S2, rfl, hw, by rw [ht]; exact hP, va_K.moved hW.alike hK⟩, hS.F ht⟩) hS.2.2 d_Law_snapshotAt_14
  refine lv_i2l hx hb d_Law_snapshotAt_7 rfl ?_
  obtain ⟨hin, hw⟩ := hw
  refine g_lastore hx hb hK hY.1 hP hS hx2 hin d_Law_snapshotAt_8 (fun S4 eS4 H locs hP hS => ?_)
  replace hw := hw S4 eS4
  refine lv_goto (tgt := 15) hx hb d_Law_snapshotAt_9 (by decide) ?_
  refine lv_iconst (v := 0) hx hb d_Law_snapshotAt_15 (by decide) ?_
  exact W.iret (v := 0) hx hb hr (fun t ht hW => ⟨⟨0, S4, rfl, hw, by rw [ht]; exact hP, va_K.moved hW.alike hK⟩, hS.F ht⟩) hS.2.2 d_Law_snapshotAt_16
set_option maxHeartbeats 4000000 in
set_option maxRecDepth 100000 in
theorem k_Law_snapshotAt (l : Launch) (hlt : l.stackTraces = false) (Y : gY) (hY : gOK Y) (sz : Nat) (x0 : gI) (x1 : Int32) (x2 : gI)  (hx0 : gis Y 9 x0) (hx2 : gis Y 23 x2) (S : gS) (Q : Int32 → gS → Prop) : Met l y_Law_snapshotAt w_Law_snapshotAt (gRmX 7 121) (gPre Y [.ref (gad Y x0), .int x1, .ref (gad Y x2)] S sz (wp_Law_snapshotAt (gLn Y) Q x0 x1 x2 S)) (va_Qi Q (gB Y) (gA Y sz)) 1 6 (gA Y sz) := by
  refine va_MetW (cc := c_Law_snapshotAt) (maxL := 4) (ret := (Option.some Jvm.ClassFile.FieldType.int)) (hh := hh_Law_snapshotAt) (by decide) rfl ?_
  intro p e s m args below meth c s₁ B hml hv
  obtain ⟨rfl, hsz, hP, hK, hSt, hw⟩ := hv
  subst hsz
  have hts := atoms_spec (ws := w_Law_snapshotAt) B.pre
  have hl := lv_entry ([.ref (gad Y x0), .int x1, .ref (gad Y x2)]) (n := 4) (Nat.le_of_ble_eq_true rfl)
  rw [lg_entry_eq]
  generalize (lg_sl ([.ref (gad Y x0), .int x1, .ref (gad Y x2)]) ++ List.replicate (4 - (lg_sl ([.ref (gad Y x0), .int x1, .ref (gad Y x2)])).length) Slot.unset).toArray = ls at hl ⊢
  exact mw_Law_snapshotAt ⟨B.exec, B.bytes, hml, findClass_of_methodNamed B.named, hts, B.returns, B.notSynchronized, hK, hY, hSt⟩ hlt (gx_table B (hts _ List.mem_cons_self)) x0 x1 x2 S s.heap [] ls hx0 hx2 hw hP va_S.rf hl

def wp_Law_segment (Ln : gI → Nat) (Q : Int32 → gS → Prop) (x0 : gI) (x1 : Int32) (x2 : Int32) (x3 : gI)  (S : gS) : Prop :=
  wp_LogDisk_segment Ln (fun r3 S1 => vp_in 0 (Ln x3) ∧ (∀ S4 : gS, S4 = gsetL S1 x3 (0 : Int32).toNatClampNeg (r3.toInt64) → (Q 0 S4))) (fun E S2 => (E = "java/lang/IndexOutOfBoundsException" ∧ (Q 1 S2))) x0 x1 x2 S
set_option maxHeartbeats 4000000 in
set_option maxRecDepth 100000 in
theorem mw_Law_segment {p : Program} {l : Launch} {e : Env} {s : State} {m : MethodId} {args : Array Value} {below : List Frame} {meth : Method} {c : Code} {Y : gY} {Q : Int32 → gS → Prop} (C : gCx p s m args meth c Y "LogDiskLaw" c_Law_segment 5 (Option.some Jvm.ClassFile.FieldType.int) w_Law_segment) (hlt : l.stackTraces = false) (hout : c.exceptionTable.toList = tableOf hh_Law_segment) : ∀ (x0 : gI) (x1 : Int32) (x2 : Int32) (x3 : gI)  (S : gS) (H : Heap) (locs : List Loc) (ls : Array Slot), gis Y 9 x0 → gis Y 23 x3 → wp_Law_segment (gLn Y) Q x0 x1 x2 x3 S → gWd Y S H → va_S (gA Y s.heap.size) s.heap H locs → lv_has ls 5 [(0, .ref (gad Y x0)), (1, .int x1), (2, .int x2), (3, .ref (gad Y x3))] → W p l e (gRmX 7 122) s m args below meth c H locs 0 0 (MQ below (va_Qi Q (gB Y) (gA Y s.heap.size)) args s 1 6 (gA Y s.heap.size)) (F0 m 0 ls []) := by
  have C0 := C
  obtain ⟨hx, hb, hml, hown, hts, hr, hlocks, hK, hY, hSt⟩ := C
  intro x0 x1 x2 x3 S H locs ls hx0 hx3 hw hP hS hl
  unfold wp_Law_segment at hw
  refine lv_aload_n hx hb d_Law_segment_0 rfl (lv_at hl 3 rfl) ?_
  refine lv_iconst (v := 0) hx hb d_Law_segment_1 (by decide) ?_
  refine lv_aload_n hx hb d_Law_segment_2 rfl (lv_at hl 0 rfl) ?_
  refine lv_iload_n hx hb d_Law_segment_3 rfl (lv_at hl 1 rfl) ?_
  refine lv_iload_n hx hb d_Law_segment_4 rfl (lv_at hl 2 rfl) ?_
  refine gx_calli (As := [.int x1, .int x2]) (rest := [.int 0, .ref (gad Y x3)]) ⟨hx, hb, hml, hown, hts⟩ (k_LogDisk_segment l hlt Y hY H.size x0 x1 x2 hx0 S _ _) (cwV 2 hts (gG_V gw_782 gw_783 gw_784 gw_1 gw_785) rfl rfl rfl (by decide +kernel) ⟨Nat.le_of_ble_eq_true rfl, Nat.le_of_ble_eq_true rfl⟩) ⟨gPre_blind, g_recv hK hP hx0 (gce_LogDisk hx0.1) rfl, g_pre hK hSt hS hP hw⟩ rfl hl.1 rfl (lv_room (Nat.le_of_ble_eq_true rfl)) d_Law_segment_5 ⟨Nat.le_of_ble_eq_true rfl, Nat.le_of_ble_eq_true rfl⟩ hS (fun E S2 q ce H locs hw hP hS hq hqv hcl => ?_) (fun r3 S1 H locs hw hP hS => ?_)
  · obtain ⟨rfl, hw⟩ := hw
    refine gx_catch (E := "java/lang/IndexOutOfBoundsException") (name := "java/lang/IndexOutOfBoundsException") hown [] ⟨0, 10, 13, 30⟩ [] (by rw [hout]; rfl) (fun z hz => by cases hz) (by decide) (by decide) (hts _ (List.mem_cons_of_mem _ gw_654)) (gx_castY hSt args (ic := 193) (by decide +kernel)) hq hqv hcl ?_
    refine lv_astore (lv' := [(4, .ref q), (0, .ref (gad Y x0)), (1, .int x1), (2, .int x2), (3, .ref (gad Y x3))]) hx hb d_Law_segment_13 hl (by decide) rfl (fun ls hl => ?_)
    refine lv_iconst (v := 1) hx hb d_Law_segment_15 (by decide) ?_
    exact W.iret (v := 1) hx hb hr (fun t ht hW => ⟨⟨1, S2, rfl, hw, by rw [ht]; exact hP, va_K.moved hW.alike hK⟩, hS.F ht⟩) hS.2.2 d_Law_segment_16
  refine lv_i2l hx hb d_Law_segment_8 rfl ?_
  obtain ⟨hin, hw⟩ := hw
  refine g_lastore hx hb hK hY.1 hP hS hx3 hin d_Law_segment_9 (fun S4 eS4 H locs hP hS => ?_)
  replace hw := hw S4 eS4
  refine lv_goto (tgt := 17) hx hb d_Law_segment_10 (by decide) ?_
  refine lv_iconst (v := 0) hx hb d_Law_segment_17 (by decide) ?_
  exact W.iret (v := 0) hx hb hr (fun t ht hW => ⟨⟨0, S4, rfl, hw, by rw [ht]; exact hP, va_K.moved hW.alike hK⟩, hS.F ht⟩) hS.2.2 d_Law_segment_18
set_option maxHeartbeats 4000000 in
set_option maxRecDepth 100000 in
theorem k_Law_segment (l : Launch) (hlt : l.stackTraces = false) (Y : gY) (hY : gOK Y) (sz : Nat) (x0 : gI) (x1 : Int32) (x2 : Int32) (x3 : gI)  (hx0 : gis Y 9 x0) (hx3 : gis Y 23 x3) (S : gS) (Q : Int32 → gS → Prop) : Met l y_Law_segment w_Law_segment (gRmX 7 122) (gPre Y [.ref (gad Y x0), .int x1, .int x2, .ref (gad Y x3)] S sz (wp_Law_segment (gLn Y) Q x0 x1 x2 x3 S)) (va_Qi Q (gB Y) (gA Y sz)) 1 6 (gA Y sz) := by
  refine va_MetW (cc := c_Law_segment) (maxL := 5) (ret := (Option.some Jvm.ClassFile.FieldType.int)) (hh := hh_Law_segment) (by decide) rfl ?_
  intro p e s m args below meth c s₁ B hml hv
  obtain ⟨rfl, hsz, hP, hK, hSt, hw⟩ := hv
  subst hsz
  have hts := atoms_spec (ws := w_Law_segment) B.pre
  have hl := lv_entry ([.ref (gad Y x0), .int x1, .int x2, .ref (gad Y x3)]) (n := 5) (Nat.le_of_ble_eq_true rfl)
  rw [lg_entry_eq]
  generalize (lg_sl ([.ref (gad Y x0), .int x1, .int x2, .ref (gad Y x3)]) ++ List.replicate (5 - (lg_sl ([.ref (gad Y x0), .int x1, .int x2, .ref (gad Y x3)])).length) Slot.unset).toArray = ls at hl ⊢
  exact mw_Law_segment ⟨B.exec, B.bytes, hml, findClass_of_methodNamed B.named, hts, B.returns, B.notSynchronized, hK, hY, hSt⟩ hlt (gx_table B (hts _ List.mem_cons_self)) x0 x1 x2 x3 S s.heap [] ls hx0 hx3 hw hP va_S.rf hl

def wp_Law_file (Ln : gI → Nat) (Q : Int32 → gS → Prop) (x0 : gI) (x1 : Int32) (x2 : Int32) (x3 : gI)  (S : gS) : Prop :=
  wp_LogDisk_file Ln (fun r3 S1 => vp_in 0 (Ln x3) ∧ (∀ S4 : gS, S4 = gsetL S1 x3 (0 : Int32).toNatClampNeg (r3.toInt64) → (Q 0 S4))) (fun E S2 => (E = "java/lang/IndexOutOfBoundsException" ∧ (Q 1 S2))) x0 x1 x2 S
set_option maxHeartbeats 4000000 in
set_option maxRecDepth 100000 in
theorem mw_Law_file {p : Program} {l : Launch} {e : Env} {s : State} {m : MethodId} {args : Array Value} {below : List Frame} {meth : Method} {c : Code} {Y : gY} {Q : Int32 → gS → Prop} (C : gCx p s m args meth c Y "LogDiskLaw" c_Law_file 5 (Option.some Jvm.ClassFile.FieldType.int) w_Law_file) (hlt : l.stackTraces = false) (hout : c.exceptionTable.toList = tableOf hh_Law_file) : ∀ (x0 : gI) (x1 : Int32) (x2 : Int32) (x3 : gI)  (S : gS) (H : Heap) (locs : List Loc) (ls : Array Slot), gis Y 9 x0 → gis Y 23 x3 → wp_Law_file (gLn Y) Q x0 x1 x2 x3 S → gWd Y S H → va_S (gA Y s.heap.size) s.heap H locs → lv_has ls 5 [(0, .ref (gad Y x0)), (1, .int x1), (2, .int x2), (3, .ref (gad Y x3))] → W p l e (gRmX 7 123) s m args below meth c H locs 0 0 (MQ below (va_Qi Q (gB Y) (gA Y s.heap.size)) args s 1 6 (gA Y s.heap.size)) (F0 m 0 ls []) := by
  have C0 := C
  obtain ⟨hx, hb, hml, hown, hts, hr, hlocks, hK, hY, hSt⟩ := C
  intro x0 x1 x2 x3 S H locs ls hx0 hx3 hw hP hS hl
  unfold wp_Law_file at hw
  refine lv_aload_n hx hb d_Law_file_0 rfl (lv_at hl 3 rfl) ?_
  refine lv_iconst (v := 0) hx hb d_Law_file_1 (by decide) ?_
  refine lv_aload_n hx hb d_Law_file_2 rfl (lv_at hl 0 rfl) ?_
  refine lv_iload_n hx hb d_Law_file_3 rfl (lv_at hl 1 rfl) ?_
  refine lv_iload_n hx hb d_Law_file_4 rfl (lv_at hl 2 rfl) ?_
  refine gx_calli (As := [.int x1, .int x2]) (rest := [.int 0, .ref (gad Y x3)]) ⟨hx, hb, hml, hown, hts⟩ (k_LogDisk_file l hlt Y hY H.size x0 x1 x2 hx0 S _ _) (cwV 2 hts (gG_V gw_790 gw_791 gw_792 gw_1 gw_793) rfl rfl rfl (by decide +kernel) ⟨Nat.le_of_ble_eq_true rfl, Nat.le_of_ble_eq_true rfl⟩) ⟨gPre_blind, g_recv hK hP hx0 (gce_LogDisk hx0.1) rfl, g_pre hK hSt hS hP hw⟩ rfl hl.1 rfl (lv_room (Nat.le_of_ble_eq_true rfl)) d_Law_file_5 ⟨Nat.le_of_ble_eq_true rfl, Nat.le_of_ble_eq_true rfl⟩ hS (fun E S2 q ce H locs hw hP hS hq hqv hcl => ?_) (fun r3 S1 H locs hw hP hS => ?_)
  · obtain ⟨rfl, hw⟩ := hw
    refine gx_catch (E := "java/lang/IndexOutOfBoundsException") (name := "java/lang/IndexOutOfBoundsException") hown [] ⟨0, 10, 13, 30⟩ [] (by rw [hout]; rfl) (fun z hz => by cases hz) (by decide) (by decide) (hts _ (List.mem_cons_of_mem _ gw_654)) (gx_castY hSt args (ic := 193) (by decide +kernel)) hq hqv hcl ?_
    refine lv_astore (lv' := [(4, .ref q), (0, .ref (gad Y x0)), (1, .int x1), (2, .int x2), (3, .ref (gad Y x3))]) hx hb d_Law_file_13 hl (by decide) rfl (fun ls hl => ?_)
    refine lv_iconst (v := 1) hx hb d_Law_file_15 (by decide) ?_
    exact W.iret (v := 1) hx hb hr (fun t ht hW => ⟨⟨1, S2, rfl, hw, by rw [ht]; exact hP, va_K.moved hW.alike hK⟩, hS.F ht⟩) hS.2.2 d_Law_file_16
  refine lv_i2l hx hb d_Law_file_8 rfl ?_
  obtain ⟨hin, hw⟩ := hw
  refine g_lastore hx hb hK hY.1 hP hS hx3 hin d_Law_file_9 (fun S4 eS4 H locs hP hS => ?_)
  replace hw := hw S4 eS4
  refine lv_goto (tgt := 17) hx hb d_Law_file_10 (by decide) ?_
  refine lv_iconst (v := 0) hx hb d_Law_file_17 (by decide) ?_
  exact W.iret (v := 0) hx hb hr (fun t ht hW => ⟨⟨0, S4, rfl, hw, by rw [ht]; exact hP, va_K.moved hW.alike hK⟩, hS.F ht⟩) hS.2.2 d_Law_file_18
set_option maxHeartbeats 4000000 in
set_option maxRecDepth 100000 in
theorem k_Law_file (l : Launch) (hlt : l.stackTraces = false) (Y : gY) (hY : gOK Y) (sz : Nat) (x0 : gI) (x1 : Int32) (x2 : Int32) (x3 : gI)  (hx0 : gis Y 9 x0) (hx3 : gis Y 23 x3) (S : gS) (Q : Int32 → gS → Prop) : Met l y_Law_file w_Law_file (gRmX 7 123) (gPre Y [.ref (gad Y x0), .int x1, .int x2, .ref (gad Y x3)] S sz (wp_Law_file (gLn Y) Q x0 x1 x2 x3 S)) (va_Qi Q (gB Y) (gA Y sz)) 1 6 (gA Y sz) := by
  refine va_MetW (cc := c_Law_file) (maxL := 5) (ret := (Option.some Jvm.ClassFile.FieldType.int)) (hh := hh_Law_file) (by decide) rfl ?_
  intro p e s m args below meth c s₁ B hml hv
  obtain ⟨rfl, hsz, hP, hK, hSt, hw⟩ := hv
  subst hsz
  have hts := atoms_spec (ws := w_Law_file) B.pre
  have hl := lv_entry ([.ref (gad Y x0), .int x1, .int x2, .ref (gad Y x3)]) (n := 5) (Nat.le_of_ble_eq_true rfl)
  rw [lg_entry_eq]
  generalize (lg_sl ([.ref (gad Y x0), .int x1, .int x2, .ref (gad Y x3)]) ++ List.replicate (5 - (lg_sl ([.ref (gad Y x0), .int x1, .int x2, .ref (gad Y x3)])).length) Slot.unset).toArray = ls at hl ⊢
  exact mw_Law_file ⟨B.exec, B.bytes, hml, findClass_of_methodNamed B.named, hts, B.returns, B.notSynchronized, hK, hY, hSt⟩ hlt (gx_table B (hts _ List.mem_cons_self)) x0 x1 x2 x3 S s.heap [] ls hx0 hx3 hw hP va_S.rf hl

def wp_Law_byteAt (Ln : gI → Nat) (Q : Int32 → gS → Prop) (x0 : gI) (x1 : Int32) (x2 : Int32) (x3 : gI)  (S : gS) : Prop :=
  wp_LogDisk_byteAt Ln (fun r3 S1 => vp_in 0 (Ln x3) ∧ (∀ S4 : gS, S4 = gsetL S1 x3 (0 : Int32).toNatClampNeg (r3.toInt64) → (Q 0 S4))) (fun E S2 => (E = "java/lang/IndexOutOfBoundsException" ∧ (Q 1 S2))) x0 x1 x2 S
set_option maxHeartbeats 4000000 in
set_option maxRecDepth 100000 in
theorem mw_Law_byteAt {p : Program} {l : Launch} {e : Env} {s : State} {m : MethodId} {args : Array Value} {below : List Frame} {meth : Method} {c : Code} {Y : gY} {Q : Int32 → gS → Prop} (C : gCx p s m args meth c Y "LogDiskLaw" c_Law_byteAt 5 (Option.some Jvm.ClassFile.FieldType.int) w_Law_byteAt) (hlt : l.stackTraces = false) (hout : c.exceptionTable.toList = tableOf hh_Law_byteAt) : ∀ (x0 : gI) (x1 : Int32) (x2 : Int32) (x3 : gI)  (S : gS) (H : Heap) (locs : List Loc) (ls : Array Slot), gis Y 9 x0 → gis Y 23 x3 → wp_Law_byteAt (gLn Y) Q x0 x1 x2 x3 S → gWd Y S H → va_S (gA Y s.heap.size) s.heap H locs → lv_has ls 5 [(0, .ref (gad Y x0)), (1, .int x1), (2, .int x2), (3, .ref (gad Y x3))] → W p l e (gRmX 7 122) s m args below meth c H locs 0 0 (MQ below (va_Qi Q (gB Y) (gA Y s.heap.size)) args s 1 6 (gA Y s.heap.size)) (F0 m 0 ls []) := by
  have C0 := C
  obtain ⟨hx, hb, hml, hown, hts, hr, hlocks, hK, hY, hSt⟩ := C
  intro x0 x1 x2 x3 S H locs ls hx0 hx3 hw hP hS hl
  unfold wp_Law_byteAt at hw
  refine lv_aload_n hx hb d_Law_byteAt_0 rfl (lv_at hl 3 rfl) ?_
  refine lv_iconst (v := 0) hx hb d_Law_byteAt_1 (by decide) ?_
  refine lv_aload_n hx hb d_Law_byteAt_2 rfl (lv_at hl 0 rfl) ?_
  refine lv_iload_n hx hb d_Law_byteAt_3 rfl (lv_at hl 1 rfl) ?_
  refine lv_iload_n hx hb d_Law_byteAt_4 rfl (lv_at hl 2 rfl) ?_
  refine gx_calli (As := [.int x1, .int x2]) (rest := [.int 0, .ref (gad Y x3)]) ⟨hx, hb, hml, hown, hts⟩ (k_LogDisk_byteAt l hlt Y hY H.size x0 x1 x2 hx0 S _ _) (cwV 2 hts (gG_V gw_797 gw_798 gw_799 gw_1 gw_800) rfl rfl rfl (by decide +kernel) ⟨Nat.le_of_ble_eq_true rfl, Nat.le_of_ble_eq_true rfl⟩) ⟨gPre_blind, g_recv hK hP hx0 (gce_LogDisk hx0.1) rfl, g_pre hK hSt hS hP hw⟩ rfl hl.1 rfl (lv_room (Nat.le_of_ble_eq_true rfl)) d_Law_byteAt_5 ⟨Nat.le_of_ble_eq_true rfl, Nat.le_of_ble_eq_true rfl⟩ hS (fun E S2 q ce H locs hw hP hS hq hqv hcl => ?_) (fun r3 S1 H locs hw hP hS => ?_)
  · obtain ⟨rfl, hw⟩ := hw
    refine gx_catch (E := "java/lang/IndexOutOfBoundsException") (name := "java/lang/IndexOutOfBoundsException") hown [] ⟨0, 10, 13, 30⟩ [] (by rw [hout]; rfl) (fun z hz => by cases hz) (by decide) (by decide) (hts _ (List.mem_cons_of_mem _ gw_654)) (gx_castY hSt args (ic := 193) (by decide +kernel)) hq hqv hcl ?_
    refine lv_astore (lv' := [(4, .ref q), (0, .ref (gad Y x0)), (1, .int x1), (2, .int x2), (3, .ref (gad Y x3))]) hx hb d_Law_byteAt_13 hl (by decide) rfl (fun ls hl => ?_)
    refine lv_iconst (v := 1) hx hb d_Law_byteAt_15 (by decide) ?_
    exact W.iret (v := 1) hx hb hr (fun t ht hW => ⟨⟨1, S2, rfl, hw, by rw [ht]; exact hP, va_K.moved hW.alike hK⟩, hS.F ht⟩) hS.2.2 d_Law_byteAt_16
  refine lv_i2l hx hb d_Law_byteAt_8 rfl ?_
  obtain ⟨hin, hw⟩ := hw
  refine g_lastore hx hb hK hY.1 hP hS hx3 hin d_Law_byteAt_9 (fun S4 eS4 H locs hP hS => ?_)
  replace hw := hw S4 eS4
  refine lv_goto (tgt := 17) hx hb d_Law_byteAt_10 (by decide) ?_
  refine lv_iconst (v := 0) hx hb d_Law_byteAt_17 (by decide) ?_
  exact W.iret (v := 0) hx hb hr (fun t ht hW => ⟨⟨0, S4, rfl, hw, by rw [ht]; exact hP, va_K.moved hW.alike hK⟩, hS.F ht⟩) hS.2.2 d_Law_byteAt_18
set_option maxHeartbeats 4000000 in
set_option maxRecDepth 100000 in
theorem k_Law_byteAt (l : Launch) (hlt : l.stackTraces = false) (Y : gY) (hY : gOK Y) (sz : Nat) (x0 : gI) (x1 : Int32) (x2 : Int32) (x3 : gI)  (hx0 : gis Y 9 x0) (hx3 : gis Y 23 x3) (S : gS) (Q : Int32 → gS → Prop) : Met l y_Law_byteAt w_Law_byteAt (gRmX 7 122) (gPre Y [.ref (gad Y x0), .int x1, .int x2, .ref (gad Y x3)] S sz (wp_Law_byteAt (gLn Y) Q x0 x1 x2 x3 S)) (va_Qi Q (gB Y) (gA Y sz)) 1 6 (gA Y sz) := by
  refine va_MetW (cc := c_Law_byteAt) (maxL := 5) (ret := (Option.some Jvm.ClassFile.FieldType.int)) (hh := hh_Law_byteAt) (by decide) rfl ?_
  intro p e s m args below meth c s₁ B hml hv
  obtain ⟨rfl, hsz, hP, hK, hSt, hw⟩ := hv
  subst hsz
  have hts := atoms_spec (ws := w_Law_byteAt) B.pre
  have hl := lv_entry ([.ref (gad Y x0), .int x1, .int x2, .ref (gad Y x3)]) (n := 5) (Nat.le_of_ble_eq_true rfl)
  rw [lg_entry_eq]
  generalize (lg_sl ([.ref (gad Y x0), .int x1, .int x2, .ref (gad Y x3)]) ++ List.replicate (5 - (lg_sl ([.ref (gad Y x0), .int x1, .int x2, .ref (gad Y x3)])).length) Slot.unset).toArray = ls at hl ⊢
  exact mw_Law_byteAt ⟨B.exec, B.bytes, hml, findClass_of_methodNamed B.named, hts, B.returns, B.notSynchronized, hK, hY, hSt⟩ hlt (gx_table B (hts _ List.mem_cons_self)) x0 x1 x2 x3 S s.heap [] ls hx0 hx3 hw hP va_S.rf hl
